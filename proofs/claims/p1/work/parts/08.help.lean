theorem gx_c4 {w : Int32} (h0 : ¬ w < 0) (h1 : ¬ (4 : Int32) ≤ w) : w = 0 ∨ w = 1 ∨ w = 2 ∨ w = 3 := by
  obtain ⟨j, hj, rfl⟩ := nI_of h0
  have h2 : j < 4 := Nat.not_le.mp (fun h => h1 (nI_le h hj))
  rcases (show j = 0 ∨ j = 1 ∨ j = 2 ∨ j = 3 by omega) with rfl | rfl | rfl | rfl <;> decide
theorem gx_c7 {w : Int32} (h0 : ¬ w < 0) (h1 : ¬ (7 : Int32) ≤ w) : w = 0 ∨ w = 1 ∨ w = 2 ∨ w = 3 ∨ w = 4 ∨ w = 5 ∨ w = 6 := by
  obtain ⟨j, hj, rfl⟩ := nI_of h0
  have h2 : j < 7 := Nat.not_le.mp (fun h => h1 (nI_le h hj))
  rcases (show j = 0 ∨ j = 1 ∨ j = 2 ∨ j = 3 ∨ j = 4 ∨ j = 5 ∨ j = 6 by omega) with rfl | rfl | rfl | rfl | rfl | rfl | rfl <;> decide
theorem gx_c9 {w : Int32} (h0 : ¬ w < 0) (h1 : ¬ (9 : Int32) ≤ w) : w = 0 ∨ w = 1 ∨ w = 2 ∨ w = 3 ∨ w = 4 ∨ w = 5 ∨ w = 6 ∨ w = 7 ∨ w = 8 := by
  obtain ⟨j, hj, rfl⟩ := nI_of h0
  have h2 : j < 9 := Nat.not_le.mp (fun h => h1 (nI_le h hj))
  rcases (show j = 0 ∨ j = 1 ∨ j = 2 ∨ j = 3 ∨ j = 4 ∨ j = 5 ∨ j = 6 ∨ j = 7 ∨ j = 8 by omega) with rfl | rfl | rfl | rfl | rfl | rfl | rfl | rfl | rfl <;> decide
theorem gx_n0 {w : Int32} (h : w < 0) : w.toInt < 0 := by
  have := Int32.lt_iff_toInt_lt.mp h
  simpa using this
theorem gx_nh {w : Int32} {k : Nat} (hk : k < 2 ^ 31) (h : (OfNat.ofNat k : Int32) ≤ w) : ((k : Int) - 1) < w.toInt := by
  have h2 := Int32.le_iff_toInt_le.mp h
  have h3 : (OfNat.ofNat k : Int32).toInt = (k : Int) := nI_toInt hk
  rw [h3] at h2
  omega
theorem bk_kind {x : Int32} (h0 : ¬ x < 0) (h1 : ¬ (4 : Int32) ≤ x) : rg bk0 2088 (4 + x * 36 + 2) = 0 := by
  rcases gx_c4 h0 h1 with rfl | rfl | rfl | rfl <;> decide +kernel
theorem bk_size {x : Int32} (h0 : ¬ x < 0) (h1 : ¬ (4 : Int32) ≤ x) : rg bk0 2088 (4 + x * 36 + 3) = 0 := by
  rcases gx_c4 h0 h1 with rfl | rfl | rfl | rfl <;> decide +kernel
theorem bk_mat {x : Int32} (h0 : ¬ x < 0) (h1 : ¬ (4 : Int32) ≤ x) : rg bk0 2088 (2004 + x * 21 + 1) = -1 := by
  rcases gx_c4 h0 h1 with rfl | rfl | rfl | rfl <;> decide +kernel

def wo_c_isClass : List Cond := []
def wq_c_isClass : List Cond := .code yX11_isClass cX11_isClass 1 (some .boolean) :: (wo_c_isClass ++ [])
theorem gd_c_isClass : ∀ w ∈ wq_c_isClass, Gd w := List.forall_mem_cons.mpr ⟨Or.inl rfl, List.forall_mem_append.mpr ⟨gdl wo_c_isClass (by decide +kernel), (fun _ h => absurd h List.not_mem_nil)⟩⟩
theorem in_c_isClass : ∀ w ∈ wq_c_isClass, w ∈ lw_tbl := List.forall_mem_cons.mpr ⟨List.mem_of_getElem? (i := 981) (by decide +kernel), List.forall_mem_append.mpr ⟨inT wo_c_isClass [] (by decide +kernel), (fun _ h => absurd h List.not_mem_nil)⟩⟩
set_option maxHeartbeats 4000000 in
set_option maxRecDepth 100000 in
theorem c_isClass (l : Launch) (G : gG) (x : Int32) : Met l yX11_isClass wq_c_isClass ({ frames := 0, cells := 0, slots := 0, locals := 0 }) (va_Pc [.int x] (pP G [])) (vp_Si (fun r : Int32 => r = if x < 0 ∨ 4 ≤ x then 0 else 1)) 0 0 (fun _ => False) := by
  refine Met.ofW (cc := cX11_isClass) (maxL := 1) (ret := (some .boolean)) (by decide) rfl ?_
  intro p e s m args below meth c s₁ B hml hv
  obtain ⟨rfl, hP, hB⟩ := hv
  have hx := B.exec
  have hb := B.bytes
  have hr := B.returns
  have hts := atoms_spec (ws := wq_c_isClass) B.pre
  have hown : s.vm.findClass RX11 = some m.cls := findClass_of_methodNamed B.named
  have hlocks := B.notSynchronized
  have hK := hB.1
  have hP : va_P (gD G) vwCl [] s.heap := hP
  have hl := lv_entry ([.int x]) (n := 1) (Nat.le_of_ble_eq_true rfl)
  rw [lg_entry_eq]
  generalize (lg_sl ([.int x]) ++ List.replicate (1 - (lg_sl ([.int x])).length) Slot.unset).toArray = ls at hl ⊢
  have hl : lv_has ls 1 [(0, .int x)] := hl
  refine lv_iload_n hx hb dX11_isClass_0 rfl (lv_at hl 0 rfl) ?_
  refine lv_if_lt (tgt := 13) hx hb dX11_isClass_1 (by decide) (fun c_1 => ?_) (fun c_1 => ?_)
  · skip
    refine lv_iconst (v := 0) hx hb dX11_isClass_13 (by decide) ?_
    exact W.zret (v := 0) hx hb hr rfl (fun t ht hW => ⟨_, rfl, by rw [if_pos (show x < 0 ∨ 4 ≤ x from (Or.inl c_1))], ht⟩) (fun q h => absurd h List.not_mem_nil) dX11_isClass_14
  · skip
    refine lv_iload_n hx hb dX11_isClass_4 rfl (lv_at hl 0 rfl) ?_
    refine lv_iconst (v := 4) hx hb dX11_isClass_5 (by decide) ?_
    refine lv_icmp_ge (tgt := 13) hx hb dX11_isClass_6 (by decide) (fun c_2 => ?_) (fun c_2 => ?_)
    · skip
      refine lv_iconst (v := 0) hx hb dX11_isClass_13 (by decide) ?_
      exact W.zret (v := 0) hx hb hr rfl (fun t ht hW => ⟨_, rfl, by rw [if_pos (show x < 0 ∨ 4 ≤ x from (Or.inr c_2))], ht⟩) (fun q h => absurd h List.not_mem_nil) dX11_isClass_14
    · skip
      refine lv_iconst (v := 1) hx hb dX11_isClass_9 (by decide) ?_
      refine lv_goto (tgt := 14) hx hb dX11_isClass_10 (by decide) ?_
      exact W.zret (v := 1) hx hb hr rfl (fun t ht hW => ⟨_, rfl, by rw [if_neg (show ¬ (x < 0 ∨ 4 ≤ x) from (not_or.mpr ⟨c_1, c_2⟩))], ht⟩) (fun q h => absurd h List.not_mem_nil) dX11_isClass_14

def wo_c_isMat : List Cond := []
def wq_c_isMat : List Cond := .code yX11_isMat cX11_isMat 1 (some .boolean) :: (wo_c_isMat ++ [])
theorem gd_c_isMat : ∀ w ∈ wq_c_isMat, Gd w := List.forall_mem_cons.mpr ⟨Or.inl rfl, List.forall_mem_append.mpr ⟨gdl wo_c_isMat (by decide +kernel), (fun _ h => absurd h List.not_mem_nil)⟩⟩
theorem in_c_isMat : ∀ w ∈ wq_c_isMat, w ∈ lw_tbl := List.forall_mem_cons.mpr ⟨List.mem_of_getElem? (i := 1238) (by decide +kernel), List.forall_mem_append.mpr ⟨inT wo_c_isMat [] (by decide +kernel), (fun _ h => absurd h List.not_mem_nil)⟩⟩
set_option maxHeartbeats 4000000 in
set_option maxRecDepth 100000 in
theorem c_isMat (l : Launch) (G : gG) (x : Int32) : Met l yX11_isMat wq_c_isMat ({ frames := 0, cells := 0, slots := 0, locals := 0 }) (va_Pc [.int x] (pP G [])) (vp_Si (fun r : Int32 => r = if x < 0 ∨ 4 ≤ x then 0 else 1)) 0 0 (fun _ => False) := by
  refine Met.ofW (cc := cX11_isMat) (maxL := 1) (ret := (some .boolean)) (by decide) rfl ?_
  intro p e s m args below meth c s₁ B hml hv
  obtain ⟨rfl, hP, hB⟩ := hv
  have hx := B.exec
  have hb := B.bytes
  have hr := B.returns
  have hts := atoms_spec (ws := wq_c_isMat) B.pre
  have hown : s.vm.findClass RX11 = some m.cls := findClass_of_methodNamed B.named
  have hlocks := B.notSynchronized
  have hK := hB.1
  have hP : va_P (gD G) vwCl [] s.heap := hP
  have hl := lv_entry ([.int x]) (n := 1) (Nat.le_of_ble_eq_true rfl)
  rw [lg_entry_eq]
  generalize (lg_sl ([.int x]) ++ List.replicate (1 - (lg_sl ([.int x])).length) Slot.unset).toArray = ls at hl ⊢
  have hl : lv_has ls 1 [(0, .int x)] := hl
  refine lv_iload_n hx hb dX11_isMat_0 rfl (lv_at hl 0 rfl) ?_
  refine lv_if_lt (tgt := 13) hx hb dX11_isMat_1 (by decide) (fun c_1 => ?_) (fun c_1 => ?_)
  · skip
    refine lv_iconst (v := 0) hx hb dX11_isMat_13 (by decide) ?_
    exact W.zret (v := 0) hx hb hr rfl (fun t ht hW => ⟨_, rfl, by rw [if_pos (show x < 0 ∨ 4 ≤ x from (Or.inl c_1))], ht⟩) (fun q h => absurd h List.not_mem_nil) dX11_isMat_14
  · skip
    refine lv_iload_n hx hb dX11_isMat_4 rfl (lv_at hl 0 rfl) ?_
    refine lv_iconst (v := 4) hx hb dX11_isMat_5 (by decide) ?_
    refine lv_icmp_ge (tgt := 13) hx hb dX11_isMat_6 (by decide) (fun c_2 => ?_) (fun c_2 => ?_)
    · skip
      refine lv_iconst (v := 0) hx hb dX11_isMat_13 (by decide) ?_
      exact W.zret (v := 0) hx hb hr rfl (fun t ht hW => ⟨_, rfl, by rw [if_pos (show x < 0 ∨ 4 ≤ x from (Or.inr c_2))], ht⟩) (fun q h => absurd h List.not_mem_nil) dX11_isMat_14
    · skip
      refine lv_iconst (v := 1) hx hb dX11_isMat_9 (by decide) ?_
      refine lv_goto (tgt := 14) hx hb dX11_isMat_10 (by decide) ?_
      exact W.zret (v := 1) hx hb hr rfl (fun t ht hW => ⟨_, rfl, by rw [if_neg (show ¬ (x < 0 ∨ 4 ≤ x) from (not_or.mpr ⟨c_1, c_2⟩))], ht⟩) (fun q h => absurd h List.not_mem_nil) dX11_isMat_14

def wo_c_isSide : List Cond := []
def wq_c_isSide : List Cond := .code yX11_isSide cX11_isSide 1 (some .boolean) :: (wo_c_isSide ++ [])
theorem gd_c_isSide : ∀ w ∈ wq_c_isSide, Gd w := List.forall_mem_cons.mpr ⟨Or.inl rfl, List.forall_mem_append.mpr ⟨gdl wo_c_isSide (by decide +kernel), (fun _ h => absurd h List.not_mem_nil)⟩⟩
theorem in_c_isSide : ∀ w ∈ wq_c_isSide, w ∈ lw_tbl := List.forall_mem_cons.mpr ⟨List.mem_of_getElem? (i := 1267) (by decide +kernel), List.forall_mem_append.mpr ⟨inT wo_c_isSide [] (by decide +kernel), (fun _ h => absurd h List.not_mem_nil)⟩⟩
set_option maxHeartbeats 4000000 in
set_option maxRecDepth 100000 in
theorem c_isSide (l : Launch) (G : gG) (x : Int32) : Met l yX11_isSide wq_c_isSide ({ frames := 0, cells := 0, slots := 0, locals := 0 }) (va_Pc [.int x] (pP G [])) (vp_Si (fun r : Int32 => r = if x = 0 ∨ x = 1 then 1 else 0)) 0 0 (fun _ => False) := by
  refine Met.ofW (cc := cX11_isSide) (maxL := 1) (ret := (some .boolean)) (by decide) rfl ?_
  intro p e s m args below meth c s₁ B hml hv
  obtain ⟨rfl, hP, hB⟩ := hv
  have hx := B.exec
  have hb := B.bytes
  have hr := B.returns
  have hts := atoms_spec (ws := wq_c_isSide) B.pre
  have hown : s.vm.findClass RX11 = some m.cls := findClass_of_methodNamed B.named
  have hlocks := B.notSynchronized
  have hK := hB.1
  have hP : va_P (gD G) vwCl [] s.heap := hP
  have hl := lv_entry ([.int x]) (n := 1) (Nat.le_of_ble_eq_true rfl)
  rw [lg_entry_eq]
  generalize (lg_sl ([.int x]) ++ List.replicate (1 - (lg_sl ([.int x])).length) Slot.unset).toArray = ls at hl ⊢
  have hl : lv_has ls 1 [(0, .int x)] := hl
  refine lv_iload_n hx hb dX11_isSide_0 rfl (lv_at hl 0 rfl) ?_
  refine lv_if_eq (tgt := 9) hx hb dX11_isSide_1 (by decide) (fun c_1 => ?_) (fun c_1 => ?_)
  · skip
    refine lv_iconst (v := 1) hx hb dX11_isSide_9 (by decide) ?_
    refine lv_goto (tgt := 14) hx hb dX11_isSide_10 (by decide) ?_
    exact W.zret (v := 1) hx hb hr rfl (fun t ht hW => ⟨_, rfl, by rw [if_pos (show x = 0 ∨ x = 1 from (Or.inl c_1))], ht⟩) (fun q h => absurd h List.not_mem_nil) dX11_isSide_14
  · skip
    refine lv_iload_n hx hb dX11_isSide_4 rfl (lv_at hl 0 rfl) ?_
    refine lv_iconst (v := 1) hx hb dX11_isSide_5 (by decide) ?_
    refine lv_icmp_ne (tgt := 13) hx hb dX11_isSide_6 (by decide) (fun c_2 => ?_) (fun c_2 => ?_)
    · skip
      refine lv_iconst (v := 0) hx hb dX11_isSide_13 (by decide) ?_
      exact W.zret (v := 0) hx hb hr rfl (fun t ht hW => ⟨_, rfl, by rw [if_neg (show ¬ (x = 0 ∨ x = 1) from (not_or.mpr ⟨c_1, c_2⟩))], ht⟩) (fun q h => absurd h List.not_mem_nil) dX11_isSide_14
    · skip
      refine lv_iconst (v := 1) hx hb dX11_isSide_9 (by decide) ?_
      refine lv_goto (tgt := 14) hx hb dX11_isSide_10 (by decide) ?_
      exact W.zret (v := 1) hx hb hr rfl (fun t ht hW => ⟨_, rfl, by rw [if_pos (show x = 0 ∨ x = 1 from (Or.inr c_2))], ht⟩) (fun q h => absurd h List.not_mem_nil) dX11_isSide_14

def wo_c_isGrams : List Cond := [.constant RX11 323 (200000)]
def wq_c_isGrams : List Cond := .code yX11_isGrams cX11_isGrams 1 (some .boolean) :: (wo_c_isGrams ++ [])
theorem gd_c_isGrams : ∀ w ∈ wq_c_isGrams, Gd w := List.forall_mem_cons.mpr ⟨Or.inl rfl, List.forall_mem_append.mpr ⟨gdl wo_c_isGrams (by decide +kernel), (fun _ h => absurd h List.not_mem_nil)⟩⟩
theorem in_c_isGrams : ∀ w ∈ wq_c_isGrams, w ∈ lw_tbl := List.forall_mem_cons.mpr ⟨List.mem_of_getElem? (i := 984) (by decide +kernel), List.forall_mem_append.mpr ⟨inT wo_c_isGrams [985] (by decide +kernel), (fun _ h => absurd h List.not_mem_nil)⟩⟩
set_option maxHeartbeats 4000000 in
set_option maxRecDepth 100000 in
theorem c_isGrams (l : Launch) (G : gG) (x : Int32) : Met l yX11_isGrams wq_c_isGrams ({ frames := 0, cells := 0, slots := 0, locals := 0 }) (va_Pc [.int x] (pP G [])) (vp_Si (fun r : Int32 => r = if x < 0 ∨ 200000 < x then 0 else 1)) 0 0 (fun _ => False) := by
  refine Met.ofW (cc := cX11_isGrams) (maxL := 1) (ret := (some .boolean)) (by decide) rfl ?_
  intro p e s m args below meth c s₁ B hml hv
  obtain ⟨rfl, hP, hB⟩ := hv
  have hx := B.exec
  have hb := B.bytes
  have hr := B.returns
  have hts := atoms_spec (ws := wq_c_isGrams) B.pre
  have hown : s.vm.findClass RX11 = some m.cls := findClass_of_methodNamed B.named
  have hlocks := B.notSynchronized
  have hK := hB.1
  have hP : va_P (gD G) vwCl [] s.heap := hP
  have hl := lv_entry ([.int x]) (n := 1) (Nat.le_of_ble_eq_true rfl)
  rw [lg_entry_eq]
  generalize (lg_sl ([.int x]) ++ List.replicate (1 - (lg_sl ([.int x])).length) Slot.unset).toArray = ls at hl ⊢
  have hl : lv_has ls 1 [(0, .int x)] := hl
  refine lv_iload_n hx hb dX11_isGrams_0 rfl (lv_at hl 0 rfl) ?_
  refine lv_if_lt (tgt := 15) hx hb dX11_isGrams_1 (by decide) (fun c_1 => ?_) (fun c_1 => ?_)
  · skip
    refine lv_iconst (v := 0) hx hb dX11_isGrams_15 (by decide) ?_
    exact W.zret (v := 0) hx hb hr rfl (fun t ht hW => ⟨_, rfl, by rw [if_pos (show x < 0 ∨ 200000 < x from (Or.inl c_1))], ht⟩) (fun q h => absurd h List.not_mem_nil) dX11_isGrams_16
  · skip
    refine lv_iload_n hx hb dX11_isGrams_4 rfl (lv_at hl 0 rfl) ?_
    refine lv_ldcw (v := 200000) hx hb hown (hts (.constant RX11 323 (200000)) (List.mem_cons_of_mem _ (List.mem_append_left _ (List.mem_of_getElem? (i := 0) rfl)))) dX11_isGrams_5 ?_
    refine lv_icmp_gt (tgt := 15) hx hb dX11_isGrams_8 (by decide) (fun c_2 => ?_) (fun c_2 => ?_)
    · skip
      refine lv_iconst (v := 0) hx hb dX11_isGrams_15 (by decide) ?_
      exact W.zret (v := 0) hx hb hr rfl (fun t ht hW => ⟨_, rfl, by rw [if_pos (show x < 0 ∨ 200000 < x from (Or.inr c_2))], ht⟩) (fun q h => absurd h List.not_mem_nil) dX11_isGrams_16
    · skip
      refine lv_iconst (v := 1) hx hb dX11_isGrams_11 (by decide) ?_
      refine lv_goto (tgt := 16) hx hb dX11_isGrams_12 (by decide) ?_
      exact W.zret (v := 1) hx hb hr rfl (fun t ht hW => ⟨_, rfl, by rw [if_neg (show ¬ (x < 0 ∨ 200000 < x) from (not_or.mpr ⟨c_1, c_2⟩))], ht⟩) (fun q h => absurd h List.not_mem_nil) dX11_isGrams_16

def wo_c_people : List Cond := [.fieldLink RX8 9 "JudoHall$Roll" "book" "LJudoHall$Book;", .methodLink RX8 17 yX1_at, .instanceMethod yX1_at, .selects RX1 yX1_at yX1_at, .initialized RX1]
def wq_c_people : List Cond := .code yX8_people cX8_people 1 (some .int) :: (wo_c_people ++ (wsX80 ++ (wq_c_Book_at ++ [])))
theorem gd_c_people : ∀ w ∈ wq_c_people, Gd w := List.forall_mem_cons.mpr ⟨Or.inl rfl, List.forall_mem_append.mpr ⟨gdl wo_c_people (by decide +kernel), (List.forall_mem_append.mpr ⟨gd_wsX80, (List.forall_mem_append.mpr ⟨gd_c_Book_at, (fun _ h => absurd h List.not_mem_nil)⟩)⟩)⟩⟩
theorem in_c_people : ∀ w ∈ wq_c_people, w ∈ lw_tbl := List.forall_mem_cons.mpr ⟨List.mem_of_getElem? (i := 1003) (by decide +kernel), List.forall_mem_append.mpr ⟨inT wo_c_people [385, 1004, 623, 624, 155] (by decide +kernel), (List.forall_mem_append.mpr ⟨in_wsX80, (List.forall_mem_append.mpr ⟨in_c_Book_at, (fun _ h => absurd h List.not_mem_nil)⟩)⟩)⟩⟩
set_option maxHeartbeats 4000000 in
set_option maxRecDepth 100000 in
theorem c_people (l : Launch) (G : gG) (rl : Nat) (bk : Nat) (ca : Nat) (v1 : Value) (v2 : Value) (v3 : Value) (v4 : Value) (v5 : Value) : Met l yX8_people wq_c_people ({ frames := 1, cells := 0, slots := 0, locals := 21 }) (va_Pc [.ref rl] (pP G [(rl, .inr (9, [.ref bk])), (bk, .inr (2, [.ref ca, v1, v2, v3, v4, v5])), (ca, .inl (gI G, 2088, .inl bk0))])) (vp_Si (fun r : Int32 => r = 0)) 0 0 (fun _ => False) := by
  refine Met.ofW (cc := cX8_people) (maxL := 1) (ret := (some .int)) (by decide) rfl ?_
  intro p e s m args below meth c s₁ B hml hv
  obtain ⟨rfl, hP, hB⟩ := hv
  have hx := B.exec
  have hb := B.bytes
  have hr := B.returns
  have hts := atoms_spec (ws := wq_c_people) B.pre
  have hown : s.vm.findClass RX8 = some m.cls := findClass_of_methodNamed B.named
  have hlocks := B.notSynchronized
  have hK := hB.1
  have hP : va_P (gD G) vwCl [(rl, .inr (9, [.ref bk])), (bk, .inr (2, [.ref ca, v1, v2, v3, v4, v5])), (ca, .inl (gI G, 2088, .inl bk0))] s.heap := hP
  have hl := lv_entry ([.ref rl]) (n := 1) (Nat.le_of_ble_eq_true rfl)
  rw [lg_entry_eq]
  generalize (lg_sl ([.ref rl]) ++ List.replicate (1 - (lg_sl ([.ref rl])).length) Slot.unset).toArray = ls at hl ⊢
  have hl : lv_has ls 1 [(0, .ref rl)] := hl
  refine lv_aload_n hx hb dX8_people_0 rfl (lv_at hl 0 rfl) ?_
  refine va_get (D := gD G) (ci := 9) (v := .ref bk) (C := RX8) (T := TX8) (N := 1) hx hb hts (fun _ h9 => (List.mem_cons_of_mem _ (List.mem_append_right _ (List.mem_append_left _ h9)))) hown hK hP 0 rfl rfl 0 (by decide) (hts (.fieldLink RX8 9 "JudoHall$Roll" "book" "LJudoHall$Book;") (List.mem_cons_of_mem _ (List.mem_append_left _ (List.mem_of_getElem? (i := 0) rfl)))) (fun _ h9 => h9) rfl dX8_people_1 ?_
  refine lv_iconst (v := 2) hx hb dX8_people_4 (by decide) ?_
  refine vp_callSi (va_Run.run (va_runV (As := [.int 2]) (rest := []) ⟨hx, hb, hml, hown, hts⟩ (c_Book_at l G bk ca 2088 bk0 v1 v2 v3 v4 v5 2 (by decide)) (cwV 1 hts (gdV (List.mem_cons_of_mem _ (List.mem_append_left _ (List.mem_of_getElem? (i := 1) rfl))) (List.mem_cons_of_mem _ (List.mem_append_left _ (List.mem_of_getElem? (i := 2) rfl))) (List.mem_cons_of_mem _ (List.mem_append_left _ (List.mem_of_getElem? (i := 3) rfl))) (List.mem_cons_of_mem _ (List.mem_append_left _ (List.mem_of_getElem? (i := 4) rfl))) (fun w9 h9 => ⟨(List.mem_cons_of_mem _ (List.mem_append_right _ (List.mem_append_right _ (List.mem_append_left _ h9)))), gd_c_Book_at w9 h9⟩)) rfl rfl rfl kVX1_at ⟨Nat.le_of_ble_eq_true rfl, Nat.le_of_ble_eq_true rfl⟩) (preV_p (As := [.int 2]) (hP.sub (ws' := [(bk, .inr (2, [.ref ca, v1, v2, v3, v4, v5])), (ca, .inl (gI G, 2088, .inl bk0))]) [1, 2] rfl) hB rfl rfl) rfl rfl hl.1 rfl (lv_room (Nat.le_of_ble_eq_true rfl)) dX8_people_5 ⟨Nat.le_of_ble_eq_true rfl, Nat.le_of_ble_eq_true rfl⟩)) (fun r_1 hr_1 => ?_)
  have hr_1 : r_1 = 0 := hr_1.trans (by decide +kernel)
  subst hr_1
  exact W.iret (v := 0) hx hb hr (fun t ht hW => ⟨_, rfl, rfl, ht⟩) (fun q h => absurd h List.not_mem_nil) dX8_people_8

def wo_c_Roll_has : List Cond := [.methodLink RX8 21 yX8_people, .instanceMethod yX8_people, .selects RX8 yX8_people yX8_people, .initialized RX8]
def wq_c_Roll_has : List Cond := .code yX8_has cX8_has 2 (some .boolean) :: (wo_c_Roll_has ++ (wq_c_people ++ []))
theorem gd_c_Roll_has : ∀ w ∈ wq_c_Roll_has, Gd w := List.forall_mem_cons.mpr ⟨Or.inl rfl, List.forall_mem_append.mpr ⟨gdl wo_c_Roll_has (by decide +kernel), (List.forall_mem_append.mpr ⟨gd_c_people, (fun _ h => absurd h List.not_mem_nil)⟩)⟩⟩
theorem in_c_Roll_has : ∀ w ∈ wq_c_Roll_has, w ∈ lw_tbl := List.forall_mem_cons.mpr ⟨List.mem_of_getElem? (i := 1030) (by decide +kernel), List.forall_mem_append.mpr ⟨inT wo_c_Roll_has [1000, 1001, 1002, 162] (by decide +kernel), (List.forall_mem_append.mpr ⟨in_c_people, (fun _ h => absurd h List.not_mem_nil)⟩)⟩⟩
set_option maxHeartbeats 4000000 in
set_option maxRecDepth 100000 in
theorem c_Roll_has (l : Launch) (G : gG) (rl : Nat) (bk : Nat) (ca : Nat) (v1 : Value) (v2 : Value) (v3 : Value) (v4 : Value) (v5 : Value) (x : Int32) : Met l yX8_has wq_c_Roll_has ({ frames := 2, cells := 0, slots := 0, locals := 41 }) (va_Pc [.ref rl, .int x] (pP G [(rl, .inr (9, [.ref bk])), (bk, .inr (2, [.ref ca, v1, v2, v3, v4, v5])), (ca, .inl (gI G, 2088, .inl bk0))])) (vp_Si (fun r : Int32 => r = 0)) 0 0 (fun _ => False) := by
  refine Met.ofW (cc := cX8_has) (maxL := 2) (ret := (some .boolean)) (by decide) rfl ?_
  intro p e s m args below meth c s₁ B hml hv
  obtain ⟨rfl, hP, hB⟩ := hv
  have hx := B.exec
  have hb := B.bytes
  have hr := B.returns
  have hts := atoms_spec (ws := wq_c_Roll_has) B.pre
  have hown : s.vm.findClass RX8 = some m.cls := findClass_of_methodNamed B.named
  have hlocks := B.notSynchronized
  have hK := hB.1
  have hP : va_P (gD G) vwCl [(rl, .inr (9, [.ref bk])), (bk, .inr (2, [.ref ca, v1, v2, v3, v4, v5])), (ca, .inl (gI G, 2088, .inl bk0))] s.heap := hP
  have hl := lv_entry ([.ref rl, .int x]) (n := 2) (Nat.le_of_ble_eq_true rfl)
  rw [lg_entry_eq]
  generalize (lg_sl ([.ref rl, .int x]) ++ List.replicate (2 - (lg_sl ([.ref rl, .int x])).length) Slot.unset).toArray = ls at hl ⊢
  have hl : lv_has ls 2 [(0, .ref rl), (1, .int x)] := hl
  refine lv_iload_n hx hb dX8_has_0 rfl (lv_at hl 1 rfl) ?_
  refine lv_if_lt (tgt := 16) hx hb dX8_has_1 (by decide) (fun c_1 => ?_) (fun c_1 => ?_)
  · skip
    refine lv_iconst (v := 0) hx hb dX8_has_16 (by decide) ?_
    exact W.zret (v := 0) hx hb hr rfl (fun t ht hW => ⟨_, rfl, rfl, ht⟩) (fun q h => absurd h List.not_mem_nil) dX8_has_17
  · skip
    refine lv_iload_n hx hb dX8_has_4 rfl (lv_at hl 1 rfl) ?_
    refine lv_aload_n hx hb dX8_has_5 rfl (lv_at hl 0 rfl) ?_
    refine vp_callSi (va_Run.run (va_runV (As := []) (rest := [.int x]) ⟨hx, hb, hml, hown, hts⟩ (c_people l G rl bk ca v1 v2 v3 v4 v5) (cwV 0 hts (gdV (List.mem_cons_of_mem _ (List.mem_append_left _ (List.mem_of_getElem? (i := 0) rfl))) (List.mem_cons_of_mem _ (List.mem_append_left _ (List.mem_of_getElem? (i := 1) rfl))) (List.mem_cons_of_mem _ (List.mem_append_left _ (List.mem_of_getElem? (i := 2) rfl))) (List.mem_cons_of_mem _ (List.mem_append_left _ (List.mem_of_getElem? (i := 3) rfl))) (fun w9 h9 => ⟨(List.mem_cons_of_mem _ (List.mem_append_right _ (List.mem_append_left _ h9))), gd_c_people w9 h9⟩)) rfl rfl rfl kVX8_people ⟨Nat.le_of_ble_eq_true rfl, Nat.le_of_ble_eq_true rfl⟩) (preV_p (As := []) (hP.sub (ws' := [(rl, .inr (9, [.ref bk])), (bk, .inr (2, [.ref ca, v1, v2, v3, v4, v5])), (ca, .inl (gI G, 2088, .inl bk0))]) [0, 1, 2] rfl) hB rfl rfl) rfl rfl hl.1 rfl (lv_room (Nat.le_of_ble_eq_true rfl)) dX8_has_6 ⟨Nat.le_of_ble_eq_true rfl, Nat.le_of_ble_eq_true rfl⟩)) (fun r_2 hr_2 => ?_)
    subst hr_2
    refine lv_icmp_ge (tgt := 16) hx hb dX8_has_9 (by decide) (fun _ => ?_) (fun c9 => absurd (Int32.not_lt.mp c_1) c9)
    refine lv_iconst (v := 0) hx hb dX8_has_16 (by decide) ?_
    exact W.zret (v := 0) hx hb hr rfl (fun t ht hW => ⟨_, rfl, rfl, ht⟩) (fun q h => absurd h List.not_mem_nil) dX8_has_17

def wo_c_wasAny : List Cond := [.methodLink RX8 21 yX8_people, .instanceMethod yX8_people, .selects RX8 yX8_people yX8_people, .initialized RX8]
def wq_c_wasAny : List Cond := .code yX8_wasAnyAtScales cX8_wasAnyAtScales 3 (some .boolean) :: (wo_c_wasAny ++ (wq_c_people ++ []))
theorem gd_c_wasAny : ∀ w ∈ wq_c_wasAny, Gd w := List.forall_mem_cons.mpr ⟨Or.inl rfl, List.forall_mem_append.mpr ⟨gdl wo_c_wasAny (by decide +kernel), (List.forall_mem_append.mpr ⟨gd_c_people, (fun _ h => absurd h List.not_mem_nil)⟩)⟩⟩
theorem in_c_wasAny : ∀ w ∈ wq_c_wasAny, w ∈ lw_tbl := List.forall_mem_cons.mpr ⟨List.mem_of_getElem? (i := 999) (by decide +kernel), List.forall_mem_append.mpr ⟨inT wo_c_wasAny [1000, 1001, 1002, 162] (by decide +kernel), (List.forall_mem_append.mpr ⟨in_c_people, (fun _ h => absurd h List.not_mem_nil)⟩)⟩⟩
set_option maxHeartbeats 4000000 in
set_option maxRecDepth 100000 in
theorem c_wasAny (l : Launch) (G : gG) (rl : Nat) (bk : Nat) (ca : Nat) (v1 : Value) (v2 : Value) (v3 : Value) (v4 : Value) (v5 : Value) (x : Int32) : Met l yX8_wasAnyAtScales wq_c_wasAny ({ frames := 2, cells := 0, slots := 0, locals := 41 }) (va_Pc [.ref rl, .int x] (pP G [(rl, .inr (9, [.ref bk])), (bk, .inr (2, [.ref ca, v1, v2, v3, v4, v5])), (ca, .inl (gI G, 2088, .inl bk0))])) (vp_Si (fun r : Int32 => r = 0)) 0 0 (fun _ => False) := by
  refine Met.ofW (cc := cX8_wasAnyAtScales) (maxL := 3) (ret := (some .boolean)) (by decide) rfl ?_
  intro p e s m args below meth c s₁ B hml hv
  obtain ⟨rfl, hP, hB⟩ := hv
  have hx := B.exec
  have hb := B.bytes
  have hr := B.returns
  have hts := atoms_spec (ws := wq_c_wasAny) B.pre
  have hown : s.vm.findClass RX8 = some m.cls := findClass_of_methodNamed B.named
  have hlocks := B.notSynchronized
  have hK := hB.1
  have hP : va_P (gD G) vwCl [(rl, .inr (9, [.ref bk])), (bk, .inr (2, [.ref ca, v1, v2, v3, v4, v5])), (ca, .inl (gI G, 2088, .inl bk0))] s.heap := hP
  have hl := lv_entry ([.ref rl, .int x]) (n := 3) (Nat.le_of_ble_eq_true rfl)
  rw [lg_entry_eq]
  generalize (lg_sl ([.ref rl, .int x]) ++ List.replicate (3 - (lg_sl ([.ref rl, .int x])).length) Slot.unset).toArray = ls at hl ⊢
  have hl : lv_has ls 3 [(0, .ref rl), (1, .int x)] := hl
  refine lv_iconst (v := 0) hx hb dX8_wasAnyAtScales_0 (by decide) ?_
  refine lv_istore_n (lv' := [(2, .int 0), (0, .ref rl), (1, .int x)]) hx hb dX8_wasAnyAtScales_1 rfl hl (by decide) rfl (fun ls hl => ?_)
  refine lv_iload_n hx hb dX8_wasAnyAtScales_2 rfl (lv_at hl 0 rfl) ?_
  refine lv_aload_n hx hb dX8_wasAnyAtScales_3 rfl (lv_at hl 1 rfl) ?_
  refine vp_callSi (va_Run.run (va_runV (As := []) (rest := [.int 0]) ⟨hx, hb, hml, hown, hts⟩ (c_people l G rl bk ca v1 v2 v3 v4 v5) (cwV 0 hts (gdV (List.mem_cons_of_mem _ (List.mem_append_left _ (List.mem_of_getElem? (i := 0) rfl))) (List.mem_cons_of_mem _ (List.mem_append_left _ (List.mem_of_getElem? (i := 1) rfl))) (List.mem_cons_of_mem _ (List.mem_append_left _ (List.mem_of_getElem? (i := 2) rfl))) (List.mem_cons_of_mem _ (List.mem_append_left _ (List.mem_of_getElem? (i := 3) rfl))) (fun w9 h9 => ⟨(List.mem_cons_of_mem _ (List.mem_append_right _ (List.mem_append_left _ h9))), gd_c_people w9 h9⟩)) rfl rfl rfl kVX8_people ⟨Nat.le_of_ble_eq_true rfl, Nat.le_of_ble_eq_true rfl⟩) (preV_p (As := []) (hP.sub (ws' := [(rl, .inr (9, [.ref bk])), (bk, .inr (2, [.ref ca, v1, v2, v3, v4, v5])), (ca, .inl (gI G, 2088, .inl bk0))]) [0, 1, 2] rfl) hB rfl rfl) rfl rfl hl.1 rfl (lv_room (Nat.le_of_ble_eq_true rfl)) dX8_wasAnyAtScales_4 ⟨Nat.le_of_ble_eq_true rfl, Nat.le_of_ble_eq_true rfl⟩)) (fun r_1 hr_1 => ?_)
  subst hr_1
  refine lv_icmp_ge (tgt := 42) hx hb dX8_wasAnyAtScales_7 (by decide) (fun _ => ?_) (fun c9 => absurd (by decide) c9)
  refine lv_iconst (v := 0) hx hb dX8_wasAnyAtScales_42 (by decide) ?_
  exact W.zret (v := 0) hx hb hr rfl (fun t ht hW => ⟨_, rfl, rfl, ht⟩) (fun q h => absurd h List.not_mem_nil) dX8_wasAnyAtScales_43

def wo_c_fightersOf : List Cond := [.methodLink RX8 21 yX8_people, .instanceMethod yX8_people, .selects RX8 yX8_people yX8_people, .initialized RX8]
def wq_c_fightersOf : List Cond := .code yX8_fightersOf cX8_fightersOf 4 (some .int) :: (wo_c_fightersOf ++ (wq_c_people ++ []))
theorem gd_c_fightersOf : ∀ w ∈ wq_c_fightersOf, Gd w := List.forall_mem_cons.mpr ⟨Or.inl rfl, List.forall_mem_append.mpr ⟨gdl wo_c_fightersOf (by decide +kernel), (List.forall_mem_append.mpr ⟨gd_c_people, (fun _ h => absurd h List.not_mem_nil)⟩)⟩⟩
theorem in_c_fightersOf : ∀ w ∈ wq_c_fightersOf, w ∈ lw_tbl := List.forall_mem_cons.mpr ⟨List.mem_of_getElem? (i := 1194) (by decide +kernel), List.forall_mem_append.mpr ⟨inT wo_c_fightersOf [1000, 1001, 1002, 162] (by decide +kernel), (List.forall_mem_append.mpr ⟨in_c_people, (fun _ h => absurd h List.not_mem_nil)⟩)⟩⟩
set_option maxHeartbeats 4000000 in
set_option maxRecDepth 100000 in
theorem c_fightersOf (l : Launch) (G : gG) (rl : Nat) (bk : Nat) (ca : Nat) (v1 : Value) (v2 : Value) (v3 : Value) (v4 : Value) (v5 : Value) (x : Int32) : Met l yX8_fightersOf wq_c_fightersOf ({ frames := 2, cells := 0, slots := 0, locals := 41 }) (va_Pc [.ref rl, .int x] (pP G [(rl, .inr (9, [.ref bk])), (bk, .inr (2, [.ref ca, v1, v2, v3, v4, v5])), (ca, .inl (gI G, 2088, .inl bk0))])) (vp_Si (fun r : Int32 => r = 0)) 0 0 (fun _ => False) := by
  refine Met.ofW (cc := cX8_fightersOf) (maxL := 4) (ret := (some .int)) (by decide) rfl ?_
  intro p e s m args below meth c s₁ B hml hv
  obtain ⟨rfl, hP, hB⟩ := hv
  have hx := B.exec
  have hb := B.bytes
  have hr := B.returns
  have hts := atoms_spec (ws := wq_c_fightersOf) B.pre
  have hown : s.vm.findClass RX8 = some m.cls := findClass_of_methodNamed B.named
  have hlocks := B.notSynchronized
  have hK := hB.1
  have hP : va_P (gD G) vwCl [(rl, .inr (9, [.ref bk])), (bk, .inr (2, [.ref ca, v1, v2, v3, v4, v5])), (ca, .inl (gI G, 2088, .inl bk0))] s.heap := hP
  have hl := lv_entry ([.ref rl, .int x]) (n := 4) (Nat.le_of_ble_eq_true rfl)
  rw [lg_entry_eq]
  generalize (lg_sl ([.ref rl, .int x]) ++ List.replicate (4 - (lg_sl ([.ref rl, .int x])).length) Slot.unset).toArray = ls at hl ⊢
  have hl : lv_has ls 4 [(0, .ref rl), (1, .int x)] := hl
  refine lv_iconst (v := 0) hx hb dX8_fightersOf_0 (by decide) ?_
  refine lv_istore_n (lv' := [(2, .int 0), (0, .ref rl), (1, .int x)]) hx hb dX8_fightersOf_1 rfl hl (by decide) rfl (fun ls hl => ?_)
  refine lv_iconst (v := 0) hx hb dX8_fightersOf_2 (by decide) ?_
  refine lv_istore_n (lv' := [(3, .int 0), (2, .int 0), (0, .ref rl), (1, .int x)]) hx hb dX8_fightersOf_3 rfl hl (by decide) rfl (fun ls hl => ?_)
  refine lv_iload_n hx hb dX8_fightersOf_4 rfl (lv_at hl 0 rfl) ?_
  refine lv_aload_n hx hb dX8_fightersOf_5 rfl (lv_at hl 2 rfl) ?_
  refine vp_callSi (va_Run.run (va_runV (As := []) (rest := [.int 0]) ⟨hx, hb, hml, hown, hts⟩ (c_people l G rl bk ca v1 v2 v3 v4 v5) (cwV 0 hts (gdV (List.mem_cons_of_mem _ (List.mem_append_left _ (List.mem_of_getElem? (i := 0) rfl))) (List.mem_cons_of_mem _ (List.mem_append_left _ (List.mem_of_getElem? (i := 1) rfl))) (List.mem_cons_of_mem _ (List.mem_append_left _ (List.mem_of_getElem? (i := 2) rfl))) (List.mem_cons_of_mem _ (List.mem_append_left _ (List.mem_of_getElem? (i := 3) rfl))) (fun w9 h9 => ⟨(List.mem_cons_of_mem _ (List.mem_append_right _ (List.mem_append_left _ h9))), gd_c_people w9 h9⟩)) rfl rfl rfl kVX8_people ⟨Nat.le_of_ble_eq_true rfl, Nat.le_of_ble_eq_true rfl⟩) (preV_p (As := []) (hP.sub (ws' := [(rl, .inr (9, [.ref bk])), (bk, .inr (2, [.ref ca, v1, v2, v3, v4, v5])), (ca, .inl (gI G, 2088, .inl bk0))]) [0, 1, 2] rfl) hB rfl rfl) rfl rfl hl.1 rfl (lv_room (Nat.le_of_ble_eq_true rfl)) dX8_fightersOf_6 ⟨Nat.le_of_ble_eq_true rfl, Nat.le_of_ble_eq_true rfl⟩)) (fun r_1 hr_1 => ?_)
  subst hr_1
  refine lv_icmp_ge (tgt := 35) hx hb dX8_fightersOf_9 (by decide) (fun _ => ?_) (fun c9 => absurd (by decide) c9)
  refine lv_iload_n hx hb dX8_fightersOf_35 rfl (lv_at hl 1 rfl) ?_
  exact W.iret (v := 0) hx hb hr (fun t ht hW => ⟨_, rfl, rfl, ht⟩) (fun q h => absurd h List.not_mem_nil) dX8_fightersOf_36

def wo_c_weighedOf : List Cond := [.methodLink RX8 21 yX8_people, .instanceMethod yX8_people, .selects RX8 yX8_people yX8_people, .initialized RX8]
def wq_c_weighedOf : List Cond := .code yX8_weighedOf cX8_weighedOf 4 (some .int) :: (wo_c_weighedOf ++ (wq_c_people ++ []))
theorem gd_c_weighedOf : ∀ w ∈ wq_c_weighedOf, Gd w := List.forall_mem_cons.mpr ⟨Or.inl rfl, List.forall_mem_append.mpr ⟨gdl wo_c_weighedOf (by decide +kernel), (List.forall_mem_append.mpr ⟨gd_c_people, (fun _ h => absurd h List.not_mem_nil)⟩)⟩⟩
theorem in_c_weighedOf : ∀ w ∈ wq_c_weighedOf, w ∈ lw_tbl := List.forall_mem_cons.mpr ⟨List.mem_of_getElem? (i := 1053) (by decide +kernel), List.forall_mem_append.mpr ⟨inT wo_c_weighedOf [1000, 1001, 1002, 162] (by decide +kernel), (List.forall_mem_append.mpr ⟨in_c_people, (fun _ h => absurd h List.not_mem_nil)⟩)⟩⟩
set_option maxHeartbeats 4000000 in
set_option maxRecDepth 100000 in
theorem c_weighedOf (l : Launch) (G : gG) (rl : Nat) (bk : Nat) (ca : Nat) (v1 : Value) (v2 : Value) (v3 : Value) (v4 : Value) (v5 : Value) (x : Int32) : Met l yX8_weighedOf wq_c_weighedOf ({ frames := 2, cells := 0, slots := 0, locals := 41 }) (va_Pc [.ref rl, .int x] (pP G [(rl, .inr (9, [.ref bk])), (bk, .inr (2, [.ref ca, v1, v2, v3, v4, v5])), (ca, .inl (gI G, 2088, .inl bk0))])) (vp_Si (fun r : Int32 => r = 0)) 0 0 (fun _ => False) := by
  refine Met.ofW (cc := cX8_weighedOf) (maxL := 4) (ret := (some .int)) (by decide) rfl ?_
  intro p e s m args below meth c s₁ B hml hv
  obtain ⟨rfl, hP, hB⟩ := hv
  have hx := B.exec
  have hb := B.bytes
  have hr := B.returns
  have hts := atoms_spec (ws := wq_c_weighedOf) B.pre
  have hown : s.vm.findClass RX8 = some m.cls := findClass_of_methodNamed B.named
  have hlocks := B.notSynchronized
  have hK := hB.1
  have hP : va_P (gD G) vwCl [(rl, .inr (9, [.ref bk])), (bk, .inr (2, [.ref ca, v1, v2, v3, v4, v5])), (ca, .inl (gI G, 2088, .inl bk0))] s.heap := hP
  have hl := lv_entry ([.ref rl, .int x]) (n := 4) (Nat.le_of_ble_eq_true rfl)
  rw [lg_entry_eq]
  generalize (lg_sl ([.ref rl, .int x]) ++ List.replicate (4 - (lg_sl ([.ref rl, .int x])).length) Slot.unset).toArray = ls at hl ⊢
  have hl : lv_has ls 4 [(0, .ref rl), (1, .int x)] := hl
  refine lv_iconst (v := 0) hx hb dX8_weighedOf_0 (by decide) ?_
  refine lv_istore_n (lv' := [(2, .int 0), (0, .ref rl), (1, .int x)]) hx hb dX8_weighedOf_1 rfl hl (by decide) rfl (fun ls hl => ?_)
  refine lv_iconst (v := 0) hx hb dX8_weighedOf_2 (by decide) ?_
  refine lv_istore_n (lv' := [(3, .int 0), (2, .int 0), (0, .ref rl), (1, .int x)]) hx hb dX8_weighedOf_3 rfl hl (by decide) rfl (fun ls hl => ?_)
  refine lv_iload_n hx hb dX8_weighedOf_4 rfl (lv_at hl 0 rfl) ?_
  refine lv_aload_n hx hb dX8_weighedOf_5 rfl (lv_at hl 2 rfl) ?_
  refine vp_callSi (va_Run.run (va_runV (As := []) (rest := [.int 0]) ⟨hx, hb, hml, hown, hts⟩ (c_people l G rl bk ca v1 v2 v3 v4 v5) (cwV 0 hts (gdV (List.mem_cons_of_mem _ (List.mem_append_left _ (List.mem_of_getElem? (i := 0) rfl))) (List.mem_cons_of_mem _ (List.mem_append_left _ (List.mem_of_getElem? (i := 1) rfl))) (List.mem_cons_of_mem _ (List.mem_append_left _ (List.mem_of_getElem? (i := 2) rfl))) (List.mem_cons_of_mem _ (List.mem_append_left _ (List.mem_of_getElem? (i := 3) rfl))) (fun w9 h9 => ⟨(List.mem_cons_of_mem _ (List.mem_append_right _ (List.mem_append_left _ h9))), gd_c_people w9 h9⟩)) rfl rfl rfl kVX8_people ⟨Nat.le_of_ble_eq_true rfl, Nat.le_of_ble_eq_true rfl⟩) (preV_p (As := []) (hP.sub (ws' := [(rl, .inr (9, [.ref bk])), (bk, .inr (2, [.ref ca, v1, v2, v3, v4, v5])), (ca, .inl (gI G, 2088, .inl bk0))]) [0, 1, 2] rfl) hB rfl rfl) rfl rfl hl.1 rfl (lv_room (Nat.le_of_ble_eq_true rfl)) dX8_weighedOf_6 ⟨Nat.le_of_ble_eq_true rfl, Nat.le_of_ble_eq_true rfl⟩)) (fun r_1 hr_1 => ?_)
  subst hr_1
  refine lv_icmp_ge (tgt := 38) hx hb dX8_weighedOf_9 (by decide) (fun _ => ?_) (fun c9 => absurd (by decide) c9)
  refine lv_iload_n hx hb dX8_weighedOf_38 rfl (lv_at hl 1 rfl) ?_
  exact W.iret (v := 0) hx hb hr (fun t ht hW => ⟨_, rfl, rfl, ht⟩) (fun q h => absurd h List.not_mem_nil) dX8_weighedOf_39

def wo_c_fightsOf : List Cond := [.methodLink RX0 49 yX0_sizeOf, .instanceMethod yX0_sizeOf, .selects RX0 yX0_sizeOf yX0_sizeOf, .initialized RX0, .methodLink RX0 46 yX0_kindOf, .instanceMethod yX0_kindOf, .selects RX0 yX0_kindOf yX0_kindOf]
def wq_c_fightsOf : List Cond := .code yX0_fightsOf cX0_fightsOf 3 (some .int) :: (wo_c_fightsOf ++ (wq_c_Board_sizeOf ++ (wq_c_Board_kindOf ++ [])))
theorem gd_c_fightsOf : ∀ w ∈ wq_c_fightsOf, Gd w := List.forall_mem_cons.mpr ⟨Or.inl rfl, List.forall_mem_append.mpr ⟨gdl wo_c_fightsOf (by decide +kernel), (List.forall_mem_append.mpr ⟨gd_c_Board_sizeOf, (List.forall_mem_append.mpr ⟨gd_c_Board_kindOf, (fun _ h => absurd h List.not_mem_nil)⟩)⟩)⟩⟩
theorem in_c_fightsOf : ∀ w ∈ wq_c_fightsOf, w ∈ lw_tbl := List.forall_mem_cons.mpr ⟨List.mem_of_getElem? (i := 1182) (by decide +kernel), List.forall_mem_append.mpr ⟨inT wo_c_fightsOf [1123, 1124, 1125, 164, 990, 991, 992] (by decide +kernel), (List.forall_mem_append.mpr ⟨in_c_Board_sizeOf, (List.forall_mem_append.mpr ⟨in_c_Board_kindOf, (fun _ h => absurd h List.not_mem_nil)⟩)⟩)⟩⟩
set_option maxHeartbeats 4000000 in
set_option maxRecDepth 100000 in
theorem c_fightsOf (l : Launch) (G : gG) (bd : Nat) (bk : Nat) (b1 : Value) (b2 : Value) (b3 : Value) (b4 : Value) (b5 : Value) (ca : Nat) (v1 : Value) (v2 : Value) (v3 : Value) (v4 : Value) (v5 : Value) (x : Int32) (h0 : ¬ x < 0) (h1 : ¬ (4 : Int32) ≤ x) : Met l yX0_fightsOf wq_c_fightsOf ({ frames := 2, cells := 0, slots := 0, locals := 42 }) (va_Pc [.ref bd, .int x] (pP G [(bd, .inr (1, [.ref bk, b1, b2, b3, b4, b5])), (bk, .inr (2, [.ref ca, v1, v2, v3, v4, v5])), (ca, .inl (gI G, 2088, .inl bk0))])) (vp_Si (fun r : Int32 => r = 0)) 0 0 (fun _ => False) := by
  refine Met.ofW (cc := cX0_fightsOf) (maxL := 3) (ret := (some .int)) (by decide) rfl ?_
  intro p e s m args below meth c s₁ B hml hv
  obtain ⟨rfl, hP, hB⟩ := hv
  have hx := B.exec
  have hb := B.bytes
  have hr := B.returns
  have hts := atoms_spec (ws := wq_c_fightsOf) B.pre
  have hown : s.vm.findClass RX0 = some m.cls := findClass_of_methodNamed B.named
  have hlocks := B.notSynchronized
  have hK := hB.1
  have hP : va_P (gD G) vwCl [(bd, .inr (1, [.ref bk, b1, b2, b3, b4, b5])), (bk, .inr (2, [.ref ca, v1, v2, v3, v4, v5])), (ca, .inl (gI G, 2088, .inl bk0))] s.heap := hP
  have hl := lv_entry ([.ref bd, .int x]) (n := 3) (Nat.le_of_ble_eq_true rfl)
  rw [lg_entry_eq]
  generalize (lg_sl ([.ref bd, .int x]) ++ List.replicate (3 - (lg_sl ([.ref bd, .int x])).length) Slot.unset).toArray = ls at hl ⊢
  have hl : lv_has ls 3 [(0, .ref bd), (1, .int x)] := hl
  refine lv_aload_n hx hb dX0_fightsOf_0 rfl (lv_at hl 0 rfl) ?_
  refine lv_iload_n hx hb dX0_fightsOf_1 rfl (lv_at hl 1 rfl) ?_
  refine vp_callSi (va_Run.run (va_runV (As := [.int x]) (rest := []) ⟨hx, hb, hml, hown, hts⟩ (c_Board_sizeOf l G bd bk ca 2088 bk0 v1 v2 v3 v4 v5 b1 b2 b3 b4 b5 x (by decide)) (cwV 1 hts (gdV (List.mem_cons_of_mem _ (List.mem_append_left _ (List.mem_of_getElem? (i := 0) rfl))) (List.mem_cons_of_mem _ (List.mem_append_left _ (List.mem_of_getElem? (i := 1) rfl))) (List.mem_cons_of_mem _ (List.mem_append_left _ (List.mem_of_getElem? (i := 2) rfl))) (List.mem_cons_of_mem _ (List.mem_append_left _ (List.mem_of_getElem? (i := 3) rfl))) (fun w9 h9 => ⟨(List.mem_cons_of_mem _ (List.mem_append_right _ (List.mem_append_left _ h9))), gd_c_Board_sizeOf w9 h9⟩)) rfl rfl rfl kVX0_sizeOf ⟨Nat.le_of_ble_eq_true rfl, Nat.le_of_ble_eq_true rfl⟩) (preV_p (As := [.int x]) (hP.sub (ws' := [(bd, .inr (1, [.ref bk, b1, b2, b3, b4, b5])), (bk, .inr (2, [.ref ca, v1, v2, v3, v4, v5])), (ca, .inl (gI G, 2088, .inl bk0))]) [0, 1, 2] rfl) hB rfl rfl) rfl rfl hl.1 rfl (lv_room (Nat.le_of_ble_eq_true rfl)) dX0_fightsOf_2 ⟨Nat.le_of_ble_eq_true rfl, Nat.le_of_ble_eq_true rfl⟩)) (fun r_1 hr_1 => ?_)
  have hr_1 : r_1 = 0 := hr_1.trans (bk_size h0 h1)
  subst hr_1
  refine lv_istore_n (lv' := [(2, .int 0), (0, .ref bd), (1, .int x)]) hx hb dX0_fightsOf_5 rfl hl (by decide) rfl (fun ls hl => ?_)
  refine lv_aload_n hx hb dX0_fightsOf_6 rfl (lv_at hl 1 rfl) ?_
  refine lv_iload_n hx hb dX0_fightsOf_7 rfl (lv_at hl 2 rfl) ?_
  refine vp_callSi (va_Run.run (va_runV (As := [.int x]) (rest := []) ⟨hx, hb, hml, hown, hts⟩ (c_Board_kindOf l G bd bk ca 2088 bk0 v1 v2 v3 v4 v5 b1 b2 b3 b4 b5 x (by decide)) (cwV 1 hts (gdV (List.mem_cons_of_mem _ (List.mem_append_left _ (List.mem_of_getElem? (i := 4) rfl))) (List.mem_cons_of_mem _ (List.mem_append_left _ (List.mem_of_getElem? (i := 5) rfl))) (List.mem_cons_of_mem _ (List.mem_append_left _ (List.mem_of_getElem? (i := 6) rfl))) (List.mem_cons_of_mem _ (List.mem_append_left _ (List.mem_of_getElem? (i := 3) rfl))) (fun w9 h9 => ⟨(List.mem_cons_of_mem _ (List.mem_append_right _ (List.mem_append_right _ (List.mem_append_left _ h9)))), gd_c_Board_kindOf w9 h9⟩)) rfl rfl rfl kVX0_kindOf ⟨Nat.le_of_ble_eq_true rfl, Nat.le_of_ble_eq_true rfl⟩) (preV_p (As := [.int x]) (hP.sub (ws' := [(bd, .inr (1, [.ref bk, b1, b2, b3, b4, b5])), (bk, .inr (2, [.ref ca, v1, v2, v3, v4, v5])), (ca, .inl (gI G, 2088, .inl bk0))]) [0, 1, 2] rfl) hB rfl rfl) rfl rfl hl.1 rfl (lv_room (Nat.le_of_ble_eq_true rfl)) dX0_fightsOf_8 ⟨Nat.le_of_ble_eq_true rfl, Nat.le_of_ble_eq_true rfl⟩)) (fun r_2 hr_2 => ?_)
  have hr_2 : r_2 = 0 := hr_2.trans (bk_kind h0 h1)
  subst hr_2
  refine lv_lookup (off := 44) (tgt := 55) hx hb dX0_fightsOf_11 (by decide) (by decide) (by decide) ?_
  refine lv_iconst (v := 0) hx hb dX0_fightsOf_55 (by decide) ?_
  exact W.iret (v := 0) hx hb hr (fun t ht hW => ⟨_, rfl, rfl, ht⟩) (fun q h => absurd h List.not_mem_nil) dX0_fightsOf_56

def wo_c_Board_has : List Cond := [.static yX11_isClass, .initialized RX11, .methodLink RX0 59 yX0_fightsOf, .instanceMethod yX0_fightsOf, .selects RX0 yX0_fightsOf yX0_fightsOf, .initialized RX0]
def wq_c_Board_has : List Cond := .code yX0_has cX0_has 3 (some .boolean) :: (wo_c_Board_has ++ (wq_c_isClass ++ (wq_c_fightsOf ++ [])))
theorem gd_c_Board_has : ∀ w ∈ wq_c_Board_has, Gd w := List.forall_mem_cons.mpr ⟨Or.inl rfl, List.forall_mem_append.mpr ⟨gdl wo_c_Board_has (by decide +kernel), (List.forall_mem_append.mpr ⟨gd_c_isClass, (List.forall_mem_append.mpr ⟨gd_c_fightsOf, (fun _ h => absurd h List.not_mem_nil)⟩)⟩)⟩⟩
theorem in_c_Board_has : ∀ w ∈ wq_c_Board_has, w ∈ lw_tbl := List.forall_mem_cons.mpr ⟨List.mem_of_getElem? (i := 1217) (by decide +kernel), List.forall_mem_append.mpr ⟨inT wo_c_Board_has [980, 154, 1201, 1180, 1181, 164] (by decide +kernel), (List.forall_mem_append.mpr ⟨in_c_isClass, (List.forall_mem_append.mpr ⟨in_c_fightsOf, (fun _ h => absurd h List.not_mem_nil)⟩)⟩)⟩⟩
set_option maxHeartbeats 4000000 in
set_option maxRecDepth 100000 in
theorem c_Board_has (l : Launch) (G : gG) (bd : Nat) (bk : Nat) (b1 : Value) (b2 : Value) (b3 : Value) (b4 : Value) (b5 : Value) (ca : Nat) (v1 : Value) (v2 : Value) (v3 : Value) (v4 : Value) (v5 : Value) (x : Int32) (y : Int32) : Met l yX0_has wq_c_Board_has ({ frames := 3, cells := 0, slots := 0, locals := 64 }) (va_Pc [.ref bd, .int x, .int y] (pP G [(bd, .inr (1, [.ref bk, b1, b2, b3, b4, b5])), (bk, .inr (2, [.ref ca, v1, v2, v3, v4, v5])), (ca, .inl (gI G, 2088, .inl bk0))])) (vp_Si (fun r : Int32 => r = 0)) 0 0 (fun _ => False) := by
  refine Met.ofW (cc := cX0_has) (maxL := 3) (ret := (some .boolean)) (by decide) rfl ?_
  intro p e s m args below meth c s₁ B hml hv
  obtain ⟨rfl, hP, hB⟩ := hv
  have hx := B.exec
  have hb := B.bytes
  have hr := B.returns
  have hts := atoms_spec (ws := wq_c_Board_has) B.pre
  have hown : s.vm.findClass RX0 = some m.cls := findClass_of_methodNamed B.named
  have hlocks := B.notSynchronized
  have hK := hB.1
  have hP : va_P (gD G) vwCl [(bd, .inr (1, [.ref bk, b1, b2, b3, b4, b5])), (bk, .inr (2, [.ref ca, v1, v2, v3, v4, v5])), (ca, .inl (gI G, 2088, .inl bk0))] s.heap := hP
  have hl := lv_entry ([.ref bd, .int x, .int y]) (n := 3) (Nat.le_of_ble_eq_true rfl)
  rw [lg_entry_eq]
  generalize (lg_sl ([.ref bd, .int x, .int y]) ++ List.replicate (3 - (lg_sl ([.ref bd, .int x, .int y])).length) Slot.unset).toArray = ls at hl ⊢
  have hl : lv_has ls 3 [(0, .ref bd), (1, .int x), (2, .int y)] := hl
  refine lv_iload_n hx hb dX0_has_0 rfl (lv_at hl 1 rfl) ?_
  refine vp_callSi (va_Run.run (va_runSN (As := [.int x]) (rest := []) ⟨hx, hb, hml, hown, hts⟩ (c_isClass l G x) ⟨va_cnB 1 hts (fun w9 h9 => ⟨(List.mem_cons_of_mem _ (List.mem_append_right _ (List.mem_append_left _ h9))), gd_c_isClass w9 h9⟩) rfl rfl rfl (hB.nmt 0 rfl) (hts (.initialized RX11) (List.mem_cons_of_mem _ (List.mem_append_left _ (List.mem_of_getElem? (i := 1) rfl)))) kSX11_isClass ⟨Nat.le_of_ble_eq_true rfl, Nat.le_of_ble_eq_true rfl⟩, hts (.static yX11_isClass) (List.mem_cons_of_mem _ (List.mem_append_left _ (List.mem_of_getElem? (i := 0) rfl))), trivial⟩ (preS_p (As := [.int x]) (hP.sub (ws' := []) [] rfl) hB) rfl rfl hl.1 rfl (lv_room (Nat.le_of_ble_eq_true rfl)) dX0_has_1 ⟨Nat.le_of_ble_eq_true rfl, Nat.le_of_ble_eq_true rfl⟩)) (fun r_1 hr_1 => ?_)
  by_cases c_2 : x < 0
  · have hr_1 : r_1 = 0 := hr_1.trans (by rw [if_pos (show x < 0 ∨ 4 ≤ x from (Or.inl c_2))])
    subst hr_1
    refine lv_if_eq (tgt := 24) hx hb dX0_has_4 (by decide) (fun _ => ?_) (fun c9 => absurd (by decide) c9)
    refine lv_iconst (v := 0) hx hb dX0_has_24 (by decide) ?_
    exact W.zret (v := 0) hx hb hr rfl (fun t ht hW => ⟨_, rfl, rfl, ht⟩) (fun q h => absurd h List.not_mem_nil) dX0_has_25
  by_cases c_3 : 4 ≤ x
  · have hr_1 : r_1 = 0 := hr_1.trans (by rw [if_pos (show x < 0 ∨ 4 ≤ x from (Or.inr c_3))])
    subst hr_1
    refine lv_if_eq (tgt := 24) hx hb dX0_has_4 (by decide) (fun _ => ?_) (fun c9 => absurd (by decide) c9)
    refine lv_iconst (v := 0) hx hb dX0_has_24 (by decide) ?_
    exact W.zret (v := 0) hx hb hr rfl (fun t ht hW => ⟨_, rfl, rfl, ht⟩) (fun q h => absurd h List.not_mem_nil) dX0_has_25
  have hr_1 : r_1 = 1 := hr_1.trans (by rw [if_neg (show ¬ (x < 0 ∨ 4 ≤ x) from (not_or.mpr ⟨c_2, c_3⟩))])
  subst hr_1
  refine lv_if_eq (tgt := 24) hx hb dX0_has_4 (by decide) (fun c9 => absurd c9 (by decide)) (fun _ => ?_)
  refine lv_iload_n hx hb dX0_has_7 rfl (lv_at hl 2 rfl) ?_
  refine lv_if_lt (tgt := 24) hx hb dX0_has_8 (by decide) (fun c_4 => ?_) (fun c_4 => ?_)
  · skip
    refine lv_iconst (v := 0) hx hb dX0_has_24 (by decide) ?_
    exact W.zret (v := 0) hx hb hr rfl (fun t ht hW => ⟨_, rfl, rfl, ht⟩) (fun q h => absurd h List.not_mem_nil) dX0_has_25
  · skip
    refine lv_iload_n hx hb dX0_has_11 rfl (lv_at hl 2 rfl) ?_
    refine lv_aload_n hx hb dX0_has_12 rfl (lv_at hl 0 rfl) ?_
    refine lv_iload_n hx hb dX0_has_13 rfl (lv_at hl 1 rfl) ?_
    refine vp_callSi (va_Run.run (va_runV (As := [.int x]) (rest := [.int y]) ⟨hx, hb, hml, hown, hts⟩ (c_fightsOf l G bd bk b1 b2 b3 b4 b5 ca v1 v2 v3 v4 v5 x (c_2) (c_3)) (cwV 1 hts (gdV (List.mem_cons_of_mem _ (List.mem_append_left _ (List.mem_of_getElem? (i := 2) rfl))) (List.mem_cons_of_mem _ (List.mem_append_left _ (List.mem_of_getElem? (i := 3) rfl))) (List.mem_cons_of_mem _ (List.mem_append_left _ (List.mem_of_getElem? (i := 4) rfl))) (List.mem_cons_of_mem _ (List.mem_append_left _ (List.mem_of_getElem? (i := 5) rfl))) (fun w9 h9 => ⟨(List.mem_cons_of_mem _ (List.mem_append_right _ (List.mem_append_right _ (List.mem_append_left _ h9)))), gd_c_fightsOf w9 h9⟩)) rfl rfl rfl kVX0_fightsOf ⟨Nat.le_of_ble_eq_true rfl, Nat.le_of_ble_eq_true rfl⟩) (preV_p (As := [.int x]) (hP.sub (ws' := [(bd, .inr (1, [.ref bk, b1, b2, b3, b4, b5])), (bk, .inr (2, [.ref ca, v1, v2, v3, v4, v5])), (ca, .inl (gI G, 2088, .inl bk0))]) [0, 1, 2] rfl) hB rfl rfl) rfl rfl hl.1 rfl (lv_room (Nat.le_of_ble_eq_true rfl)) dX0_has_14 ⟨Nat.le_of_ble_eq_true rfl, Nat.le_of_ble_eq_true rfl⟩)) (fun r_5 hr_5 => ?_)
    subst hr_5
    refine lv_icmp_ge (tgt := 24) hx hb dX0_has_17 (by decide) (fun _ => ?_) (fun c9 => absurd (Int32.not_lt.mp c_4) c9)
    refine lv_iconst (v := 0) hx hb dX0_has_24 (by decide) ?_
    exact W.zret (v := 0) hx hb hr rfl (fun t ht hW => ⟨_, rfl, rfl, ht⟩) (fun q h => absurd h List.not_mem_nil) dX0_has_25

def wo_c_howMany : List Cond := [.methodLink RX0 59 yX0_fightsOf, .instanceMethod yX0_fightsOf, .selects RX0 yX0_fightsOf yX0_fightsOf, .initialized RX0]
def wq_c_howMany : List Cond := .code yX0_howMany cX0_howMany 5 (some .int) :: (wo_c_howMany ++ (wq_c_fightsOf ++ []))
theorem gd_c_howMany : ∀ w ∈ wq_c_howMany, Gd w := List.forall_mem_cons.mpr ⟨Or.inl rfl, List.forall_mem_append.mpr ⟨gdl wo_c_howMany (by decide +kernel), (List.forall_mem_append.mpr ⟨gd_c_fightsOf, (fun _ h => absurd h List.not_mem_nil)⟩)⟩⟩
theorem in_c_howMany : ∀ w ∈ wq_c_howMany, w ∈ lw_tbl := List.forall_mem_cons.mpr ⟨List.mem_of_getElem? (i := 1200) (by decide +kernel), List.forall_mem_append.mpr ⟨inT wo_c_howMany [1201, 1180, 1181, 164] (by decide +kernel), (List.forall_mem_append.mpr ⟨in_c_fightsOf, (fun _ h => absurd h List.not_mem_nil)⟩)⟩⟩
set_option maxHeartbeats 4000000 in
set_option maxRecDepth 100000 in
theorem c_howMany (l : Launch) (G : gG) (bd : Nat) (bk : Nat) (b1 : Value) (b2 : Value) (b3 : Value) (b4 : Value) (b5 : Value) (ca : Nat) (v1 : Value) (v2 : Value) (v3 : Value) (v4 : Value) (v5 : Value) (x : Int32) (y : Int32) (h0 : ¬ x < 0) (h1 : ¬ (4 : Int32) ≤ x) : Met l yX0_howMany wq_c_howMany ({ frames := 3, cells := 0, slots := 0, locals := 64 }) (va_Pc [.ref bd, .int x, .int y] (pP G [(bd, .inr (1, [.ref bk, b1, b2, b3, b4, b5])), (bk, .inr (2, [.ref ca, v1, v2, v3, v4, v5])), (ca, .inl (gI G, 2088, .inl bk0))])) (vp_Si (fun r : Int32 => r = 0)) 0 0 (fun _ => False) := by
  refine Met.ofW (cc := cX0_howMany) (maxL := 5) (ret := (some .int)) (by decide) rfl ?_
  intro p e s m args below meth c s₁ B hml hv
  obtain ⟨rfl, hP, hB⟩ := hv
  have hx := B.exec
  have hb := B.bytes
  have hr := B.returns
  have hts := atoms_spec (ws := wq_c_howMany) B.pre
  have hown : s.vm.findClass RX0 = some m.cls := findClass_of_methodNamed B.named
  have hlocks := B.notSynchronized
  have hK := hB.1
  have hP : va_P (gD G) vwCl [(bd, .inr (1, [.ref bk, b1, b2, b3, b4, b5])), (bk, .inr (2, [.ref ca, v1, v2, v3, v4, v5])), (ca, .inl (gI G, 2088, .inl bk0))] s.heap := hP
  have hl := lv_entry ([.ref bd, .int x, .int y]) (n := 5) (Nat.le_of_ble_eq_true rfl)
  rw [lg_entry_eq]
  generalize (lg_sl ([.ref bd, .int x, .int y]) ++ List.replicate (5 - (lg_sl ([.ref bd, .int x, .int y])).length) Slot.unset).toArray = ls at hl ⊢
  have hl : lv_has ls 5 [(0, .ref bd), (1, .int x), (2, .int y)] := hl
  refine lv_iconst (v := 0) hx hb dX0_howMany_0 (by decide) ?_
  refine lv_istore_n (lv' := [(3, .int 0), (0, .ref bd), (1, .int x), (2, .int y)]) hx hb dX0_howMany_1 rfl hl (by decide) rfl (fun ls hl => ?_)
  refine lv_iconst (v := 0) hx hb dX0_howMany_2 (by decide) ?_
  refine lv_istore (lv' := [(4, .int 0), (3, .int 0), (0, .ref bd), (1, .int x), (2, .int y)]) hx hb dX0_howMany_3 hl (by decide) rfl (fun ls hl => ?_)
  refine lv_iload hx hb dX0_howMany_5 (lv_at hl 0 rfl) ?_
  refine lv_aload_n hx hb dX0_howMany_7 rfl (lv_at hl 2 rfl) ?_
  refine lv_iload_n hx hb dX0_howMany_8 rfl (lv_at hl 3 rfl) ?_
  refine vp_callSi (va_Run.run (va_runV (As := [.int x]) (rest := [.int 0]) ⟨hx, hb, hml, hown, hts⟩ (c_fightsOf l G bd bk b1 b2 b3 b4 b5 ca v1 v2 v3 v4 v5 x (h0) (h1)) (cwV 1 hts (gdV (List.mem_cons_of_mem _ (List.mem_append_left _ (List.mem_of_getElem? (i := 0) rfl))) (List.mem_cons_of_mem _ (List.mem_append_left _ (List.mem_of_getElem? (i := 1) rfl))) (List.mem_cons_of_mem _ (List.mem_append_left _ (List.mem_of_getElem? (i := 2) rfl))) (List.mem_cons_of_mem _ (List.mem_append_left _ (List.mem_of_getElem? (i := 3) rfl))) (fun w9 h9 => ⟨(List.mem_cons_of_mem _ (List.mem_append_right _ (List.mem_append_left _ h9))), gd_c_fightsOf w9 h9⟩)) rfl rfl rfl kVX0_fightsOf ⟨Nat.le_of_ble_eq_true rfl, Nat.le_of_ble_eq_true rfl⟩) (preV_p (As := [.int x]) (hP.sub (ws' := [(bd, .inr (1, [.ref bk, b1, b2, b3, b4, b5])), (bk, .inr (2, [.ref ca, v1, v2, v3, v4, v5])), (ca, .inl (gI G, 2088, .inl bk0))]) [0, 1, 2] rfl) hB rfl rfl) rfl rfl hl.1 rfl (lv_room (Nat.le_of_ble_eq_true rfl)) dX0_howMany_9 ⟨Nat.le_of_ble_eq_true rfl, Nat.le_of_ble_eq_true rfl⟩)) (fun r_1 hr_1 => ?_)
  subst hr_1
  refine lv_icmp_ge (tgt := 40) hx hb dX0_howMany_12 (by decide) (fun _ => ?_) (fun c9 => absurd (by decide) c9)
  refine lv_iload_n hx hb dX0_howMany_40 rfl (lv_at hl 1 rfl) ?_
  exact W.iret (v := 0) hx hb hr (fun t ht hW => ⟨_, rfl, rfl, ht⟩) (fun q h => absurd h List.not_mem_nil) dX0_howMany_41

def wo_c_onPlace : List Cond := [.methodLink RX0 46 yX0_kindOf, .instanceMethod yX0_kindOf, .selects RX0 yX0_kindOf yX0_kindOf, .initialized RX0]
def wq_c_onPlace : List Cond := .code yX0_onPlace cX0_onPlace 4 (some .int) :: (wo_c_onPlace ++ (wq_c_Board_kindOf ++ []))
theorem gd_c_onPlace : ∀ w ∈ wq_c_onPlace, Gd w := List.forall_mem_cons.mpr ⟨Or.inl rfl, List.forall_mem_append.mpr ⟨gdl wo_c_onPlace (by decide +kernel), (List.forall_mem_append.mpr ⟨gd_c_Board_kindOf, (fun _ h => absurd h List.not_mem_nil)⟩)⟩⟩
theorem in_c_onPlace : ∀ w ∈ wq_c_onPlace, w ∈ lw_tbl := List.forall_mem_cons.mpr ⟨List.mem_of_getElem? (i := 1209) (by decide +kernel), List.forall_mem_append.mpr ⟨inT wo_c_onPlace [990, 991, 992, 164] (by decide +kernel), (List.forall_mem_append.mpr ⟨in_c_Board_kindOf, (fun _ h => absurd h List.not_mem_nil)⟩)⟩⟩
set_option maxHeartbeats 4000000 in
set_option maxRecDepth 100000 in
theorem c_onPlace (l : Launch) (G : gG) (bd : Nat) (bk : Nat) (b1 : Value) (b2 : Value) (b3 : Value) (b4 : Value) (b5 : Value) (ca : Nat) (v1 : Value) (v2 : Value) (v3 : Value) (v4 : Value) (v5 : Value) (x : Int32) (y : Int32) (h0 : ¬ x < 0) (h1 : ¬ (4 : Int32) ≤ x) : Met l yX0_onPlace wq_c_onPlace ({ frames := 2, cells := 0, slots := 0, locals := 42 }) (va_Pc [.ref bd, .int x, .int y] (pP G [(bd, .inr (1, [.ref bk, b1, b2, b3, b4, b5])), (bk, .inr (2, [.ref ca, v1, v2, v3, v4, v5])), (ca, .inl (gI G, 2088, .inl bk0))])) (vp_Si (fun r : Int32 => r = (-1))) 0 0 (fun _ => False) := by
  refine Met.ofW (cc := cX0_onPlace) (maxL := 4) (ret := (some .int)) (by decide) rfl ?_
  intro p e s m args below meth c s₁ B hml hv
  obtain ⟨rfl, hP, hB⟩ := hv
  have hx := B.exec
  have hb := B.bytes
  have hr := B.returns
  have hts := atoms_spec (ws := wq_c_onPlace) B.pre
  have hown : s.vm.findClass RX0 = some m.cls := findClass_of_methodNamed B.named
  have hlocks := B.notSynchronized
  have hK := hB.1
  have hP : va_P (gD G) vwCl [(bd, .inr (1, [.ref bk, b1, b2, b3, b4, b5])), (bk, .inr (2, [.ref ca, v1, v2, v3, v4, v5])), (ca, .inl (gI G, 2088, .inl bk0))] s.heap := hP
  have hl := lv_entry ([.ref bd, .int x, .int y]) (n := 4) (Nat.le_of_ble_eq_true rfl)
  rw [lg_entry_eq]
  generalize (lg_sl ([.ref bd, .int x, .int y]) ++ List.replicate (4 - (lg_sl ([.ref bd, .int x, .int y])).length) Slot.unset).toArray = ls at hl ⊢
  have hl : lv_has ls 4 [(0, .ref bd), (1, .int x), (2, .int y)] := hl
  refine lv_aload_n hx hb dX0_onPlace_0 rfl (lv_at hl 0 rfl) ?_
  refine lv_iload_n hx hb dX0_onPlace_1 rfl (lv_at hl 1 rfl) ?_
  refine vp_callSi (va_Run.run (va_runV (As := [.int x]) (rest := []) ⟨hx, hb, hml, hown, hts⟩ (c_Board_kindOf l G bd bk ca 2088 bk0 v1 v2 v3 v4 v5 b1 b2 b3 b4 b5 x (by decide)) (cwV 1 hts (gdV (List.mem_cons_of_mem _ (List.mem_append_left _ (List.mem_of_getElem? (i := 0) rfl))) (List.mem_cons_of_mem _ (List.mem_append_left _ (List.mem_of_getElem? (i := 1) rfl))) (List.mem_cons_of_mem _ (List.mem_append_left _ (List.mem_of_getElem? (i := 2) rfl))) (List.mem_cons_of_mem _ (List.mem_append_left _ (List.mem_of_getElem? (i := 3) rfl))) (fun w9 h9 => ⟨(List.mem_cons_of_mem _ (List.mem_append_right _ (List.mem_append_left _ h9))), gd_c_Board_kindOf w9 h9⟩)) rfl rfl rfl kVX0_kindOf ⟨Nat.le_of_ble_eq_true rfl, Nat.le_of_ble_eq_true rfl⟩) (preV_p (As := [.int x]) (hP.sub (ws' := [(bd, .inr (1, [.ref bk, b1, b2, b3, b4, b5])), (bk, .inr (2, [.ref ca, v1, v2, v3, v4, v5])), (ca, .inl (gI G, 2088, .inl bk0))]) [0, 1, 2] rfl) hB rfl rfl) rfl rfl hl.1 rfl (lv_room (Nat.le_of_ble_eq_true rfl)) dX0_onPlace_2 ⟨Nat.le_of_ble_eq_true rfl, Nat.le_of_ble_eq_true rfl⟩)) (fun r_1 hr_1 => ?_)
  have hr_1 : r_1 = 0 := hr_1.trans (bk_kind h0 h1)
  subst hr_1
  refine lv_iconst (v := 2) hx hb dX0_onPlace_5 (by decide) ?_
  refine lv_icmp_ne (tgt := 26) hx hb dX0_onPlace_6 (by decide) (fun _ => ?_) (fun c9 => absurd c9 (by decide))
  refine lv_iconst (v := 0) hx hb dX0_onPlace_26 (by decide) ?_
  refine lv_istore_n (lv' := [(3, .int 0), (0, .ref bd), (1, .int x), (2, .int y)]) hx hb dX0_onPlace_27 rfl hl (by decide) rfl (fun ls hl => ?_)
  refine lv_iload_n hx hb dX0_onPlace_28 rfl (lv_at hl 0 rfl) ?_
  refine lv_if_eq (tgt := 49) hx hb dX0_onPlace_29 (by decide) (fun _ => ?_) (fun c9 => absurd (by decide) c9)
  refine lv_iconst (v := (-1)) hx hb dX0_onPlace_49 (by decide) ?_
  exact W.iret (v := (-1)) hx hb hr (fun t ht hW => ⟨_, rfl, rfl, ht⟩) (fun q h => absurd h List.not_mem_nil) dX0_onPlace_50

def wo_c_Floor_on : List Cond := [.fieldLink RX3 9 "JudoHall$Floor" "book" "LJudoHall$Book;", .methodLink RX3 28 yX1_ofMat, .static yX1_ofMat, .initialized RX1, .methodLink RX3 34 yX1_at, .instanceMethod yX1_at, .selects RX1 yX1_at yX1_at]
def wq_c_Floor_on : List Cond := .code yX3_on cX3_on 3 (some .int) :: (wo_c_Floor_on ++ (wsX30 ++ (wq_c_Book_ofMat ++ (wq_c_Book_at ++ []))))
theorem gd_c_Floor_on : ∀ w ∈ wq_c_Floor_on, Gd w := List.forall_mem_cons.mpr ⟨Or.inl rfl, List.forall_mem_append.mpr ⟨gdl wo_c_Floor_on (by decide +kernel), (List.forall_mem_append.mpr ⟨gd_wsX30, (List.forall_mem_append.mpr ⟨gd_c_Book_ofMat, (List.forall_mem_append.mpr ⟨gd_c_Book_at, (fun _ h => absurd h List.not_mem_nil)⟩)⟩)⟩)⟩⟩
theorem in_c_Floor_on : ∀ w ∈ wq_c_Floor_on, w ∈ lw_tbl := List.forall_mem_cons.mpr ⟨List.mem_of_getElem? (i := 620) (by decide +kernel), List.forall_mem_append.mpr ⟨inT wo_c_Floor_on [442, 621, 223, 155, 622, 623, 624] (by decide +kernel), (List.forall_mem_append.mpr ⟨in_wsX30, (List.forall_mem_append.mpr ⟨in_c_Book_ofMat, (List.forall_mem_append.mpr ⟨in_c_Book_at, (fun _ h => absurd h List.not_mem_nil)⟩)⟩)⟩)⟩⟩
set_option maxHeartbeats 4000000 in
set_option maxRecDepth 100000 in
theorem c_Floor_on (l : Launch) (G : gG) (fr : Nat) (bk : Nat) (f0 : Value) (f1 : Value) (f2 : Value) (ca : Nat) (v1 : Value) (v2 : Value) (v3 : Value) (v4 : Value) (v5 : Value) (x : Int32) (y : Int32) : Met l yX3_on wq_c_Floor_on ({ frames := 1, cells := 0, slots := 0, locals := 21 }) (va_Pc [.ref fr, .int x, .int y] (pP G [(fr, .inr (4, [.ref bk, f0, f1, f2])), (bk, .inr (2, [.ref ca, v1, v2, v3, v4, v5])), (ca, .inl (gI G, 2088, .inl bk0))])) (vp_Si (fun r : Int32 => r = rg bk0 2088 (2004 + x * 21 + y))) 0 0 (fun _ => False) := by
  refine Met.ofW (cc := cX3_on) (maxL := 3) (ret := (some .int)) (by decide) rfl ?_
  intro p e s m args below meth c s₁ B hml hv
  obtain ⟨rfl, hP, hB⟩ := hv
  have hx := B.exec
  have hb := B.bytes
  have hr := B.returns
  have hts := atoms_spec (ws := wq_c_Floor_on) B.pre
  have hown : s.vm.findClass RX3 = some m.cls := findClass_of_methodNamed B.named
  have hlocks := B.notSynchronized
  have hK := hB.1
  have hP : va_P (gD G) vwCl [(fr, .inr (4, [.ref bk, f0, f1, f2])), (bk, .inr (2, [.ref ca, v1, v2, v3, v4, v5])), (ca, .inl (gI G, 2088, .inl bk0))] s.heap := hP
  have hl := lv_entry ([.ref fr, .int x, .int y]) (n := 3) (Nat.le_of_ble_eq_true rfl)
  rw [lg_entry_eq]
  generalize (lg_sl ([.ref fr, .int x, .int y]) ++ List.replicate (3 - (lg_sl ([.ref fr, .int x, .int y])).length) Slot.unset).toArray = ls at hl ⊢
  have hl : lv_has ls 3 [(0, .ref fr), (1, .int x), (2, .int y)] := hl
  refine lv_aload_n hx hb dX3_on_0 rfl (lv_at hl 0 rfl) ?_
  refine va_get (D := gD G) (ci := 4) (v := .ref bk) (C := RX3) (T := TX3) (N := 4) hx hb hts (fun _ h9 => (List.mem_cons_of_mem _ (List.mem_append_right _ (List.mem_append_left _ h9)))) hown hK hP 0 rfl rfl 0 (by decide) (hts (.fieldLink RX3 9 "JudoHall$Floor" "book" "LJudoHall$Book;") (List.mem_cons_of_mem _ (List.mem_append_left _ (List.mem_of_getElem? (i := 0) rfl)))) (fun _ h9 => h9) rfl dX3_on_1 ?_
  refine lv_iload_n hx hb dX3_on_4 rfl (lv_at hl 1 rfl) ?_
  refine lv_iload_n hx hb dX3_on_5 rfl (lv_at hl 2 rfl) ?_
  refine vp_callSi (va_Run.run (va_runS (As := [.int x, .int y]) (rest := [.ref bk]) ⟨hx, hb, hml, hown, hts⟩ (c_Book_ofMat l G x y) (va_cwS 2 hts (gdS (List.mem_cons_of_mem _ (List.mem_append_left _ (List.mem_of_getElem? (i := 1) rfl))) (List.mem_cons_of_mem _ (List.mem_append_left _ (List.mem_of_getElem? (i := 2) rfl))) (List.mem_cons_of_mem _ (List.mem_append_left _ (List.mem_of_getElem? (i := 3) rfl))) (fun w9 h9 => ⟨(List.mem_cons_of_mem _ (List.mem_append_right _ (List.mem_append_right _ (List.mem_append_left _ h9)))), gd_c_Book_ofMat w9 h9⟩)) rfl rfl rfl kSX1_ofMat ⟨Nat.le_of_ble_eq_true rfl, Nat.le_of_ble_eq_true rfl⟩) (preS_p (As := [.int x, .int y]) (hP.sub (ws' := []) [] rfl) hB) rfl rfl hl.1 rfl (lv_room (Nat.le_of_ble_eq_true rfl)) dX3_on_6 ⟨Nat.le_of_ble_eq_true rfl, Nat.le_of_ble_eq_true rfl⟩)) (fun r_1 hr_1 => ?_)
  subst hr_1
  refine vp_callSi (va_Run.run (va_runV (As := [.int (2004 + x * 21 + y)]) (rest := []) ⟨hx, hb, hml, hown, hts⟩ (c_Book_at l G bk ca 2088 bk0 v1 v2 v3 v4 v5 (2004 + x * 21 + y) (by decide)) (cwV 1 hts (gdV (List.mem_cons_of_mem _ (List.mem_append_left _ (List.mem_of_getElem? (i := 4) rfl))) (List.mem_cons_of_mem _ (List.mem_append_left _ (List.mem_of_getElem? (i := 5) rfl))) (List.mem_cons_of_mem _ (List.mem_append_left _ (List.mem_of_getElem? (i := 6) rfl))) (List.mem_cons_of_mem _ (List.mem_append_left _ (List.mem_of_getElem? (i := 3) rfl))) (fun w9 h9 => ⟨(List.mem_cons_of_mem _ (List.mem_append_right _ (List.mem_append_right _ (List.mem_append_right _ (List.mem_append_left _ h9))))), gd_c_Book_at w9 h9⟩)) rfl rfl rfl kVX1_at ⟨Nat.le_of_ble_eq_true rfl, Nat.le_of_ble_eq_true rfl⟩) (preV_p (As := [.int (2004 + x * 21 + y)]) (hP.sub (ws' := [(bk, .inr (2, [.ref ca, v1, v2, v3, v4, v5])), (ca, .inl (gI G, 2088, .inl bk0))]) [1, 2] rfl) hB rfl rfl) rfl rfl hl.1 rfl (lv_room (Nat.le_of_ble_eq_true rfl)) dX3_on_9 ⟨Nat.le_of_ble_eq_true rfl, Nat.le_of_ble_eq_true rfl⟩)) (fun r_2 hr_2 => ?_)
  subst hr_2
  exact W.iret (v := (rg bk0 2088 (2004 + x * 21 + y))) hx hb hr (fun t ht hW => ⟨_, rfl, rfl, ht⟩) (fun q h => absurd h List.not_mem_nil) dX3_on_12

def wo_c_isFree : List Cond := [.methodLink RX3 38 yX3_on, .instanceMethod yX3_on, .selects RX3 yX3_on yX3_on, .initialized RX3]
def wq_c_isFree : List Cond := .code yX3_isFree cX3_isFree 2 (some .boolean) :: (wo_c_isFree ++ (wq_c_Floor_on ++ []))
theorem gd_c_isFree : ∀ w ∈ wq_c_isFree, Gd w := List.forall_mem_cons.mpr ⟨Or.inl rfl, List.forall_mem_append.mpr ⟨gdl wo_c_isFree (by decide +kernel), (List.forall_mem_append.mpr ⟨gd_c_Floor_on, (fun _ h => absurd h List.not_mem_nil)⟩)⟩⟩
theorem in_c_isFree : ∀ w ∈ wq_c_isFree, w ∈ lw_tbl := List.forall_mem_cons.mpr ⟨List.mem_of_getElem? (i := 616) (by decide +kernel), List.forall_mem_append.mpr ⟨inT wo_c_isFree [617, 619, 1, 165] (by decide +kernel), (List.forall_mem_append.mpr ⟨in_c_Floor_on, (fun _ h => absurd h List.not_mem_nil)⟩)⟩⟩
set_option maxHeartbeats 4000000 in
set_option maxRecDepth 100000 in
theorem c_isFree (l : Launch) (G : gG) (fr : Nat) (bk : Nat) (f0 : Value) (f1 : Value) (f2 : Value) (ca : Nat) (v1 : Value) (v2 : Value) (v3 : Value) (v4 : Value) (v5 : Value) (x : Int32) (h0 : ¬ x < 0) (h1 : ¬ (4 : Int32) ≤ x) : Met l yX3_isFree wq_c_isFree ({ frames := 2, cells := 0, slots := 0, locals := 43 }) (va_Pc [.ref fr, .int x] (pP G [(fr, .inr (4, [.ref bk, f0, f1, f2])), (bk, .inr (2, [.ref ca, v1, v2, v3, v4, v5])), (ca, .inl (gI G, 2088, .inl bk0))])) (vp_Si (fun r : Int32 => r = 1)) 0 0 (fun _ => False) := by
  refine Met.ofW (cc := cX3_isFree) (maxL := 2) (ret := (some .boolean)) (by decide) rfl ?_
  intro p e s m args below meth c s₁ B hml hv
  obtain ⟨rfl, hP, hB⟩ := hv
  have hx := B.exec
  have hb := B.bytes
  have hr := B.returns
  have hts := atoms_spec (ws := wq_c_isFree) B.pre
  have hown : s.vm.findClass RX3 = some m.cls := findClass_of_methodNamed B.named
  have hlocks := B.notSynchronized
  have hK := hB.1
  have hP : va_P (gD G) vwCl [(fr, .inr (4, [.ref bk, f0, f1, f2])), (bk, .inr (2, [.ref ca, v1, v2, v3, v4, v5])), (ca, .inl (gI G, 2088, .inl bk0))] s.heap := hP
  have hl := lv_entry ([.ref fr, .int x]) (n := 2) (Nat.le_of_ble_eq_true rfl)
  rw [lg_entry_eq]
  generalize (lg_sl ([.ref fr, .int x]) ++ List.replicate (2 - (lg_sl ([.ref fr, .int x])).length) Slot.unset).toArray = ls at hl ⊢
  have hl : lv_has ls 2 [(0, .ref fr), (1, .int x)] := hl
  refine lv_aload_n hx hb dX3_isFree_0 rfl (lv_at hl 0 rfl) ?_
  refine lv_iload_n hx hb dX3_isFree_1 rfl (lv_at hl 1 rfl) ?_
  refine lv_iconst (v := 1) hx hb dX3_isFree_2 (by decide) ?_
  refine vp_callSi (va_Run.run (va_runV (As := [.int x, .int 1]) (rest := []) ⟨hx, hb, hml, hown, hts⟩ (c_Floor_on l G fr bk f0 f1 f2 ca v1 v2 v3 v4 v5 x 1) (cwV 2 hts (gdV (List.mem_cons_of_mem _ (List.mem_append_left _ (List.mem_of_getElem? (i := 0) rfl))) (List.mem_cons_of_mem _ (List.mem_append_left _ (List.mem_of_getElem? (i := 1) rfl))) (List.mem_cons_of_mem _ (List.mem_append_left _ (List.mem_of_getElem? (i := 2) rfl))) (List.mem_cons_of_mem _ (List.mem_append_left _ (List.mem_of_getElem? (i := 3) rfl))) (fun w9 h9 => ⟨(List.mem_cons_of_mem _ (List.mem_append_right _ (List.mem_append_left _ h9))), gd_c_Floor_on w9 h9⟩)) rfl rfl rfl kVX3_on ⟨Nat.le_of_ble_eq_true rfl, Nat.le_of_ble_eq_true rfl⟩) (preV_p (As := [.int x, .int 1]) (hP.sub (ws' := [(fr, .inr (4, [.ref bk, f0, f1, f2])), (bk, .inr (2, [.ref ca, v1, v2, v3, v4, v5])), (ca, .inl (gI G, 2088, .inl bk0))]) [0, 1, 2] rfl) hB rfl rfl) rfl rfl hl.1 rfl (lv_room (Nat.le_of_ble_eq_true rfl)) dX3_isFree_3 ⟨Nat.le_of_ble_eq_true rfl, Nat.le_of_ble_eq_true rfl⟩)) (fun r_1 hr_1 => ?_)
  have hr_1 : r_1 = (-1) := hr_1.trans (bk_mat h0 h1)
  subst hr_1
  refine lv_iconst (v := (-1)) hx hb dX3_isFree_6 (by decide) ?_
  refine lv_icmp_ne (tgt := 14) hx hb dX3_isFree_7 (by decide) (fun c9 => absurd (by decide) c9) (fun _ => ?_)
  refine lv_iconst (v := 1) hx hb dX3_isFree_10 (by decide) ?_
  refine lv_goto (tgt := 15) hx hb dX3_isFree_11 (by decide) ?_
  exact W.zret (v := 1) hx hb hr rfl (fun t ht hW => ⟨_, rfl, rfl, ht⟩) (fun q h => absurd h List.not_mem_nil) dX3_isFree_15

def wo_c_goesOn : List Cond := [.methodLink RX3 41 yX3_isFree, .instanceMethod yX3_isFree, .selects RX3 yX3_isFree yX3_isFree, .initialized RX3]
def wq_c_goesOn : List Cond := .code yX3_goesOn cX3_goesOn 2 (some .boolean) :: (wo_c_goesOn ++ (wq_c_isFree ++ []))
theorem gd_c_goesOn : ∀ w ∈ wq_c_goesOn, Gd w := List.forall_mem_cons.mpr ⟨Or.inl rfl, List.forall_mem_append.mpr ⟨gdl wo_c_goesOn (by decide +kernel), (List.forall_mem_append.mpr ⟨gd_c_isFree, (fun _ h => absurd h List.not_mem_nil)⟩)⟩⟩
theorem in_c_goesOn : ∀ w ∈ wq_c_goesOn, w ∈ lw_tbl := List.forall_mem_cons.mpr ⟨List.mem_of_getElem? (i := 1271) (by decide +kernel), List.forall_mem_append.mpr ⟨inT wo_c_goesOn [613, 614, 615, 165] (by decide +kernel), (List.forall_mem_append.mpr ⟨in_c_isFree, (fun _ h => absurd h List.not_mem_nil)⟩)⟩⟩
set_option maxHeartbeats 4000000 in
set_option maxRecDepth 100000 in
theorem c_goesOn (l : Launch) (G : gG) (fr : Nat) (bk : Nat) (f0 : Value) (f1 : Value) (f2 : Value) (ca : Nat) (v1 : Value) (v2 : Value) (v3 : Value) (v4 : Value) (v5 : Value) (x : Int32) (h0 : ¬ x < 0) (h1 : ¬ (4 : Int32) ≤ x) : Met l yX3_goesOn wq_c_goesOn ({ frames := 3, cells := 0, slots := 0, locals := 64 }) (va_Pc [.ref fr, .int x] (pP G [(fr, .inr (4, [.ref bk, f0, f1, f2])), (bk, .inr (2, [.ref ca, v1, v2, v3, v4, v5])), (ca, .inl (gI G, 2088, .inl bk0))])) (vp_Si (fun r : Int32 => r = 0)) 0 0 (fun _ => False) := by
  refine Met.ofW (cc := cX3_goesOn) (maxL := 2) (ret := (some .boolean)) (by decide) rfl ?_
  intro p e s m args below meth c s₁ B hml hv
  obtain ⟨rfl, hP, hB⟩ := hv
  have hx := B.exec
  have hb := B.bytes
  have hr := B.returns
  have hts := atoms_spec (ws := wq_c_goesOn) B.pre
  have hown : s.vm.findClass RX3 = some m.cls := findClass_of_methodNamed B.named
  have hlocks := B.notSynchronized
  have hK := hB.1
  have hP : va_P (gD G) vwCl [(fr, .inr (4, [.ref bk, f0, f1, f2])), (bk, .inr (2, [.ref ca, v1, v2, v3, v4, v5])), (ca, .inl (gI G, 2088, .inl bk0))] s.heap := hP
  have hl := lv_entry ([.ref fr, .int x]) (n := 2) (Nat.le_of_ble_eq_true rfl)
  rw [lg_entry_eq]
  generalize (lg_sl ([.ref fr, .int x]) ++ List.replicate (2 - (lg_sl ([.ref fr, .int x])).length) Slot.unset).toArray = ls at hl ⊢
  have hl : lv_has ls 2 [(0, .ref fr), (1, .int x)] := hl
  refine lv_aload_n hx hb dX3_goesOn_0 rfl (lv_at hl 0 rfl) ?_
  refine lv_iload_n hx hb dX3_goesOn_1 rfl (lv_at hl 1 rfl) ?_
  refine vp_callSi (va_Run.run (va_runV (As := [.int x]) (rest := []) ⟨hx, hb, hml, hown, hts⟩ (c_isFree l G fr bk f0 f1 f2 ca v1 v2 v3 v4 v5 x (h0) (h1)) (cwV 1 hts (gdV (List.mem_cons_of_mem _ (List.mem_append_left _ (List.mem_of_getElem? (i := 0) rfl))) (List.mem_cons_of_mem _ (List.mem_append_left _ (List.mem_of_getElem? (i := 1) rfl))) (List.mem_cons_of_mem _ (List.mem_append_left _ (List.mem_of_getElem? (i := 2) rfl))) (List.mem_cons_of_mem _ (List.mem_append_left _ (List.mem_of_getElem? (i := 3) rfl))) (fun w9 h9 => ⟨(List.mem_cons_of_mem _ (List.mem_append_right _ (List.mem_append_left _ h9))), gd_c_isFree w9 h9⟩)) rfl rfl rfl kVX3_isFree ⟨Nat.le_of_ble_eq_true rfl, Nat.le_of_ble_eq_true rfl⟩) (preV_p (As := [.int x]) (hP.sub (ws' := [(fr, .inr (4, [.ref bk, f0, f1, f2])), (bk, .inr (2, [.ref ca, v1, v2, v3, v4, v5])), (ca, .inl (gI G, 2088, .inl bk0))]) [0, 1, 2] rfl) hB rfl rfl) rfl rfl hl.1 rfl (lv_room (Nat.le_of_ble_eq_true rfl)) dX3_goesOn_2 ⟨Nat.le_of_ble_eq_true rfl, Nat.le_of_ble_eq_true rfl⟩)) (fun r_1 hr_1 => ?_)
  subst hr_1
  refine lv_if_ne (tgt := 21) hx hb dX3_goesOn_5 (by decide) (fun _ => ?_) (fun c9 => absurd c9 (by decide))
  refine lv_iconst (v := 0) hx hb dX3_goesOn_21 (by decide) ?_
  exact W.zret (v := 0) hx hb hr rfl (fun t ht hW => ⟨_, rfl, rfl, ht⟩) (fun q h => absurd h List.not_mem_nil) dX3_goesOn_22

def wo_c_waits : List Cond := [.methodLink RX3 41 yX3_isFree, .instanceMethod yX3_isFree, .selects RX3 yX3_isFree yX3_isFree, .initialized RX3]
def wq_c_waits : List Cond := .code yX3_waits cX3_waits 2 (some .boolean) :: (wo_c_waits ++ (wq_c_isFree ++ []))
theorem gd_c_waits : ∀ w ∈ wq_c_waits, Gd w := List.forall_mem_cons.mpr ⟨Or.inl rfl, List.forall_mem_append.mpr ⟨gdl wo_c_waits (by decide +kernel), (List.forall_mem_append.mpr ⟨gd_c_isFree, (fun _ h => absurd h List.not_mem_nil)⟩)⟩⟩
theorem in_c_waits : ∀ w ∈ wq_c_waits, w ∈ lw_tbl := List.forall_mem_cons.mpr ⟨List.mem_of_getElem? (i := 1348) (by decide +kernel), List.forall_mem_append.mpr ⟨inT wo_c_waits [613, 614, 615, 165] (by decide +kernel), (List.forall_mem_append.mpr ⟨in_c_isFree, (fun _ h => absurd h List.not_mem_nil)⟩)⟩⟩
set_option maxHeartbeats 4000000 in
set_option maxRecDepth 100000 in
theorem c_waits (l : Launch) (G : gG) (fr : Nat) (bk : Nat) (f0 : Value) (f1 : Value) (f2 : Value) (ca : Nat) (v1 : Value) (v2 : Value) (v3 : Value) (v4 : Value) (v5 : Value) (x : Int32) (h0 : ¬ x < 0) (h1 : ¬ (4 : Int32) ≤ x) : Met l yX3_waits wq_c_waits ({ frames := 3, cells := 0, slots := 0, locals := 64 }) (va_Pc [.ref fr, .int x] (pP G [(fr, .inr (4, [.ref bk, f0, f1, f2])), (bk, .inr (2, [.ref ca, v1, v2, v3, v4, v5])), (ca, .inl (gI G, 2088, .inl bk0))])) (vp_Si (fun r : Int32 => r = 0)) 0 0 (fun _ => False) := by
  refine Met.ofW (cc := cX3_waits) (maxL := 2) (ret := (some .boolean)) (by decide) rfl ?_
  intro p e s m args below meth c s₁ B hml hv
  obtain ⟨rfl, hP, hB⟩ := hv
  have hx := B.exec
  have hb := B.bytes
  have hr := B.returns
  have hts := atoms_spec (ws := wq_c_waits) B.pre
  have hown : s.vm.findClass RX3 = some m.cls := findClass_of_methodNamed B.named
  have hlocks := B.notSynchronized
  have hK := hB.1
  have hP : va_P (gD G) vwCl [(fr, .inr (4, [.ref bk, f0, f1, f2])), (bk, .inr (2, [.ref ca, v1, v2, v3, v4, v5])), (ca, .inl (gI G, 2088, .inl bk0))] s.heap := hP
  have hl := lv_entry ([.ref fr, .int x]) (n := 2) (Nat.le_of_ble_eq_true rfl)
  rw [lg_entry_eq]
  generalize (lg_sl ([.ref fr, .int x]) ++ List.replicate (2 - (lg_sl ([.ref fr, .int x])).length) Slot.unset).toArray = ls at hl ⊢
  have hl : lv_has ls 2 [(0, .ref fr), (1, .int x)] := hl
  refine lv_aload_n hx hb dX3_waits_0 rfl (lv_at hl 0 rfl) ?_
  refine lv_iload_n hx hb dX3_waits_1 rfl (lv_at hl 1 rfl) ?_
  refine vp_callSi (va_Run.run (va_runV (As := [.int x]) (rest := []) ⟨hx, hb, hml, hown, hts⟩ (c_isFree l G fr bk f0 f1 f2 ca v1 v2 v3 v4 v5 x (h0) (h1)) (cwV 1 hts (gdV (List.mem_cons_of_mem _ (List.mem_append_left _ (List.mem_of_getElem? (i := 0) rfl))) (List.mem_cons_of_mem _ (List.mem_append_left _ (List.mem_of_getElem? (i := 1) rfl))) (List.mem_cons_of_mem _ (List.mem_append_left _ (List.mem_of_getElem? (i := 2) rfl))) (List.mem_cons_of_mem _ (List.mem_append_left _ (List.mem_of_getElem? (i := 3) rfl))) (fun w9 h9 => ⟨(List.mem_cons_of_mem _ (List.mem_append_right _ (List.mem_append_left _ h9))), gd_c_isFree w9 h9⟩)) rfl rfl rfl kVX3_isFree ⟨Nat.le_of_ble_eq_true rfl, Nat.le_of_ble_eq_true rfl⟩) (preV_p (As := [.int x]) (hP.sub (ws' := [(fr, .inr (4, [.ref bk, f0, f1, f2])), (bk, .inr (2, [.ref ca, v1, v2, v3, v4, v5])), (ca, .inl (gI G, 2088, .inl bk0))]) [0, 1, 2] rfl) hB rfl rfl) rfl rfl hl.1 rfl (lv_room (Nat.le_of_ble_eq_true rfl)) dX3_waits_2 ⟨Nat.le_of_ble_eq_true rfl, Nat.le_of_ble_eq_true rfl⟩)) (fun r_1 hr_1 => ?_)
  subst hr_1
  refine lv_if_ne (tgt := 22) hx hb dX3_waits_5 (by decide) (fun _ => ?_) (fun c9 => absurd c9 (by decide))
  refine lv_iconst (v := 0) hx hb dX3_waits_22 (by decide) ?_
  exact W.zret (v := 0) hx hb hr rfl (fun t ht hW => ⟨_, rfl, rfl, ht⟩) (fun q h => absurd h List.not_mem_nil) dX3_waits_23

def wo_c_openFights : List Cond := [.methodLink RX3 41 yX3_isFree, .instanceMethod yX3_isFree, .selects RX3 yX3_isFree yX3_isFree, .initialized RX3]
def wq_c_openFights : List Cond := .code yX3_openFights cX3_openFights 3 (some .int) :: (wo_c_openFights ++ (wq_c_isFree ++ []))
theorem gd_c_openFights : ∀ w ∈ wq_c_openFights, Gd w := List.forall_mem_cons.mpr ⟨Or.inl rfl, List.forall_mem_append.mpr ⟨gdl wo_c_openFights (by decide +kernel), (List.forall_mem_append.mpr ⟨gd_c_isFree, (fun _ h => absurd h List.not_mem_nil)⟩)⟩⟩
theorem in_c_openFights : ∀ w ∈ wq_c_openFights, w ∈ lw_tbl := List.forall_mem_cons.mpr ⟨List.mem_of_getElem? (i := 612) (by decide +kernel), List.forall_mem_append.mpr ⟨inT wo_c_openFights [613, 614, 615, 165] (by decide +kernel), (List.forall_mem_append.mpr ⟨in_c_isFree, (fun _ h => absurd h List.not_mem_nil)⟩)⟩⟩
set_option maxHeartbeats 4000000 in
set_option maxRecDepth 100000 in
theorem c_openFights (l : Launch) (G : gG) (fr : Nat) (bk : Nat) (f0 : Value) (f1 : Value) (f2 : Value) (ca : Nat) (v1 : Value) (v2 : Value) (v3 : Value) (v4 : Value) (v5 : Value) : Met l yX3_openFights wq_c_openFights ({ frames := 3, cells := 0, slots := 0, locals := 64 }) (va_Pc [.ref fr] (pP G [(fr, .inr (4, [.ref bk, f0, f1, f2])), (bk, .inr (2, [.ref ca, v1, v2, v3, v4, v5])), (ca, .inl (gI G, 2088, .inl bk0))])) (vp_Si (fun r : Int32 => r = 0)) 0 0 (fun _ => False) := by
  refine Met.ofW (cc := cX3_openFights) (maxL := 3) (ret := (some .int)) (by decide) rfl ?_
  intro p e s m args below meth c s₁ B hml hv
  obtain ⟨rfl, hP, hB⟩ := hv
  have hx := B.exec
  have hb := B.bytes
  have hr := B.returns
  have hts := atoms_spec (ws := wq_c_openFights) B.pre
  have hown : s.vm.findClass RX3 = some m.cls := findClass_of_methodNamed B.named
  have hlocks := B.notSynchronized
  have hK := hB.1
  have hP : va_P (gD G) vwCl [(fr, .inr (4, [.ref bk, f0, f1, f2])), (bk, .inr (2, [.ref ca, v1, v2, v3, v4, v5])), (ca, .inl (gI G, 2088, .inl bk0))] s.heap := hP
  have hl := lv_entry ([.ref fr]) (n := 3) (Nat.le_of_ble_eq_true rfl)
  rw [lg_entry_eq]
  generalize (lg_sl ([.ref fr]) ++ List.replicate (3 - (lg_sl ([.ref fr])).length) Slot.unset).toArray = ls at hl ⊢
  have hl : lv_has ls 3 [(0, .ref fr)] := hl
  refine lv_iconst (v := 0) hx hb dX3_openFights_0 (by decide) ?_
  refine lv_istore_n (lv' := [(1, .int 0), (0, .ref fr)]) hx hb dX3_openFights_1 rfl hl (by decide) rfl (fun ls hl => ?_)
  refine lv_iconst (v := 0) hx hb dX3_openFights_2 (by decide) ?_
  refine lv_istore_n (lv' := [(2, .int 0), (1, .int 0), (0, .ref fr)]) hx hb dX3_openFights_3 rfl hl (by decide) rfl (fun ls hl => ?_)
  refine lv_iload_n hx hb dX3_openFights_4 rfl (lv_at hl 0 rfl) ?_
  refine lv_iconst (v := 4) hx hb dX3_openFights_5 (by decide) ?_
  refine lv_icmp_ge (tgt := 31) hx hb dX3_openFights_6 (by decide) (fun c9 => absurd c9 (by decide)) (fun _ => ?_)
  refine lv_iload_n hx hb dX3_openFights_9 rfl (lv_at hl 1 rfl) ?_
  refine lv_aload_n hx hb dX3_openFights_10 rfl (lv_at hl 2 rfl) ?_
  refine lv_iload_n hx hb dX3_openFights_11 rfl (lv_at hl 0 rfl) ?_
  refine vp_callSi (va_Run.run (va_runV (As := [.int 0]) (rest := [.int 0]) ⟨hx, hb, hml, hown, hts⟩ (c_isFree l G fr bk f0 f1 f2 ca v1 v2 v3 v4 v5 0 (by decide) (by decide)) (cwV 1 hts (gdV (List.mem_cons_of_mem _ (List.mem_append_left _ (List.mem_of_getElem? (i := 0) rfl))) (List.mem_cons_of_mem _ (List.mem_append_left _ (List.mem_of_getElem? (i := 1) rfl))) (List.mem_cons_of_mem _ (List.mem_append_left _ (List.mem_of_getElem? (i := 2) rfl))) (List.mem_cons_of_mem _ (List.mem_append_left _ (List.mem_of_getElem? (i := 3) rfl))) (fun w9 h9 => ⟨(List.mem_cons_of_mem _ (List.mem_append_right _ (List.mem_append_left _ h9))), gd_c_isFree w9 h9⟩)) rfl rfl rfl kVX3_isFree ⟨Nat.le_of_ble_eq_true rfl, Nat.le_of_ble_eq_true rfl⟩) (preV_p (As := [.int 0]) (hP.sub (ws' := [(fr, .inr (4, [.ref bk, f0, f1, f2])), (bk, .inr (2, [.ref ca, v1, v2, v3, v4, v5])), (ca, .inl (gI G, 2088, .inl bk0))]) [0, 1, 2] rfl) hB rfl rfl) rfl rfl hl.1 rfl (lv_room (Nat.le_of_ble_eq_true rfl)) dX3_openFights_12 ⟨Nat.le_of_ble_eq_true rfl, Nat.le_of_ble_eq_true rfl⟩)) (fun r_1 hr_1 => ?_)
  subst hr_1
  refine lv_if_eq (tgt := 22) hx hb dX3_openFights_15 (by decide) (fun c9 => absurd c9 (by decide)) (fun _ => ?_)
  refine lv_iconst (v := 0) hx hb dX3_openFights_18 (by decide) ?_
  refine lv_goto (tgt := 23) hx hb dX3_openFights_19 (by decide) ?_
  refine lv_iadd hx hb dX3_openFights_23 ?_
  refine gx_ti (y := 0) (by decide) ?_
  refine lv_istore_n (lv' := [(1, .int 0), (2, .int 0), (0, .ref fr)]) hx hb dX3_openFights_24 rfl hl (by decide) rfl (fun ls hl => ?_)
  refine lv_iinc (v := 1) (lv' := [(2, .int 1), (1, .int 0), (0, .ref fr)]) hx hb dX3_openFights_25 hl (k := 1) rfl (by decide) (by decide) rfl (fun ls hl => ?_)
  refine lv_goto (tgt := 4) hx hb dX3_openFights_28 (by decide) ?_
  refine lv_iload_n hx hb dX3_openFights_4 rfl (lv_at hl 0 rfl) ?_
  refine lv_iconst (v := 4) hx hb dX3_openFights_5 (by decide) ?_
  refine lv_icmp_ge (tgt := 31) hx hb dX3_openFights_6 (by decide) (fun c9 => absurd c9 (by decide)) (fun _ => ?_)
  refine lv_iload_n hx hb dX3_openFights_9 rfl (lv_at hl 1 rfl) ?_
  refine lv_aload_n hx hb dX3_openFights_10 rfl (lv_at hl 2 rfl) ?_
  refine lv_iload_n hx hb dX3_openFights_11 rfl (lv_at hl 0 rfl) ?_
  refine vp_callSi (va_Run.run (va_runV (As := [.int 1]) (rest := [.int 0]) ⟨hx, hb, hml, hown, hts⟩ (c_isFree l G fr bk f0 f1 f2 ca v1 v2 v3 v4 v5 1 (by decide) (by decide)) (cwV 1 hts (gdV (List.mem_cons_of_mem _ (List.mem_append_left _ (List.mem_of_getElem? (i := 0) rfl))) (List.mem_cons_of_mem _ (List.mem_append_left _ (List.mem_of_getElem? (i := 1) rfl))) (List.mem_cons_of_mem _ (List.mem_append_left _ (List.mem_of_getElem? (i := 2) rfl))) (List.mem_cons_of_mem _ (List.mem_append_left _ (List.mem_of_getElem? (i := 3) rfl))) (fun w9 h9 => ⟨(List.mem_cons_of_mem _ (List.mem_append_right _ (List.mem_append_left _ h9))), gd_c_isFree w9 h9⟩)) rfl rfl rfl kVX3_isFree ⟨Nat.le_of_ble_eq_true rfl, Nat.le_of_ble_eq_true rfl⟩) (preV_p (As := [.int 1]) (hP.sub (ws' := [(fr, .inr (4, [.ref bk, f0, f1, f2])), (bk, .inr (2, [.ref ca, v1, v2, v3, v4, v5])), (ca, .inl (gI G, 2088, .inl bk0))]) [0, 1, 2] rfl) hB rfl rfl) rfl rfl hl.1 rfl (lv_room (Nat.le_of_ble_eq_true rfl)) dX3_openFights_12 ⟨Nat.le_of_ble_eq_true rfl, Nat.le_of_ble_eq_true rfl⟩)) (fun r_2 hr_2 => ?_)
  subst hr_2
  refine lv_if_eq (tgt := 22) hx hb dX3_openFights_15 (by decide) (fun c9 => absurd c9 (by decide)) (fun _ => ?_)
  refine lv_iconst (v := 0) hx hb dX3_openFights_18 (by decide) ?_
  refine lv_goto (tgt := 23) hx hb dX3_openFights_19 (by decide) ?_
  refine lv_iadd hx hb dX3_openFights_23 ?_
  refine gx_ti (y := 0) (by decide) ?_
  refine lv_istore_n (lv' := [(1, .int 0), (2, .int 1), (0, .ref fr)]) hx hb dX3_openFights_24 rfl hl (by decide) rfl (fun ls hl => ?_)
  refine lv_iinc (v := 2) (lv' := [(2, .int 2), (1, .int 0), (0, .ref fr)]) hx hb dX3_openFights_25 hl (k := 1) rfl (by decide) (by decide) rfl (fun ls hl => ?_)
  refine lv_goto (tgt := 4) hx hb dX3_openFights_28 (by decide) ?_
  refine lv_iload_n hx hb dX3_openFights_4 rfl (lv_at hl 0 rfl) ?_
  refine lv_iconst (v := 4) hx hb dX3_openFights_5 (by decide) ?_
  refine lv_icmp_ge (tgt := 31) hx hb dX3_openFights_6 (by decide) (fun c9 => absurd c9 (by decide)) (fun _ => ?_)
  refine lv_iload_n hx hb dX3_openFights_9 rfl (lv_at hl 1 rfl) ?_
  refine lv_aload_n hx hb dX3_openFights_10 rfl (lv_at hl 2 rfl) ?_
  refine lv_iload_n hx hb dX3_openFights_11 rfl (lv_at hl 0 rfl) ?_
  refine vp_callSi (va_Run.run (va_runV (As := [.int 2]) (rest := [.int 0]) ⟨hx, hb, hml, hown, hts⟩ (c_isFree l G fr bk f0 f1 f2 ca v1 v2 v3 v4 v5 2 (by decide) (by decide)) (cwV 1 hts (gdV (List.mem_cons_of_mem _ (List.mem_append_left _ (List.mem_of_getElem? (i := 0) rfl))) (List.mem_cons_of_mem _ (List.mem_append_left _ (List.mem_of_getElem? (i := 1) rfl))) (List.mem_cons_of_mem _ (List.mem_append_left _ (List.mem_of_getElem? (i := 2) rfl))) (List.mem_cons_of_mem _ (List.mem_append_left _ (List.mem_of_getElem? (i := 3) rfl))) (fun w9 h9 => ⟨(List.mem_cons_of_mem _ (List.mem_append_right _ (List.mem_append_left _ h9))), gd_c_isFree w9 h9⟩)) rfl rfl rfl kVX3_isFree ⟨Nat.le_of_ble_eq_true rfl, Nat.le_of_ble_eq_true rfl⟩) (preV_p (As := [.int 2]) (hP.sub (ws' := [(fr, .inr (4, [.ref bk, f0, f1, f2])), (bk, .inr (2, [.ref ca, v1, v2, v3, v4, v5])), (ca, .inl (gI G, 2088, .inl bk0))]) [0, 1, 2] rfl) hB rfl rfl) rfl rfl hl.1 rfl (lv_room (Nat.le_of_ble_eq_true rfl)) dX3_openFights_12 ⟨Nat.le_of_ble_eq_true rfl, Nat.le_of_ble_eq_true rfl⟩)) (fun r_3 hr_3 => ?_)
  subst hr_3
  refine lv_if_eq (tgt := 22) hx hb dX3_openFights_15 (by decide) (fun c9 => absurd c9 (by decide)) (fun _ => ?_)
  refine lv_iconst (v := 0) hx hb dX3_openFights_18 (by decide) ?_
  refine lv_goto (tgt := 23) hx hb dX3_openFights_19 (by decide) ?_
  refine lv_iadd hx hb dX3_openFights_23 ?_
  refine gx_ti (y := 0) (by decide) ?_
  refine lv_istore_n (lv' := [(1, .int 0), (2, .int 2), (0, .ref fr)]) hx hb dX3_openFights_24 rfl hl (by decide) rfl (fun ls hl => ?_)
  refine lv_iinc (v := 3) (lv' := [(2, .int 3), (1, .int 0), (0, .ref fr)]) hx hb dX3_openFights_25 hl (k := 1) rfl (by decide) (by decide) rfl (fun ls hl => ?_)
  refine lv_goto (tgt := 4) hx hb dX3_openFights_28 (by decide) ?_
  refine lv_iload_n hx hb dX3_openFights_4 rfl (lv_at hl 0 rfl) ?_
  refine lv_iconst (v := 4) hx hb dX3_openFights_5 (by decide) ?_
  refine lv_icmp_ge (tgt := 31) hx hb dX3_openFights_6 (by decide) (fun c9 => absurd c9 (by decide)) (fun _ => ?_)
  refine lv_iload_n hx hb dX3_openFights_9 rfl (lv_at hl 1 rfl) ?_
  refine lv_aload_n hx hb dX3_openFights_10 rfl (lv_at hl 2 rfl) ?_
  refine lv_iload_n hx hb dX3_openFights_11 rfl (lv_at hl 0 rfl) ?_
  refine vp_callSi (va_Run.run (va_runV (As := [.int 3]) (rest := [.int 0]) ⟨hx, hb, hml, hown, hts⟩ (c_isFree l G fr bk f0 f1 f2 ca v1 v2 v3 v4 v5 3 (by decide) (by decide)) (cwV 1 hts (gdV (List.mem_cons_of_mem _ (List.mem_append_left _ (List.mem_of_getElem? (i := 0) rfl))) (List.mem_cons_of_mem _ (List.mem_append_left _ (List.mem_of_getElem? (i := 1) rfl))) (List.mem_cons_of_mem _ (List.mem_append_left _ (List.mem_of_getElem? (i := 2) rfl))) (List.mem_cons_of_mem _ (List.mem_append_left _ (List.mem_of_getElem? (i := 3) rfl))) (fun w9 h9 => ⟨(List.mem_cons_of_mem _ (List.mem_append_right _ (List.mem_append_left _ h9))), gd_c_isFree w9 h9⟩)) rfl rfl rfl kVX3_isFree ⟨Nat.le_of_ble_eq_true rfl, Nat.le_of_ble_eq_true rfl⟩) (preV_p (As := [.int 3]) (hP.sub (ws' := [(fr, .inr (4, [.ref bk, f0, f1, f2])), (bk, .inr (2, [.ref ca, v1, v2, v3, v4, v5])), (ca, .inl (gI G, 2088, .inl bk0))]) [0, 1, 2] rfl) hB rfl rfl) rfl rfl hl.1 rfl (lv_room (Nat.le_of_ble_eq_true rfl)) dX3_openFights_12 ⟨Nat.le_of_ble_eq_true rfl, Nat.le_of_ble_eq_true rfl⟩)) (fun r_4 hr_4 => ?_)
  subst hr_4
  refine lv_if_eq (tgt := 22) hx hb dX3_openFights_15 (by decide) (fun c9 => absurd c9 (by decide)) (fun _ => ?_)
  refine lv_iconst (v := 0) hx hb dX3_openFights_18 (by decide) ?_
  refine lv_goto (tgt := 23) hx hb dX3_openFights_19 (by decide) ?_
  refine lv_iadd hx hb dX3_openFights_23 ?_
  refine gx_ti (y := 0) (by decide) ?_
  refine lv_istore_n (lv' := [(1, .int 0), (2, .int 3), (0, .ref fr)]) hx hb dX3_openFights_24 rfl hl (by decide) rfl (fun ls hl => ?_)
  refine lv_iinc (v := 4) (lv' := [(2, .int 4), (1, .int 0), (0, .ref fr)]) hx hb dX3_openFights_25 hl (k := 1) rfl (by decide) (by decide) rfl (fun ls hl => ?_)
  refine lv_goto (tgt := 4) hx hb dX3_openFights_28 (by decide) ?_
  refine lv_iload_n hx hb dX3_openFights_4 rfl (lv_at hl 0 rfl) ?_
  refine lv_iconst (v := 4) hx hb dX3_openFights_5 (by decide) ?_
  refine lv_icmp_ge (tgt := 31) hx hb dX3_openFights_6 (by decide) (fun _ => ?_) (fun c9 => absurd (by decide) c9)
  refine lv_iload_n hx hb dX3_openFights_31 rfl (lv_at hl 1 rfl) ?_
  exact W.iret (v := 0) hx hb hr (fun t ht hW => ⟨_, rfl, rfl, ht⟩) (fun q h => absurd h List.not_mem_nil) dX3_openFights_32

def wo_c_isFull : List Cond := [.fieldLink RX1 61 "JudoHall$Book" "entries" "I"]
def wq_c_isFull : List Cond := .code yX1_isFull cX1_isFull 1 (some .boolean) :: (wo_c_isFull ++ (wsX10 ++ []))
theorem gd_c_isFull : ∀ w ∈ wq_c_isFull, Gd w := List.forall_mem_cons.mpr ⟨Or.inl rfl, List.forall_mem_append.mpr ⟨gdl wo_c_isFull (by decide +kernel), (List.forall_mem_append.mpr ⟨gd_wsX10, (fun _ h => absurd h List.not_mem_nil)⟩)⟩⟩
theorem in_c_isFull : ∀ w ∈ wq_c_isFull, w ∈ lw_tbl := List.forall_mem_cons.mpr ⟨List.mem_of_getElem? (i := 852) (by decide +kernel), List.forall_mem_append.mpr ⟨inT wo_c_isFull [230] (by decide +kernel), (List.forall_mem_append.mpr ⟨in_wsX10, (fun _ h => absurd h List.not_mem_nil)⟩)⟩⟩
set_option maxHeartbeats 4000000 in
set_option maxRecDepth 100000 in
theorem c_isFull (l : Launch) (G : gG) (bk : Nat) (v1 : Value) (v2 : Value) (v3 : Value) (v4 : Value) (v5 : Value) : Met l yX1_isFull wq_c_isFull ({ frames := 0, cells := 0, slots := 0, locals := 0 }) (va_Pc [.ref bk] (pP G [(bk, .inr (2, [v1, v2, v3, v4, v5, .int 0]))])) (vp_Si (fun r : Int32 => r = 0)) 0 0 (fun _ => False) := by
  refine Met.ofW (cc := cX1_isFull) (maxL := 1) (ret := (some .boolean)) (by decide) rfl ?_
  intro p e s m args below meth c s₁ B hml hv
  obtain ⟨rfl, hP, hB⟩ := hv
  have hx := B.exec
  have hb := B.bytes
  have hr := B.returns
  have hts := atoms_spec (ws := wq_c_isFull) B.pre
  have hown : s.vm.findClass RX1 = some m.cls := findClass_of_methodNamed B.named
  have hlocks := B.notSynchronized
  have hK := hB.1
  have hP : va_P (gD G) vwCl [(bk, .inr (2, [v1, v2, v3, v4, v5, .int 0]))] s.heap := hP
  have hl := lv_entry ([.ref bk]) (n := 1) (Nat.le_of_ble_eq_true rfl)
  rw [lg_entry_eq]
  generalize (lg_sl ([.ref bk]) ++ List.replicate (1 - (lg_sl ([.ref bk])).length) Slot.unset).toArray = ls at hl ⊢
  have hl : lv_has ls 1 [(0, .ref bk)] := hl
  refine lv_aload_n hx hb dX1_isFull_0 rfl (lv_at hl 0 rfl) ?_
  refine va_get (D := gD G) (ci := 2) (v := .int 0) (C := RX1) (T := TX1) (N := 6) hx hb hts (fun _ h9 => (List.mem_cons_of_mem _ (List.mem_append_right _ (List.mem_append_left _ h9)))) hown hK hP 0 rfl rfl 5 (by decide) (hts (.fieldLink RX1 61 "JudoHall$Book" "entries" "I") (List.mem_cons_of_mem _ (List.mem_append_left _ (List.mem_of_getElem? (i := 0) rfl)))) (fun _ h9 => h9) rfl dX1_isFull_1 ?_
  refine lv_sipush (v := 500) hx hb dX1_isFull_4 (by decide) ?_
  refine lv_icmp_lt (tgt := 14) hx hb dX1_isFull_7 (by decide) (fun _ => ?_) (fun c9 => absurd (by decide) c9)
  refine lv_iconst (v := 0) hx hb dX1_isFull_14 (by decide) ?_
  exact W.zret (v := 0) hx hb hr rfl (fun t ht hW => ⟨_, rfl, rfl, ht⟩) (fun q h => absurd h List.not_mem_nil) dX1_isFull_15

def wo_c_lawsNow : List Cond := [.fieldLink RX11 10 "JudoHall" "book" "LJudoHall$Book;", .methodLink RX11 134 yX1_at, .instanceMethod yX1_at, .selects RX1 yX1_at yX1_at, .initialized RX1, .fieldLink RX11 81 "JudoHall" "noLaws" "LJudoHall$Laws;"]
def wq_c_lawsNow : List Cond := .code yX11_lawsNow cX11_lawsNow 2 (some (.object "JudoHall$Laws")) :: (wo_c_lawsNow ++ (wsX110 ++ (wq_c_Book_at ++ [])))
theorem gd_c_lawsNow : ∀ w ∈ wq_c_lawsNow, Gd w := List.forall_mem_cons.mpr ⟨Or.inl rfl, List.forall_mem_append.mpr ⟨gdl wo_c_lawsNow (by decide +kernel), (List.forall_mem_append.mpr ⟨gd_wsX110, (List.forall_mem_append.mpr ⟨gd_c_Book_at, (fun _ h => absurd h List.not_mem_nil)⟩)⟩)⟩⟩
theorem in_c_lawsNow : ∀ w ∈ wq_c_lawsNow, w ∈ lw_tbl := List.forall_mem_cons.mpr ⟨List.mem_of_getElem? (i := 965) (by decide +kernel), List.forall_mem_append.mpr ⟨inT wo_c_lawsNow [555, 866, 623, 624, 155, 564] (by decide +kernel), (List.forall_mem_append.mpr ⟨in_wsX110, (List.forall_mem_append.mpr ⟨in_c_Book_at, (fun _ h => absurd h List.not_mem_nil)⟩)⟩)⟩⟩
set_option maxHeartbeats 4000000 in
set_option maxRecDepth 100000 in
theorem c_lawsNow (l : Launch) (G : gG) (jh : Nat) (bk : Nat) (tp : Nat) (ps : Nat) (rl : Nat) (u1 : Value) (bd : Nat) (fr : Nat) (u2 : Value) (pn : Nat) (nl : Nat) (u3 : Value) (ca : Nat) (bc : Nat) (bb : Nat) (bs : Nat) (l1 : Value) (l2 : Value) (l3 : Value) : Met l yX11_lawsNow wq_c_lawsNow ({ frames := 1, cells := 0, slots := 0, locals := 21 }) (va_Pc [.ref jh] (pP G [(jh, .inr (12, [.ref bk, .ref tp, .ref ps, .ref rl, u1, .ref bd, .ref fr, u2, .ref pn, .ref nl, u3])), (bk, .inr (2, [.ref ca, .ref bc, .ref bb, .ref bs, .int 0, .int 0])), (ca, .inl (gI G, 2088, .inl bk0)), (nl, .inr (5, [.int 0, .int 0, .int 0, .int 0, .int 0, .int 0, l1, l2, l3]))])) (va_Sr (fun _ => True) (fun _ => .ref nl)) 0 0 (fun _ => False) := by
  refine Met.ofW (cc := cX11_lawsNow) (maxL := 2) (ret := (some (.object "JudoHall$Laws"))) (by decide) rfl ?_
  intro p e s m args below meth c s₁ B hml hv
  obtain ⟨rfl, hP, hB⟩ := hv
  have hx := B.exec
  have hb := B.bytes
  have hr := B.returns
  have hts := atoms_spec (ws := wq_c_lawsNow) B.pre
  have hown : s.vm.findClass RX11 = some m.cls := findClass_of_methodNamed B.named
  have hlocks := B.notSynchronized
  have hK := hB.1
  have hP : va_P (gD G) vwCl [(jh, .inr (12, [.ref bk, .ref tp, .ref ps, .ref rl, u1, .ref bd, .ref fr, u2, .ref pn, .ref nl, u3])), (bk, .inr (2, [.ref ca, .ref bc, .ref bb, .ref bs, .int 0, .int 0])), (ca, .inl (gI G, 2088, .inl bk0)), (nl, .inr (5, [.int 0, .int 0, .int 0, .int 0, .int 0, .int 0, l1, l2, l3]))] s.heap := hP
  have hl := lv_entry ([.ref jh]) (n := 2) (Nat.le_of_ble_eq_true rfl)
  rw [lg_entry_eq]
  generalize (lg_sl ([.ref jh]) ++ List.replicate (2 - (lg_sl ([.ref jh])).length) Slot.unset).toArray = ls at hl ⊢
  have hl : lv_has ls 2 [(0, .ref jh)] := hl
  refine lv_aload_n hx hb dX11_lawsNow_0 rfl (lv_at hl 0 rfl) ?_
  refine va_get (D := gD G) (ci := 12) (v := .ref bk) (C := RX11) (T := TX11) (N := 11) hx hb hts (fun _ h9 => (List.mem_cons_of_mem _ (List.mem_append_right _ (List.mem_append_left _ h9)))) hown hK hP 0 rfl rfl 0 (by decide) (hts (.fieldLink RX11 10 "JudoHall" "book" "LJudoHall$Book;") (List.mem_cons_of_mem _ (List.mem_append_left _ (List.mem_of_getElem? (i := 0) rfl)))) (fun _ h9 => h9) rfl dX11_lawsNow_1 ?_
  refine lv_iconst (v := 3) hx hb dX11_lawsNow_4 (by decide) ?_
  refine vp_callSi (va_Run.run (va_runV (As := [.int 3]) (rest := []) ⟨hx, hb, hml, hown, hts⟩ (c_Book_at l G bk ca 2088 bk0 (.ref bc) (.ref bb) (.ref bs) (.int 0) (.int 0) 3 (by decide)) (cwV 1 hts (gdV (List.mem_cons_of_mem _ (List.mem_append_left _ (List.mem_of_getElem? (i := 1) rfl))) (List.mem_cons_of_mem _ (List.mem_append_left _ (List.mem_of_getElem? (i := 2) rfl))) (List.mem_cons_of_mem _ (List.mem_append_left _ (List.mem_of_getElem? (i := 3) rfl))) (List.mem_cons_of_mem _ (List.mem_append_left _ (List.mem_of_getElem? (i := 4) rfl))) (fun w9 h9 => ⟨(List.mem_cons_of_mem _ (List.mem_append_right _ (List.mem_append_right _ (List.mem_append_left _ h9)))), gd_c_Book_at w9 h9⟩)) rfl rfl rfl kVX1_at ⟨Nat.le_of_ble_eq_true rfl, Nat.le_of_ble_eq_true rfl⟩) (preV_p (As := [.int 3]) (hP.sub (ws' := [(bk, .inr (2, [.ref ca, .ref bc, .ref bb, .ref bs, .int 0, .int 0])), (ca, .inl (gI G, 2088, .inl bk0))]) [1, 2] rfl) hB rfl rfl) rfl rfl hl.1 rfl (lv_room (Nat.le_of_ble_eq_true rfl)) dX11_lawsNow_5 ⟨Nat.le_of_ble_eq_true rfl, Nat.le_of_ble_eq_true rfl⟩)) (fun r_1 hr_1 => ?_)
  have hr_1 : r_1 = 0 := hr_1.trans (by decide +kernel)
  subst hr_1
  refine lv_iconst (v := 1) hx hb dX11_lawsNow_8 (by decide) ?_
  refine lv_isub hx hb dX11_lawsNow_9 ?_
  refine gx_ti (y := (-1)) (by decide) ?_
  refine lv_istore_n (lv' := [(1, .int (-1)), (0, .ref jh)]) hx hb dX11_lawsNow_10 rfl hl (by decide) rfl (fun ls hl => ?_)
  refine lv_iload_n hx hb dX11_lawsNow_11 rfl (lv_at hl 0 rfl) ?_
  refine lv_if_lt (tgt := 40) hx hb dX11_lawsNow_12 (by decide) (fun _ => ?_) (fun c9 => absurd (by decide) c9)
  refine lv_aload_n hx hb dX11_lawsNow_40 rfl (lv_at hl 1 rfl) ?_
  refine va_get (D := gD G) (ci := 12) (v := .ref nl) (C := RX11) (T := TX11) (N := 11) hx hb hts (fun _ h9 => (List.mem_cons_of_mem _ (List.mem_append_right _ (List.mem_append_left _ h9)))) hown hK hP 0 rfl rfl 9 (by decide) (hts (.fieldLink RX11 81 "JudoHall" "noLaws" "LJudoHall$Laws;") (List.mem_cons_of_mem _ (List.mem_append_left _ (List.mem_of_getElem? (i := 5) rfl)))) (fun _ h9 => h9) rfl dX11_lawsNow_41 ?_
  exact W.aret (v := .ref nl) hx hb hr (Or.inl ⟨_, rfl⟩) (Or.inr ⟨_, rfl⟩) (fun t ht hW => ⟨0, rfl, trivial, ht⟩) (fun q h => absurd h List.not_mem_nil) dX11_lawsNow_44
