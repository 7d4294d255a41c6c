theorem lc_lt {a b : Int64} : lg_cmp a b < 0 ↔ a < b := by
  unfold lg_cmp
  simp only [gt_iff_lt, Int64.lt_iff_toInt_lt, ← Int64.toInt_inj]
  repeat' split
  all_goals (constructor <;> intro hh <;> first | omega | decide | exact absurd hh (by decide))
theorem lc_gt {a b : Int64} : 0 < lg_cmp a b ↔ b < a := by
  unfold lg_cmp
  simp only [gt_iff_lt, Int64.lt_iff_toInt_lt, ← Int64.toInt_inj]
  repeat' split
  all_goals (constructor <;> intro hh <;> first | omega | decide | exact absurd hh (by decide))
theorem wd_lt {a b : Int32} : a.toInt64 < b.toInt64 ↔ a < b := by rw [Int64.lt_iff_toInt_lt, Int32.lt_iff_toInt_lt, Int32.toInt_toInt64, Int32.toInt_toInt64]
theorem in_lt {x k : Int32} {K : Int64} (hk : k.toInt64 = K) (h : x < k) : lg_cmp x.toInt64 K < 0 := by subst hk; exact lc_lt.mpr (wd_lt.mpr h)
theorem in_nlt {x k : Int32} {K : Int64} (hk : k.toInt64 = K) (h : ¬ x < k) : ¬ lg_cmp x.toInt64 K < 0 := by subst hk; exact fun z => h (wd_lt.mp (lc_lt.mp z))
theorem in_gt {x k : Int32} {K : Int64} (hk : k.toInt64 = K) (h : k < x) : 0 < lg_cmp x.toInt64 K := by subst hk; exact lc_gt.mpr (wd_lt.mpr h)
theorem in_ngt {x k : Int32} {K : Int64} (hk : k.toInt64 = K) (h : ¬ k < x) : ¬ 0 < lg_cmp x.toInt64 K := by subst hk; exact fun z => h (wd_lt.mp (lc_gt.mp z))
theorem le_lt {x a b : Int32} (hab : a < b) (h : b ≤ x) : a < x := by
  rw [Int32.lt_iff_toInt_lt] at *
  rw [Int32.le_iff_toInt_le] at h
  omega
theorem nle_nlt {x a b : Int32} (hab : b.toInt = a.toInt + 1) (h : ¬ b ≤ x) : ¬ a < x := by
  rw [Int32.lt_iff_toInt_lt]
  rw [Int32.le_iff_toInt_le] at h
  omega
theorem n0_m1 {x : Int32} (h : ¬ x < 0) : (-1 : Int32) < x := by
  rw [Int32.lt_iff_toInt_lt] at *
  have h1 : (0 : Int32).toInt = 0 := by decide
  have h2 : (-1 : Int32).toInt = -1 := by decide
  omega
theorem lt_tr {x y z : Int32} (h1 : ¬ x < y) (h2 : ¬ y < z) : ¬ x < z := by
  rw [Int32.lt_iff_toInt_lt] at *
  omega
theorem moDr_at (j : Nat) : moDr j = 0 := by
  unfold moDr upd
  repeat' split
  all_goals rfl
theorem moOn_at {x : Int32} (h0 : ¬ x < 0) (h1 : ¬ (4 : Int32) ≤ x) : moOn x.toNatClampNeg = -1 := by
  rcases gx_c4 h0 h1 with rfl | rfl | rfl | rfl <;> decide +kernel

def wo_c_in_0_3 : List Cond := []
def wq_c_in_0_3 : List Cond := .code yX13_in cX13_in 6 (some .boolean) :: (wo_c_in_0_3 ++ [])
theorem gd_c_in_0_3 : ∀ w ∈ wq_c_in_0_3, Gd w := List.forall_mem_cons.mpr ⟨Or.inl rfl, List.forall_mem_append.mpr ⟨gdl wo_c_in_0_3 (by decide +kernel), (fun _ h => absurd h List.not_mem_nil)⟩⟩
theorem in_c_in_0_3 : ∀ w ∈ wq_c_in_0_3, w ∈ lw_tbl := List.forall_mem_cons.mpr ⟨List.mem_of_getElem? (i := 2025) (by decide +kernel), List.forall_mem_append.mpr ⟨inT wo_c_in_0_3 [] (by decide +kernel), (fun _ h => absurd h List.not_mem_nil)⟩⟩
set_option maxHeartbeats 4000000 in
set_option maxRecDepth 100000 in
theorem c_in_0_3 (l : Launch) (G : gG) (x : Int32) : Met l yX13_in wq_c_in_0_3 ({ frames := 0, cells := 0, slots := 0, locals := 0 }) (va_Pc [.long x.toInt64, .long 0, .long 3] (pP G [])) (vp_Si (fun r : Int32 => r = if x < 0 ∨ 4 ≤ x then 0 else 1)) 0 0 (fun _ => False) := by
  refine Met.ofW (cc := cX13_in) (maxL := 6) (ret := (some .boolean)) (by decide) rfl ?_
  intro p e s m args below meth c s₁ B hml hv
  obtain ⟨rfl, hP, hB⟩ := hv
  have hx := B.exec
  have hb := B.bytes
  have hr := B.returns
  have hts := atoms_spec (ws := wq_c_in_0_3) B.pre
  have hown : s.vm.findClass RX13 = some m.cls := findClass_of_methodNamed B.named
  have hlocks := B.notSynchronized
  have hK := hB.1
  have hP : va_P (gD G) vwCl [] s.heap := hP
  have hl := lv_entry ([.long x.toInt64, .long 0, .long 3]) (n := 6) (Nat.le_of_ble_eq_true rfl)
  rw [lg_entry_eq]
  generalize (lg_sl ([.long x.toInt64, .long 0, .long 3]) ++ List.replicate (6 - (lg_sl ([.long x.toInt64, .long 0, .long 3])).length) Slot.unset).toArray = ls at hl ⊢
  have hl : lv_has ls 6 [(0, .long x.toInt64), (2, .long 0), (4, .long 3)] := hl
  refine lv_lload_n hx hb dX13_in_0 rfl (lv_at hl 0 rfl) ?_
  refine lv_lload_n hx hb dX13_in_1 rfl (lv_at hl 1 rfl) ?_
  refine W.lcmp hx hb dX13_in_2 ?_
  by_cases c_1 : x < 0
  · refine lv_if_lt (tgt := 17) hx hb dX13_in_3 (by decide) (fun _ => ?_) (fun c9 => absurd (in_lt (k := 0) (by decide) c_1) c9)
    refine lv_iconst (v := 0) hx hb dX13_in_17 (by decide) ?_
    exact W.zret (v := 0) hx hb hr rfl (fun t ht hW => ⟨_, rfl, by rw [if_pos (show x < 0 ∨ 4 ≤ x from (Or.inl c_1))], ht⟩) (fun q h => absurd h List.not_mem_nil) dX13_in_18
  · refine lv_if_lt (tgt := 17) hx hb dX13_in_3 (by decide) (fun c9 => absurd c9 (in_nlt (k := 0) (by decide) c_1)) (fun _ => ?_)
    refine lv_lload_n hx hb dX13_in_6 rfl (lv_at hl 0 rfl) ?_
    refine lv_lload hx hb dX13_in_7 (lv_at hl 2 rfl) ?_
    refine W.lcmp hx hb dX13_in_9 ?_
    by_cases c_2 : 4 ≤ x
    · refine lv_if_gt (tgt := 17) hx hb dX13_in_10 (by decide) (fun _ => ?_) (fun c9 => absurd (in_gt (k := 3) (by decide) (le_lt (by decide) c_2)) c9)
      refine lv_iconst (v := 0) hx hb dX13_in_17 (by decide) ?_
      exact W.zret (v := 0) hx hb hr rfl (fun t ht hW => ⟨_, rfl, by rw [if_pos (show x < 0 ∨ 4 ≤ x from (Or.inr c_2))], ht⟩) (fun q h => absurd h List.not_mem_nil) dX13_in_18
    · refine lv_if_gt (tgt := 17) hx hb dX13_in_10 (by decide) (fun c9 => absurd c9 (in_ngt (k := 3) (by decide) (nle_nlt (by decide) c_2))) (fun _ => ?_)
      refine lv_iconst (v := 1) hx hb dX13_in_13 (by decide) ?_
      refine lv_goto (tgt := 18) hx hb dX13_in_14 (by decide) ?_
      exact W.zret (v := 1) hx hb hr rfl (fun t ht hW => ⟨_, rfl, by rw [if_neg (show ¬ (x < 0 ∨ 4 ≤ x) from (not_or.mpr ⟨c_1, c_2⟩))], ht⟩) (fun q h => absurd h List.not_mem_nil) dX13_in_18

def wo_c_in_0_200000 : List Cond := []
def wq_c_in_0_200000 : List Cond := .code yX13_in cX13_in 6 (some .boolean) :: (wo_c_in_0_200000 ++ [])
theorem gd_c_in_0_200000 : ∀ w ∈ wq_c_in_0_200000, Gd w := List.forall_mem_cons.mpr ⟨Or.inl rfl, List.forall_mem_append.mpr ⟨gdl wo_c_in_0_200000 (by decide +kernel), (fun _ h => absurd h List.not_mem_nil)⟩⟩
theorem in_c_in_0_200000 : ∀ w ∈ wq_c_in_0_200000, w ∈ lw_tbl := List.forall_mem_cons.mpr ⟨List.mem_of_getElem? (i := 2025) (by decide +kernel), List.forall_mem_append.mpr ⟨inT wo_c_in_0_200000 [] (by decide +kernel), (fun _ h => absurd h List.not_mem_nil)⟩⟩
set_option maxHeartbeats 4000000 in
set_option maxRecDepth 100000 in
theorem c_in_0_200000 (l : Launch) (G : gG) (x : Int32) : Met l yX13_in wq_c_in_0_200000 ({ frames := 0, cells := 0, slots := 0, locals := 0 }) (va_Pc [.long x.toInt64, .long 0, .long 200000] (pP G [])) (vp_Si (fun r : Int32 => r = if x < 0 ∨ 200000 < x then 0 else 1)) 0 0 (fun _ => False) := by
  refine Met.ofW (cc := cX13_in) (maxL := 6) (ret := (some .boolean)) (by decide) rfl ?_
  intro p e s m args below meth c s₁ B hml hv
  obtain ⟨rfl, hP, hB⟩ := hv
  have hx := B.exec
  have hb := B.bytes
  have hr := B.returns
  have hts := atoms_spec (ws := wq_c_in_0_200000) B.pre
  have hown : s.vm.findClass RX13 = some m.cls := findClass_of_methodNamed B.named
  have hlocks := B.notSynchronized
  have hK := hB.1
  have hP : va_P (gD G) vwCl [] s.heap := hP
  have hl := lv_entry ([.long x.toInt64, .long 0, .long 200000]) (n := 6) (Nat.le_of_ble_eq_true rfl)
  rw [lg_entry_eq]
  generalize (lg_sl ([.long x.toInt64, .long 0, .long 200000]) ++ List.replicate (6 - (lg_sl ([.long x.toInt64, .long 0, .long 200000])).length) Slot.unset).toArray = ls at hl ⊢
  have hl : lv_has ls 6 [(0, .long x.toInt64), (2, .long 0), (4, .long 200000)] := hl
  refine lv_lload_n hx hb dX13_in_0 rfl (lv_at hl 0 rfl) ?_
  refine lv_lload_n hx hb dX13_in_1 rfl (lv_at hl 1 rfl) ?_
  refine W.lcmp hx hb dX13_in_2 ?_
  by_cases c_1 : x < 0
  · refine lv_if_lt (tgt := 17) hx hb dX13_in_3 (by decide) (fun _ => ?_) (fun c9 => absurd (in_lt (k := 0) (by decide) c_1) c9)
    refine lv_iconst (v := 0) hx hb dX13_in_17 (by decide) ?_
    exact W.zret (v := 0) hx hb hr rfl (fun t ht hW => ⟨_, rfl, by rw [if_pos (show x < 0 ∨ 200000 < x from (Or.inl c_1))], ht⟩) (fun q h => absurd h List.not_mem_nil) dX13_in_18
  · refine lv_if_lt (tgt := 17) hx hb dX13_in_3 (by decide) (fun c9 => absurd c9 (in_nlt (k := 0) (by decide) c_1)) (fun _ => ?_)
    refine lv_lload_n hx hb dX13_in_6 rfl (lv_at hl 0 rfl) ?_
    refine lv_lload hx hb dX13_in_7 (lv_at hl 2 rfl) ?_
    refine W.lcmp hx hb dX13_in_9 ?_
    by_cases c_2 : 200000 < x
    · refine lv_if_gt (tgt := 17) hx hb dX13_in_10 (by decide) (fun _ => ?_) (fun c9 => absurd (in_gt (k := 200000) (by decide) c_2) c9)
      refine lv_iconst (v := 0) hx hb dX13_in_17 (by decide) ?_
      exact W.zret (v := 0) hx hb hr rfl (fun t ht hW => ⟨_, rfl, by rw [if_pos (show x < 0 ∨ 200000 < x from (Or.inr c_2))], ht⟩) (fun q h => absurd h List.not_mem_nil) dX13_in_18
    · refine lv_if_gt (tgt := 17) hx hb dX13_in_10 (by decide) (fun c9 => absurd c9 (in_ngt (k := 200000) (by decide) c_2)) (fun _ => ?_)
      refine lv_iconst (v := 1) hx hb dX13_in_13 (by decide) ?_
      refine lv_goto (tgt := 18) hx hb dX13_in_14 (by decide) ?_
      exact W.zret (v := 1) hx hb hr rfl (fun t ht hW => ⟨_, rfl, by rw [if_neg (show ¬ (x < 0 ∨ 200000 < x) from (not_or.mpr ⟨c_1, c_2⟩))], ht⟩) (fun q h => absurd h List.not_mem_nil) dX13_in_18

def wo_c_in_0_15 : List Cond := []
def wq_c_in_0_15 : List Cond := .code yX13_in cX13_in 6 (some .boolean) :: (wo_c_in_0_15 ++ [])
theorem gd_c_in_0_15 : ∀ w ∈ wq_c_in_0_15, Gd w := List.forall_mem_cons.mpr ⟨Or.inl rfl, List.forall_mem_append.mpr ⟨gdl wo_c_in_0_15 (by decide +kernel), (fun _ h => absurd h List.not_mem_nil)⟩⟩
theorem in_c_in_0_15 : ∀ w ∈ wq_c_in_0_15, w ∈ lw_tbl := List.forall_mem_cons.mpr ⟨List.mem_of_getElem? (i := 2025) (by decide +kernel), List.forall_mem_append.mpr ⟨inT wo_c_in_0_15 [] (by decide +kernel), (fun _ h => absurd h List.not_mem_nil)⟩⟩
set_option maxHeartbeats 4000000 in
set_option maxRecDepth 100000 in
theorem c_in_0_15 (l : Launch) (G : gG) (x : Int32) : Met l yX13_in wq_c_in_0_15 ({ frames := 0, cells := 0, slots := 0, locals := 0 }) (va_Pc [.long x.toInt64, .long 0, .long 15] (pP G [])) (vp_Si (fun r : Int32 => r = if x < 0 ∨ 16 ≤ x then 0 else 1)) 0 0 (fun _ => False) := by
  refine Met.ofW (cc := cX13_in) (maxL := 6) (ret := (some .boolean)) (by decide) rfl ?_
  intro p e s m args below meth c s₁ B hml hv
  obtain ⟨rfl, hP, hB⟩ := hv
  have hx := B.exec
  have hb := B.bytes
  have hr := B.returns
  have hts := atoms_spec (ws := wq_c_in_0_15) B.pre
  have hown : s.vm.findClass RX13 = some m.cls := findClass_of_methodNamed B.named
  have hlocks := B.notSynchronized
  have hK := hB.1
  have hP : va_P (gD G) vwCl [] s.heap := hP
  have hl := lv_entry ([.long x.toInt64, .long 0, .long 15]) (n := 6) (Nat.le_of_ble_eq_true rfl)
  rw [lg_entry_eq]
  generalize (lg_sl ([.long x.toInt64, .long 0, .long 15]) ++ List.replicate (6 - (lg_sl ([.long x.toInt64, .long 0, .long 15])).length) Slot.unset).toArray = ls at hl ⊢
  have hl : lv_has ls 6 [(0, .long x.toInt64), (2, .long 0), (4, .long 15)] := hl
  refine lv_lload_n hx hb dX13_in_0 rfl (lv_at hl 0 rfl) ?_
  refine lv_lload_n hx hb dX13_in_1 rfl (lv_at hl 1 rfl) ?_
  refine W.lcmp hx hb dX13_in_2 ?_
  by_cases c_1 : x < 0
  · refine lv_if_lt (tgt := 17) hx hb dX13_in_3 (by decide) (fun _ => ?_) (fun c9 => absurd (in_lt (k := 0) (by decide) c_1) c9)
    refine lv_iconst (v := 0) hx hb dX13_in_17 (by decide) ?_
    exact W.zret (v := 0) hx hb hr rfl (fun t ht hW => ⟨_, rfl, by rw [if_pos (show x < 0 ∨ 16 ≤ x from (Or.inl c_1))], ht⟩) (fun q h => absurd h List.not_mem_nil) dX13_in_18
  · refine lv_if_lt (tgt := 17) hx hb dX13_in_3 (by decide) (fun c9 => absurd c9 (in_nlt (k := 0) (by decide) c_1)) (fun _ => ?_)
    refine lv_lload_n hx hb dX13_in_6 rfl (lv_at hl 0 rfl) ?_
    refine lv_lload hx hb dX13_in_7 (lv_at hl 2 rfl) ?_
    refine W.lcmp hx hb dX13_in_9 ?_
    by_cases c_2 : 16 ≤ x
    · refine lv_if_gt (tgt := 17) hx hb dX13_in_10 (by decide) (fun _ => ?_) (fun c9 => absurd (in_gt (k := 15) (by decide) (le_lt (by decide) c_2)) c9)
      refine lv_iconst (v := 0) hx hb dX13_in_17 (by decide) ?_
      exact W.zret (v := 0) hx hb hr rfl (fun t ht hW => ⟨_, rfl, by rw [if_pos (show x < 0 ∨ 16 ≤ x from (Or.inr c_2))], ht⟩) (fun q h => absurd h List.not_mem_nil) dX13_in_18
    · refine lv_if_gt (tgt := 17) hx hb dX13_in_10 (by decide) (fun c9 => absurd c9 (in_ngt (k := 15) (by decide) (nle_nlt (by decide) c_2))) (fun _ => ?_)
      refine lv_iconst (v := 1) hx hb dX13_in_13 (by decide) ?_
      refine lv_goto (tgt := 18) hx hb dX13_in_14 (by decide) ?_
      exact W.zret (v := 1) hx hb hr rfl (fun t ht hW => ⟨_, rfl, by rw [if_neg (show ¬ (x < 0 ∨ 16 ≤ x) from (not_or.mpr ⟨c_1, c_2⟩))], ht⟩) (fun q h => absurd h List.not_mem_nil) dX13_in_18

def wo_c_in_0_1440 : List Cond := []
def wq_c_in_0_1440 : List Cond := .code yX13_in cX13_in 6 (some .boolean) :: (wo_c_in_0_1440 ++ [])
theorem gd_c_in_0_1440 : ∀ w ∈ wq_c_in_0_1440, Gd w := List.forall_mem_cons.mpr ⟨Or.inl rfl, List.forall_mem_append.mpr ⟨gdl wo_c_in_0_1440 (by decide +kernel), (fun _ h => absurd h List.not_mem_nil)⟩⟩
theorem in_c_in_0_1440 : ∀ w ∈ wq_c_in_0_1440, w ∈ lw_tbl := List.forall_mem_cons.mpr ⟨List.mem_of_getElem? (i := 2025) (by decide +kernel), List.forall_mem_append.mpr ⟨inT wo_c_in_0_1440 [] (by decide +kernel), (fun _ h => absurd h List.not_mem_nil)⟩⟩
set_option maxHeartbeats 4000000 in
set_option maxRecDepth 100000 in
theorem c_in_0_1440 (l : Launch) (G : gG) (x : Int32) : Met l yX13_in wq_c_in_0_1440 ({ frames := 0, cells := 0, slots := 0, locals := 0 }) (va_Pc [.long x.toInt64, .long 0, .long 1440] (pP G [])) (vp_Si (fun r : Int32 => r = if x < 0 ∨ 1440 < x then 0 else 1)) 0 0 (fun _ => False) := by
  refine Met.ofW (cc := cX13_in) (maxL := 6) (ret := (some .boolean)) (by decide) rfl ?_
  intro p e s m args below meth c s₁ B hml hv
  obtain ⟨rfl, hP, hB⟩ := hv
  have hx := B.exec
  have hb := B.bytes
  have hr := B.returns
  have hts := atoms_spec (ws := wq_c_in_0_1440) B.pre
  have hown : s.vm.findClass RX13 = some m.cls := findClass_of_methodNamed B.named
  have hlocks := B.notSynchronized
  have hK := hB.1
  have hP : va_P (gD G) vwCl [] s.heap := hP
  have hl := lv_entry ([.long x.toInt64, .long 0, .long 1440]) (n := 6) (Nat.le_of_ble_eq_true rfl)
  rw [lg_entry_eq]
  generalize (lg_sl ([.long x.toInt64, .long 0, .long 1440]) ++ List.replicate (6 - (lg_sl ([.long x.toInt64, .long 0, .long 1440])).length) Slot.unset).toArray = ls at hl ⊢
  have hl : lv_has ls 6 [(0, .long x.toInt64), (2, .long 0), (4, .long 1440)] := hl
  refine lv_lload_n hx hb dX13_in_0 rfl (lv_at hl 0 rfl) ?_
  refine lv_lload_n hx hb dX13_in_1 rfl (lv_at hl 1 rfl) ?_
  refine W.lcmp hx hb dX13_in_2 ?_
  by_cases c_1 : x < 0
  · refine lv_if_lt (tgt := 17) hx hb dX13_in_3 (by decide) (fun _ => ?_) (fun c9 => absurd (in_lt (k := 0) (by decide) c_1) c9)
    refine lv_iconst (v := 0) hx hb dX13_in_17 (by decide) ?_
    exact W.zret (v := 0) hx hb hr rfl (fun t ht hW => ⟨_, rfl, by rw [if_pos (show x < 0 ∨ 1440 < x from (Or.inl c_1))], ht⟩) (fun q h => absurd h List.not_mem_nil) dX13_in_18
  · refine lv_if_lt (tgt := 17) hx hb dX13_in_3 (by decide) (fun c9 => absurd c9 (in_nlt (k := 0) (by decide) c_1)) (fun _ => ?_)
    refine lv_lload_n hx hb dX13_in_6 rfl (lv_at hl 0 rfl) ?_
    refine lv_lload hx hb dX13_in_7 (lv_at hl 2 rfl) ?_
    refine W.lcmp hx hb dX13_in_9 ?_
    by_cases c_2 : 1440 < x
    · refine lv_if_gt (tgt := 17) hx hb dX13_in_10 (by decide) (fun _ => ?_) (fun c9 => absurd (in_gt (k := 1440) (by decide) c_2) c9)
      refine lv_iconst (v := 0) hx hb dX13_in_17 (by decide) ?_
      exact W.zret (v := 0) hx hb hr rfl (fun t ht hW => ⟨_, rfl, by rw [if_pos (show x < 0 ∨ 1440 < x from (Or.inr c_2))], ht⟩) (fun q h => absurd h List.not_mem_nil) dX13_in_18
    · refine lv_if_gt (tgt := 17) hx hb dX13_in_10 (by decide) (fun c9 => absurd c9 (in_ngt (k := 1440) (by decide) c_2)) (fun _ => ?_)
      refine lv_iconst (v := 1) hx hb dX13_in_13 (by decide) ?_
      refine lv_goto (tgt := 18) hx hb dX13_in_14 (by decide) ?_
      exact W.zret (v := 1) hx hb hr rfl (fun t ht hW => ⟨_, rfl, by rw [if_neg (show ¬ (x < 0 ∨ 1440 < x) from (not_or.mpr ⟨c_1, c_2⟩))], ht⟩) (fun q h => absurd h List.not_mem_nil) dX13_in_18

def wo_c_in_0_120 : List Cond := []
def wq_c_in_0_120 : List Cond := .code yX13_in cX13_in 6 (some .boolean) :: (wo_c_in_0_120 ++ [])
theorem gd_c_in_0_120 : ∀ w ∈ wq_c_in_0_120, Gd w := List.forall_mem_cons.mpr ⟨Or.inl rfl, List.forall_mem_append.mpr ⟨gdl wo_c_in_0_120 (by decide +kernel), (fun _ h => absurd h List.not_mem_nil)⟩⟩
theorem in_c_in_0_120 : ∀ w ∈ wq_c_in_0_120, w ∈ lw_tbl := List.forall_mem_cons.mpr ⟨List.mem_of_getElem? (i := 2025) (by decide +kernel), List.forall_mem_append.mpr ⟨inT wo_c_in_0_120 [] (by decide +kernel), (fun _ h => absurd h List.not_mem_nil)⟩⟩
set_option maxHeartbeats 4000000 in
set_option maxRecDepth 100000 in
theorem c_in_0_120 (l : Launch) (G : gG) (x : Int32) : Met l yX13_in wq_c_in_0_120 ({ frames := 0, cells := 0, slots := 0, locals := 0 }) (va_Pc [.long x.toInt64, .long 0, .long 120] (pP G [])) (vp_Si (fun r : Int32 => r = if x < 0 ∨ 120 < x then 0 else 1)) 0 0 (fun _ => False) := by
  refine Met.ofW (cc := cX13_in) (maxL := 6) (ret := (some .boolean)) (by decide) rfl ?_
  intro p e s m args below meth c s₁ B hml hv
  obtain ⟨rfl, hP, hB⟩ := hv
  have hx := B.exec
  have hb := B.bytes
  have hr := B.returns
  have hts := atoms_spec (ws := wq_c_in_0_120) B.pre
  have hown : s.vm.findClass RX13 = some m.cls := findClass_of_methodNamed B.named
  have hlocks := B.notSynchronized
  have hK := hB.1
  have hP : va_P (gD G) vwCl [] s.heap := hP
  have hl := lv_entry ([.long x.toInt64, .long 0, .long 120]) (n := 6) (Nat.le_of_ble_eq_true rfl)
  rw [lg_entry_eq]
  generalize (lg_sl ([.long x.toInt64, .long 0, .long 120]) ++ List.replicate (6 - (lg_sl ([.long x.toInt64, .long 0, .long 120])).length) Slot.unset).toArray = ls at hl ⊢
  have hl : lv_has ls 6 [(0, .long x.toInt64), (2, .long 0), (4, .long 120)] := hl
  refine lv_lload_n hx hb dX13_in_0 rfl (lv_at hl 0 rfl) ?_
  refine lv_lload_n hx hb dX13_in_1 rfl (lv_at hl 1 rfl) ?_
  refine W.lcmp hx hb dX13_in_2 ?_
  by_cases c_1 : x < 0
  · refine lv_if_lt (tgt := 17) hx hb dX13_in_3 (by decide) (fun _ => ?_) (fun c9 => absurd (in_lt (k := 0) (by decide) c_1) c9)
    refine lv_iconst (v := 0) hx hb dX13_in_17 (by decide) ?_
    exact W.zret (v := 0) hx hb hr rfl (fun t ht hW => ⟨_, rfl, by rw [if_pos (show x < 0 ∨ 120 < x from (Or.inl c_1))], ht⟩) (fun q h => absurd h List.not_mem_nil) dX13_in_18
  · refine lv_if_lt (tgt := 17) hx hb dX13_in_3 (by decide) (fun c9 => absurd c9 (in_nlt (k := 0) (by decide) c_1)) (fun _ => ?_)
    refine lv_lload_n hx hb dX13_in_6 rfl (lv_at hl 0 rfl) ?_
    refine lv_lload hx hb dX13_in_7 (lv_at hl 2 rfl) ?_
    refine W.lcmp hx hb dX13_in_9 ?_
    by_cases c_2 : 120 < x
    · refine lv_if_gt (tgt := 17) hx hb dX13_in_10 (by decide) (fun _ => ?_) (fun c9 => absurd (in_gt (k := 120) (by decide) c_2) c9)
      refine lv_iconst (v := 0) hx hb dX13_in_17 (by decide) ?_
      exact W.zret (v := 0) hx hb hr rfl (fun t ht hW => ⟨_, rfl, by rw [if_pos (show x < 0 ∨ 120 < x from (Or.inr c_2))], ht⟩) (fun q h => absurd h List.not_mem_nil) dX13_in_18
    · refine lv_if_gt (tgt := 17) hx hb dX13_in_10 (by decide) (fun c9 => absurd c9 (in_ngt (k := 120) (by decide) c_2)) (fun _ => ?_)
      refine lv_iconst (v := 1) hx hb dX13_in_13 (by decide) ?_
      refine lv_goto (tgt := 18) hx hb dX13_in_14 (by decide) ?_
      exact W.zret (v := 1) hx hb hr rfl (fun t ht hW => ⟨_, rfl, by rw [if_neg (show ¬ (x < 0 ∨ 120 < x) from (not_or.mpr ⟨c_1, c_2⟩))], ht⟩) (fun q h => absurd h List.not_mem_nil) dX13_in_18

def wo_c_in_1_9999 : List Cond := []
def wq_c_in_1_9999 : List Cond := .code yX13_in cX13_in 6 (some .boolean) :: (wo_c_in_1_9999 ++ [])
theorem gd_c_in_1_9999 : ∀ w ∈ wq_c_in_1_9999, Gd w := List.forall_mem_cons.mpr ⟨Or.inl rfl, List.forall_mem_append.mpr ⟨gdl wo_c_in_1_9999 (by decide +kernel), (fun _ h => absurd h List.not_mem_nil)⟩⟩
theorem in_c_in_1_9999 : ∀ w ∈ wq_c_in_1_9999, w ∈ lw_tbl := List.forall_mem_cons.mpr ⟨List.mem_of_getElem? (i := 2025) (by decide +kernel), List.forall_mem_append.mpr ⟨inT wo_c_in_1_9999 [] (by decide +kernel), (fun _ h => absurd h List.not_mem_nil)⟩⟩
set_option maxHeartbeats 4000000 in
set_option maxRecDepth 100000 in
theorem c_in_1_9999 (l : Launch) (G : gG) (x : Int32) : Met l yX13_in wq_c_in_1_9999 ({ frames := 0, cells := 0, slots := 0, locals := 0 }) (va_Pc [.long x.toInt64, .long 1, .long 9999] (pP G [])) (vp_Si (fun r : Int32 => r = if x < 1 ∨ 9999 < x then 0 else 1)) 0 0 (fun _ => False) := by
  refine Met.ofW (cc := cX13_in) (maxL := 6) (ret := (some .boolean)) (by decide) rfl ?_
  intro p e s m args below meth c s₁ B hml hv
  obtain ⟨rfl, hP, hB⟩ := hv
  have hx := B.exec
  have hb := B.bytes
  have hr := B.returns
  have hts := atoms_spec (ws := wq_c_in_1_9999) B.pre
  have hown : s.vm.findClass RX13 = some m.cls := findClass_of_methodNamed B.named
  have hlocks := B.notSynchronized
  have hK := hB.1
  have hP : va_P (gD G) vwCl [] s.heap := hP
  have hl := lv_entry ([.long x.toInt64, .long 1, .long 9999]) (n := 6) (Nat.le_of_ble_eq_true rfl)
  rw [lg_entry_eq]
  generalize (lg_sl ([.long x.toInt64, .long 1, .long 9999]) ++ List.replicate (6 - (lg_sl ([.long x.toInt64, .long 1, .long 9999])).length) Slot.unset).toArray = ls at hl ⊢
  have hl : lv_has ls 6 [(0, .long x.toInt64), (2, .long 1), (4, .long 9999)] := hl
  refine lv_lload_n hx hb dX13_in_0 rfl (lv_at hl 0 rfl) ?_
  refine lv_lload_n hx hb dX13_in_1 rfl (lv_at hl 1 rfl) ?_
  refine W.lcmp hx hb dX13_in_2 ?_
  by_cases c_1 : x < 1
  · refine lv_if_lt (tgt := 17) hx hb dX13_in_3 (by decide) (fun _ => ?_) (fun c9 => absurd (in_lt (k := 1) (by decide) c_1) c9)
    refine lv_iconst (v := 0) hx hb dX13_in_17 (by decide) ?_
    exact W.zret (v := 0) hx hb hr rfl (fun t ht hW => ⟨_, rfl, by rw [if_pos (show x < 1 ∨ 9999 < x from (Or.inl c_1))], ht⟩) (fun q h => absurd h List.not_mem_nil) dX13_in_18
  · refine lv_if_lt (tgt := 17) hx hb dX13_in_3 (by decide) (fun c9 => absurd c9 (in_nlt (k := 1) (by decide) c_1)) (fun _ => ?_)
    refine lv_lload_n hx hb dX13_in_6 rfl (lv_at hl 0 rfl) ?_
    refine lv_lload hx hb dX13_in_7 (lv_at hl 2 rfl) ?_
    refine W.lcmp hx hb dX13_in_9 ?_
    by_cases c_2 : 9999 < x
    · refine lv_if_gt (tgt := 17) hx hb dX13_in_10 (by decide) (fun _ => ?_) (fun c9 => absurd (in_gt (k := 9999) (by decide) c_2) c9)
      refine lv_iconst (v := 0) hx hb dX13_in_17 (by decide) ?_
      exact W.zret (v := 0) hx hb hr rfl (fun t ht hW => ⟨_, rfl, by rw [if_pos (show x < 1 ∨ 9999 < x from (Or.inr c_2))], ht⟩) (fun q h => absurd h List.not_mem_nil) dX13_in_18
    · refine lv_if_gt (tgt := 17) hx hb dX13_in_10 (by decide) (fun c9 => absurd c9 (in_ngt (k := 9999) (by decide) c_2)) (fun _ => ?_)
      refine lv_iconst (v := 1) hx hb dX13_in_13 (by decide) ?_
      refine lv_goto (tgt := 18) hx hb dX13_in_14 (by decide) ?_
      exact W.zret (v := 1) hx hb hr rfl (fun t ht hW => ⟨_, rfl, by rw [if_neg (show ¬ (x < 1 ∨ 9999 < x) from (not_or.mpr ⟨c_1, c_2⟩))], ht⟩) (fun q h => absurd h List.not_mem_nil) dX13_in_18

def wo_c_in_1_4 : List Cond := []
def wq_c_in_1_4 : List Cond := .code yX13_in cX13_in 6 (some .boolean) :: (wo_c_in_1_4 ++ [])
theorem gd_c_in_1_4 : ∀ w ∈ wq_c_in_1_4, Gd w := List.forall_mem_cons.mpr ⟨Or.inl rfl, List.forall_mem_append.mpr ⟨gdl wo_c_in_1_4 (by decide +kernel), (fun _ h => absurd h List.not_mem_nil)⟩⟩
theorem in_c_in_1_4 : ∀ w ∈ wq_c_in_1_4, w ∈ lw_tbl := List.forall_mem_cons.mpr ⟨List.mem_of_getElem? (i := 2025) (by decide +kernel), List.forall_mem_append.mpr ⟨inT wo_c_in_1_4 [] (by decide +kernel), (fun _ h => absurd h List.not_mem_nil)⟩⟩
set_option maxHeartbeats 4000000 in
set_option maxRecDepth 100000 in
theorem c_in_1_4 (l : Launch) (G : gG) (x : Int32) : Met l yX13_in wq_c_in_1_4 ({ frames := 0, cells := 0, slots := 0, locals := 0 }) (va_Pc [.long x.toInt64, .long 1, .long 4] (pP G [])) (vp_Si (fun r : Int32 => r = if x < 1 ∨ 4 < x then 0 else 1)) 0 0 (fun _ => False) := by
  refine Met.ofW (cc := cX13_in) (maxL := 6) (ret := (some .boolean)) (by decide) rfl ?_
  intro p e s m args below meth c s₁ B hml hv
  obtain ⟨rfl, hP, hB⟩ := hv
  have hx := B.exec
  have hb := B.bytes
  have hr := B.returns
  have hts := atoms_spec (ws := wq_c_in_1_4) B.pre
  have hown : s.vm.findClass RX13 = some m.cls := findClass_of_methodNamed B.named
  have hlocks := B.notSynchronized
  have hK := hB.1
  have hP : va_P (gD G) vwCl [] s.heap := hP
  have hl := lv_entry ([.long x.toInt64, .long 1, .long 4]) (n := 6) (Nat.le_of_ble_eq_true rfl)
  rw [lg_entry_eq]
  generalize (lg_sl ([.long x.toInt64, .long 1, .long 4]) ++ List.replicate (6 - (lg_sl ([.long x.toInt64, .long 1, .long 4])).length) Slot.unset).toArray = ls at hl ⊢
  have hl : lv_has ls 6 [(0, .long x.toInt64), (2, .long 1), (4, .long 4)] := hl
  refine lv_lload_n hx hb dX13_in_0 rfl (lv_at hl 0 rfl) ?_
  refine lv_lload_n hx hb dX13_in_1 rfl (lv_at hl 1 rfl) ?_
  refine W.lcmp hx hb dX13_in_2 ?_
  by_cases c_1 : x < 1
  · refine lv_if_lt (tgt := 17) hx hb dX13_in_3 (by decide) (fun _ => ?_) (fun c9 => absurd (in_lt (k := 1) (by decide) c_1) c9)
    refine lv_iconst (v := 0) hx hb dX13_in_17 (by decide) ?_
    exact W.zret (v := 0) hx hb hr rfl (fun t ht hW => ⟨_, rfl, by rw [if_pos (show x < 1 ∨ 4 < x from (Or.inl c_1))], ht⟩) (fun q h => absurd h List.not_mem_nil) dX13_in_18
  · refine lv_if_lt (tgt := 17) hx hb dX13_in_3 (by decide) (fun c9 => absurd c9 (in_nlt (k := 1) (by decide) c_1)) (fun _ => ?_)
    refine lv_lload_n hx hb dX13_in_6 rfl (lv_at hl 0 rfl) ?_
    refine lv_lload hx hb dX13_in_7 (lv_at hl 2 rfl) ?_
    refine W.lcmp hx hb dX13_in_9 ?_
    by_cases c_2 : 4 < x
    · refine lv_if_gt (tgt := 17) hx hb dX13_in_10 (by decide) (fun _ => ?_) (fun c9 => absurd (in_gt (k := 4) (by decide) c_2) c9)
      refine lv_iconst (v := 0) hx hb dX13_in_17 (by decide) ?_
      exact W.zret (v := 0) hx hb hr rfl (fun t ht hW => ⟨_, rfl, by rw [if_pos (show x < 1 ∨ 4 < x from (Or.inr c_2))], ht⟩) (fun q h => absurd h List.not_mem_nil) dX13_in_18
    · refine lv_if_gt (tgt := 17) hx hb dX13_in_10 (by decide) (fun c9 => absurd c9 (in_ngt (k := 4) (by decide) c_2)) (fun _ => ?_)
      refine lv_iconst (v := 1) hx hb dX13_in_13 (by decide) ?_
      refine lv_goto (tgt := 18) hx hb dX13_in_14 (by decide) ?_
      exact W.zret (v := 1) hx hb hr rfl (fun t ht hW => ⟨_, rfl, by rw [if_neg (show ¬ (x < 1 ∨ 4 < x) from (not_or.mpr ⟨c_1, c_2⟩))], ht⟩) (fun q h => absurd h List.not_mem_nil) dX13_in_18

def wo_c_in_1_60 : List Cond := []
def wq_c_in_1_60 : List Cond := .code yX13_in cX13_in 6 (some .boolean) :: (wo_c_in_1_60 ++ [])
theorem gd_c_in_1_60 : ∀ w ∈ wq_c_in_1_60, Gd w := List.forall_mem_cons.mpr ⟨Or.inl rfl, List.forall_mem_append.mpr ⟨gdl wo_c_in_1_60 (by decide +kernel), (fun _ h => absurd h List.not_mem_nil)⟩⟩
theorem in_c_in_1_60 : ∀ w ∈ wq_c_in_1_60, w ∈ lw_tbl := List.forall_mem_cons.mpr ⟨List.mem_of_getElem? (i := 2025) (by decide +kernel), List.forall_mem_append.mpr ⟨inT wo_c_in_1_60 [] (by decide +kernel), (fun _ h => absurd h List.not_mem_nil)⟩⟩
set_option maxHeartbeats 4000000 in
set_option maxRecDepth 100000 in
theorem c_in_1_60 (l : Launch) (G : gG) (x : Int32) : Met l yX13_in wq_c_in_1_60 ({ frames := 0, cells := 0, slots := 0, locals := 0 }) (va_Pc [.long x.toInt64, .long 1, .long 60] (pP G [])) (vp_Si (fun r : Int32 => r = if x < 1 ∨ 60 < x then 0 else 1)) 0 0 (fun _ => False) := by
  refine Met.ofW (cc := cX13_in) (maxL := 6) (ret := (some .boolean)) (by decide) rfl ?_
  intro p e s m args below meth c s₁ B hml hv
  obtain ⟨rfl, hP, hB⟩ := hv
  have hx := B.exec
  have hb := B.bytes
  have hr := B.returns
  have hts := atoms_spec (ws := wq_c_in_1_60) B.pre
  have hown : s.vm.findClass RX13 = some m.cls := findClass_of_methodNamed B.named
  have hlocks := B.notSynchronized
  have hK := hB.1
  have hP : va_P (gD G) vwCl [] s.heap := hP
  have hl := lv_entry ([.long x.toInt64, .long 1, .long 60]) (n := 6) (Nat.le_of_ble_eq_true rfl)
  rw [lg_entry_eq]
  generalize (lg_sl ([.long x.toInt64, .long 1, .long 60]) ++ List.replicate (6 - (lg_sl ([.long x.toInt64, .long 1, .long 60])).length) Slot.unset).toArray = ls at hl ⊢
  have hl : lv_has ls 6 [(0, .long x.toInt64), (2, .long 1), (4, .long 60)] := hl
  refine lv_lload_n hx hb dX13_in_0 rfl (lv_at hl 0 rfl) ?_
  refine lv_lload_n hx hb dX13_in_1 rfl (lv_at hl 1 rfl) ?_
  refine W.lcmp hx hb dX13_in_2 ?_
  by_cases c_1 : x < 1
  · refine lv_if_lt (tgt := 17) hx hb dX13_in_3 (by decide) (fun _ => ?_) (fun c9 => absurd (in_lt (k := 1) (by decide) c_1) c9)
    refine lv_iconst (v := 0) hx hb dX13_in_17 (by decide) ?_
    exact W.zret (v := 0) hx hb hr rfl (fun t ht hW => ⟨_, rfl, by rw [if_pos (show x < 1 ∨ 60 < x from (Or.inl c_1))], ht⟩) (fun q h => absurd h List.not_mem_nil) dX13_in_18
  · refine lv_if_lt (tgt := 17) hx hb dX13_in_3 (by decide) (fun c9 => absurd c9 (in_nlt (k := 1) (by decide) c_1)) (fun _ => ?_)
    refine lv_lload_n hx hb dX13_in_6 rfl (lv_at hl 0 rfl) ?_
    refine lv_lload hx hb dX13_in_7 (lv_at hl 2 rfl) ?_
    refine W.lcmp hx hb dX13_in_9 ?_
    by_cases c_2 : 60 < x
    · refine lv_if_gt (tgt := 17) hx hb dX13_in_10 (by decide) (fun _ => ?_) (fun c9 => absurd (in_gt (k := 60) (by decide) c_2) c9)
      refine lv_iconst (v := 0) hx hb dX13_in_17 (by decide) ?_
      exact W.zret (v := 0) hx hb hr rfl (fun t ht hW => ⟨_, rfl, by rw [if_pos (show x < 1 ∨ 60 < x from (Or.inr c_2))], ht⟩) (fun q h => absurd h List.not_mem_nil) dX13_in_18
    · refine lv_if_gt (tgt := 17) hx hb dX13_in_10 (by decide) (fun c9 => absurd c9 (in_ngt (k := 60) (by decide) c_2)) (fun _ => ?_)
      refine lv_iconst (v := 1) hx hb dX13_in_13 (by decide) ?_
      refine lv_goto (tgt := 18) hx hb dX13_in_14 (by decide) ?_
      exact W.zret (v := 1) hx hb hr rfl (fun t ht hW => ⟨_, rfl, by rw [if_neg (show ¬ (x < 1 ∨ 60 < x) from (not_or.mpr ⟨c_1, c_2⟩))], ht⟩) (fun q h => absurd h List.not_mem_nil) dX13_in_18

def wo_c_in_y_200000 : List Cond := []
def wq_c_in_y_200000 : List Cond := .code yX13_in cX13_in 6 (some .boolean) :: (wo_c_in_y_200000 ++ [])
theorem gd_c_in_y_200000 : ∀ w ∈ wq_c_in_y_200000, Gd w := List.forall_mem_cons.mpr ⟨Or.inl rfl, List.forall_mem_append.mpr ⟨gdl wo_c_in_y_200000 (by decide +kernel), (fun _ h => absurd h List.not_mem_nil)⟩⟩
theorem in_c_in_y_200000 : ∀ w ∈ wq_c_in_y_200000, w ∈ lw_tbl := List.forall_mem_cons.mpr ⟨List.mem_of_getElem? (i := 2025) (by decide +kernel), List.forall_mem_append.mpr ⟨inT wo_c_in_y_200000 [] (by decide +kernel), (fun _ h => absurd h List.not_mem_nil)⟩⟩
set_option maxHeartbeats 4000000 in
set_option maxRecDepth 100000 in
theorem c_in_y_200000 (l : Launch) (G : gG) (x : Int32) (y : Int32) : Met l yX13_in wq_c_in_y_200000 ({ frames := 0, cells := 0, slots := 0, locals := 0 }) (va_Pc [.long x.toInt64, .long y.toInt64, .long 200000] (pP G [])) (vp_Si (fun r : Int32 => r = if x < y ∨ 200000 < x then 0 else 1)) 0 0 (fun _ => False) := by
  refine Met.ofW (cc := cX13_in) (maxL := 6) (ret := (some .boolean)) (by decide) rfl ?_
  intro p e s m args below meth c s₁ B hml hv
  obtain ⟨rfl, hP, hB⟩ := hv
  have hx := B.exec
  have hb := B.bytes
  have hr := B.returns
  have hts := atoms_spec (ws := wq_c_in_y_200000) B.pre
  have hown : s.vm.findClass RX13 = some m.cls := findClass_of_methodNamed B.named
  have hlocks := B.notSynchronized
  have hK := hB.1
  have hP : va_P (gD G) vwCl [] s.heap := hP
  have hl := lv_entry ([.long x.toInt64, .long y.toInt64, .long 200000]) (n := 6) (Nat.le_of_ble_eq_true rfl)
  rw [lg_entry_eq]
  generalize (lg_sl ([.long x.toInt64, .long y.toInt64, .long 200000]) ++ List.replicate (6 - (lg_sl ([.long x.toInt64, .long y.toInt64, .long 200000])).length) Slot.unset).toArray = ls at hl ⊢
  have hl : lv_has ls 6 [(0, .long x.toInt64), (2, .long y.toInt64), (4, .long 200000)] := hl
  refine lv_lload_n hx hb dX13_in_0 rfl (lv_at hl 0 rfl) ?_
  refine lv_lload_n hx hb dX13_in_1 rfl (lv_at hl 1 rfl) ?_
  refine W.lcmp hx hb dX13_in_2 ?_
  by_cases c_1 : x < y
  · refine lv_if_lt (tgt := 17) hx hb dX13_in_3 (by decide) (fun _ => ?_) (fun c9 => absurd (in_lt (k := y) rfl c_1) c9)
    refine lv_iconst (v := 0) hx hb dX13_in_17 (by decide) ?_
    exact W.zret (v := 0) hx hb hr rfl (fun t ht hW => ⟨_, rfl, by rw [if_pos (show x < y ∨ 200000 < x from (Or.inl c_1))], ht⟩) (fun q h => absurd h List.not_mem_nil) dX13_in_18
  · refine lv_if_lt (tgt := 17) hx hb dX13_in_3 (by decide) (fun c9 => absurd c9 (in_nlt (k := y) rfl c_1)) (fun _ => ?_)
    refine lv_lload_n hx hb dX13_in_6 rfl (lv_at hl 0 rfl) ?_
    refine lv_lload hx hb dX13_in_7 (lv_at hl 2 rfl) ?_
    refine W.lcmp hx hb dX13_in_9 ?_
    by_cases c_2 : 200000 < x
    · refine lv_if_gt (tgt := 17) hx hb dX13_in_10 (by decide) (fun _ => ?_) (fun c9 => absurd (in_gt (k := 200000) (by decide) c_2) c9)
      refine lv_iconst (v := 0) hx hb dX13_in_17 (by decide) ?_
      exact W.zret (v := 0) hx hb hr rfl (fun t ht hW => ⟨_, rfl, by rw [if_pos (show x < y ∨ 200000 < x from (Or.inr c_2))], ht⟩) (fun q h => absurd h List.not_mem_nil) dX13_in_18
    · refine lv_if_gt (tgt := 17) hx hb dX13_in_10 (by decide) (fun c9 => absurd c9 (in_ngt (k := 200000) (by decide) c_2)) (fun _ => ?_)
      refine lv_iconst (v := 1) hx hb dX13_in_13 (by decide) ?_
      refine lv_goto (tgt := 18) hx hb dX13_in_14 (by decide) ?_
      exact W.zret (v := 1) hx hb hr rfl (fun t ht hW => ⟨_, rfl, by rw [if_neg (show ¬ (x < y ∨ 200000 < x) from (not_or.mpr ⟨c_1, c_2⟩))], ht⟩) (fun q h => absurd h List.not_mem_nil) dX13_in_18

def wo_c_in_0_m1 : List Cond := []
def wq_c_in_0_m1 : List Cond := .code yX13_in cX13_in 6 (some .boolean) :: (wo_c_in_0_m1 ++ [])
theorem gd_c_in_0_m1 : ∀ w ∈ wq_c_in_0_m1, Gd w := List.forall_mem_cons.mpr ⟨Or.inl rfl, List.forall_mem_append.mpr ⟨gdl wo_c_in_0_m1 (by decide +kernel), (fun _ h => absurd h List.not_mem_nil)⟩⟩
theorem in_c_in_0_m1 : ∀ w ∈ wq_c_in_0_m1, w ∈ lw_tbl := List.forall_mem_cons.mpr ⟨List.mem_of_getElem? (i := 2025) (by decide +kernel), List.forall_mem_append.mpr ⟨inT wo_c_in_0_m1 [] (by decide +kernel), (fun _ h => absurd h List.not_mem_nil)⟩⟩
set_option maxHeartbeats 4000000 in
set_option maxRecDepth 100000 in
theorem c_in_0_m1 (l : Launch) (G : gG) (x : Int32) : Met l yX13_in wq_c_in_0_m1 ({ frames := 0, cells := 0, slots := 0, locals := 0 }) (va_Pc [.long x.toInt64, .long 0, .long (-1)] (pP G [])) (vp_Si (fun r : Int32 => r = 0)) 0 0 (fun _ => False) := by
  refine Met.ofW (cc := cX13_in) (maxL := 6) (ret := (some .boolean)) (by decide) rfl ?_
  intro p e s m args below meth c s₁ B hml hv
  obtain ⟨rfl, hP, hB⟩ := hv
  have hx := B.exec
  have hb := B.bytes
  have hr := B.returns
  have hts := atoms_spec (ws := wq_c_in_0_m1) B.pre
  have hown : s.vm.findClass RX13 = some m.cls := findClass_of_methodNamed B.named
  have hlocks := B.notSynchronized
  have hK := hB.1
  have hP : va_P (gD G) vwCl [] s.heap := hP
  have hl := lv_entry ([.long x.toInt64, .long 0, .long (-1)]) (n := 6) (Nat.le_of_ble_eq_true rfl)
  rw [lg_entry_eq]
  generalize (lg_sl ([.long x.toInt64, .long 0, .long (-1)]) ++ List.replicate (6 - (lg_sl ([.long x.toInt64, .long 0, .long (-1)])).length) Slot.unset).toArray = ls at hl ⊢
  have hl : lv_has ls 6 [(0, .long x.toInt64), (2, .long 0), (4, .long (-1))] := hl
  refine lv_lload_n hx hb dX13_in_0 rfl (lv_at hl 0 rfl) ?_
  refine lv_lload_n hx hb dX13_in_1 rfl (lv_at hl 1 rfl) ?_
  refine W.lcmp hx hb dX13_in_2 ?_
  by_cases c_1 : x < 0
  · refine lv_if_lt (tgt := 17) hx hb dX13_in_3 (by decide) (fun _ => ?_) (fun c9 => absurd (in_lt (k := 0) (by decide) c_1) c9)
    refine lv_iconst (v := 0) hx hb dX13_in_17 (by decide) ?_
    exact W.zret (v := 0) hx hb hr rfl (fun t ht hW => ⟨_, rfl, rfl, ht⟩) (fun q h => absurd h List.not_mem_nil) dX13_in_18
  · refine lv_if_lt (tgt := 17) hx hb dX13_in_3 (by decide) (fun c9 => absurd c9 (in_nlt (k := 0) (by decide) c_1)) (fun _ => ?_)
    refine lv_lload_n hx hb dX13_in_6 rfl (lv_at hl 0 rfl) ?_
    refine lv_lload hx hb dX13_in_7 (lv_at hl 2 rfl) ?_
    refine W.lcmp hx hb dX13_in_9 ?_
    refine lv_if_gt (tgt := 17) hx hb dX13_in_10 (by decide) (fun _ => ?_) (fun c9 => absurd (in_gt (k := -1) (by decide) (n0_m1 c_1)) c9)
    refine lv_iconst (v := 0) hx hb dX13_in_17 (by decide) ?_
    exact W.zret (v := 0) hx hb hr rfl (fun t ht hW => ⟨_, rfl, rfl, ht⟩) (fun q h => absurd h List.not_mem_nil) dX13_in_18

def wo_c_in_100_99 : List Cond := []
def wq_c_in_100_99 : List Cond := .code yX13_in cX13_in 6 (some .boolean) :: (wo_c_in_100_99 ++ [])
theorem gd_c_in_100_99 : ∀ w ∈ wq_c_in_100_99, Gd w := List.forall_mem_cons.mpr ⟨Or.inl rfl, List.forall_mem_append.mpr ⟨gdl wo_c_in_100_99 (by decide +kernel), (fun _ h => absurd h List.not_mem_nil)⟩⟩
theorem in_c_in_100_99 : ∀ w ∈ wq_c_in_100_99, w ∈ lw_tbl := List.forall_mem_cons.mpr ⟨List.mem_of_getElem? (i := 2025) (by decide +kernel), List.forall_mem_append.mpr ⟨inT wo_c_in_100_99 [] (by decide +kernel), (fun _ h => absurd h List.not_mem_nil)⟩⟩
set_option maxHeartbeats 4000000 in
set_option maxRecDepth 100000 in
theorem c_in_100_99 (l : Launch) (G : gG) (x : Int32) : Met l yX13_in wq_c_in_100_99 ({ frames := 0, cells := 0, slots := 0, locals := 0 }) (va_Pc [.long x.toInt64, .long 100, .long 99] (pP G [])) (vp_Si (fun r : Int32 => r = 0)) 0 0 (fun _ => False) := by
  refine Met.ofW (cc := cX13_in) (maxL := 6) (ret := (some .boolean)) (by decide) rfl ?_
  intro p e s m args below meth c s₁ B hml hv
  obtain ⟨rfl, hP, hB⟩ := hv
  have hx := B.exec
  have hb := B.bytes
  have hr := B.returns
  have hts := atoms_spec (ws := wq_c_in_100_99) B.pre
  have hown : s.vm.findClass RX13 = some m.cls := findClass_of_methodNamed B.named
  have hlocks := B.notSynchronized
  have hK := hB.1
  have hP : va_P (gD G) vwCl [] s.heap := hP
  have hl := lv_entry ([.long x.toInt64, .long 100, .long 99]) (n := 6) (Nat.le_of_ble_eq_true rfl)
  rw [lg_entry_eq]
  generalize (lg_sl ([.long x.toInt64, .long 100, .long 99]) ++ List.replicate (6 - (lg_sl ([.long x.toInt64, .long 100, .long 99])).length) Slot.unset).toArray = ls at hl ⊢
  have hl : lv_has ls 6 [(0, .long x.toInt64), (2, .long 100), (4, .long 99)] := hl
  refine lv_lload_n hx hb dX13_in_0 rfl (lv_at hl 0 rfl) ?_
  refine lv_lload_n hx hb dX13_in_1 rfl (lv_at hl 1 rfl) ?_
  refine W.lcmp hx hb dX13_in_2 ?_
  by_cases c_1 : x < 100
  · refine lv_if_lt (tgt := 17) hx hb dX13_in_3 (by decide) (fun _ => ?_) (fun c9 => absurd (in_lt (k := 100) (by decide) c_1) c9)
    refine lv_iconst (v := 0) hx hb dX13_in_17 (by decide) ?_
    exact W.zret (v := 0) hx hb hr rfl (fun t ht hW => ⟨_, rfl, rfl, ht⟩) (fun q h => absurd h List.not_mem_nil) dX13_in_18
  · refine lv_if_lt (tgt := 17) hx hb dX13_in_3 (by decide) (fun c9 => absurd c9 (in_nlt (k := 100) (by decide) c_1)) (fun _ => ?_)
    refine lv_lload_n hx hb dX13_in_6 rfl (lv_at hl 0 rfl) ?_
    refine lv_lload hx hb dX13_in_7 (lv_at hl 2 rfl) ?_
    refine W.lcmp hx hb dX13_in_9 ?_
    refine lv_if_gt (tgt := 17) hx hb dX13_in_10 (by decide) (fun _ => ?_) (fun c9 => absurd (in_gt (k := 99) (by decide) (le_lt (b := 100) (by decide) (Int32.not_lt.mp c_1))) c9)
    refine lv_iconst (v := 0) hx hb dX13_in_17 (by decide) ?_
    exact W.zret (v := 0) hx hb hr rfl (fun t ht hW => ⟨_, rfl, rfl, ht⟩) (fun q h => absurd h List.not_mem_nil) dX13_in_18

theorem v2 {x : Int32} (h0 : ¬ x < 0) (h1 : ¬ (2 : Int32) ≤ x) : x = 0 ∨ x = 1 := by
  obtain ⟨j, hj, rfl⟩ := nI_of h0
  have h2 : j < 2 := Nat.not_le.mp (fun h => h1 (nI_le h hj))
  rcases (show j = 0 ∨ j = 1 by omega) with rfl | rfl <;> decide
theorem nv2a {x : Int32} (h : x < 0) : ¬ (x = 0 ∨ x = 1) := by
  rintro (rfl | rfl) <;> exact absurd h (by decide)
theorem nv2b {x : Int32} (h : (2 : Int32) ≤ x) : ¬ (x = 0 ∨ x = 1) := by
  rintro (rfl | rfl) <;> exact absurd h (by decide)
theorem v1 {x : Int32} (h0 : ¬ x < 0) (h1 : ¬ (1 : Int32) ≤ x) : x = 0 := by
  obtain ⟨j, hj, rfl⟩ := nI_of h0
  have h2 : j < 1 := Nat.not_le.mp (fun h => h1 (nI_le h hj))
  rcases (show j = 0 by omega) with rfl
  rfl
theorem nv1a {x : Int32} (h : x < 0) : ¬ x = 0 := by rintro rfl; exact absurd h (by decide)
theorem nv1b {x : Int32} (h : (1 : Int32) ≤ x) : ¬ x = 0 := by rintro rfl; exact absurd h (by decide)

def wo_c_in_0_1 : List Cond := []
def wq_c_in_0_1 : List Cond := .code yX13_in cX13_in 6 (some .boolean) :: (wo_c_in_0_1 ++ [])
theorem gd_c_in_0_1 : ∀ w ∈ wq_c_in_0_1, Gd w := List.forall_mem_cons.mpr ⟨Or.inl rfl, List.forall_mem_append.mpr ⟨gdl wo_c_in_0_1 (by decide +kernel), (fun _ h => absurd h List.not_mem_nil)⟩⟩
theorem in_c_in_0_1 : ∀ w ∈ wq_c_in_0_1, w ∈ lw_tbl := List.forall_mem_cons.mpr ⟨List.mem_of_getElem? (i := 2025) (by decide +kernel), List.forall_mem_append.mpr ⟨inT wo_c_in_0_1 [] (by decide +kernel), (fun _ h => absurd h List.not_mem_nil)⟩⟩
set_option maxHeartbeats 4000000 in
set_option maxRecDepth 100000 in
theorem c_in_0_1 (l : Launch) (G : gG) (x : Int32) : Met l yX13_in wq_c_in_0_1 ({ frames := 0, cells := 0, slots := 0, locals := 0 }) (va_Pc [.long x.toInt64, .long 0, .long 1] (pP G [])) (vp_Si (fun r : Int32 => r = if x = 0 ∨ x = 1 then 1 else 0)) 0 0 (fun _ => False) := by
  refine Met.ofW (cc := cX13_in) (maxL := 6) (ret := (some .boolean)) (by decide) rfl ?_
  intro p e s m args below meth c s₁ B hml hv
  obtain ⟨rfl, hP, hB⟩ := hv
  have hx := B.exec
  have hb := B.bytes
  have hr := B.returns
  have hts := atoms_spec (ws := wq_c_in_0_1) B.pre
  have hown : s.vm.findClass RX13 = some m.cls := findClass_of_methodNamed B.named
  have hlocks := B.notSynchronized
  have hK := hB.1
  have hP : va_P (gD G) vwCl [] s.heap := hP
  have hl := lv_entry ([.long x.toInt64, .long 0, .long 1]) (n := 6) (Nat.le_of_ble_eq_true rfl)
  rw [lg_entry_eq]
  generalize (lg_sl ([.long x.toInt64, .long 0, .long 1]) ++ List.replicate (6 - (lg_sl ([.long x.toInt64, .long 0, .long 1])).length) Slot.unset).toArray = ls at hl ⊢
  have hl : lv_has ls 6 [(0, .long x.toInt64), (2, .long 0), (4, .long 1)] := hl
  refine lv_lload_n hx hb dX13_in_0 rfl (lv_at hl 0 rfl) ?_
  refine lv_lload_n hx hb dX13_in_1 rfl (lv_at hl 1 rfl) ?_
  refine W.lcmp hx hb dX13_in_2 ?_
  by_cases c_1 : x < 0
  · refine lv_if_lt (tgt := 17) hx hb dX13_in_3 (by decide) (fun _ => ?_) (fun c9 => absurd (in_lt (k := 0) (by decide) c_1) c9)
    refine lv_iconst (v := 0) hx hb dX13_in_17 (by decide) ?_
    exact W.zret (v := 0) hx hb hr rfl (fun t ht hW => ⟨_, rfl, by rw [if_neg (nv2a c_1)], ht⟩) (fun q h => absurd h List.not_mem_nil) dX13_in_18
  · refine lv_if_lt (tgt := 17) hx hb dX13_in_3 (by decide) (fun c9 => absurd c9 (in_nlt (k := 0) (by decide) c_1)) (fun _ => ?_)
    refine lv_lload_n hx hb dX13_in_6 rfl (lv_at hl 0 rfl) ?_
    refine lv_lload hx hb dX13_in_7 (lv_at hl 2 rfl) ?_
    refine W.lcmp hx hb dX13_in_9 ?_
    by_cases c_2 : 2 ≤ x
    · refine lv_if_gt (tgt := 17) hx hb dX13_in_10 (by decide) (fun _ => ?_) (fun c9 => absurd (in_gt (k := 1) (by decide) (le_lt (by decide) c_2)) c9)
      refine lv_iconst (v := 0) hx hb dX13_in_17 (by decide) ?_
      exact W.zret (v := 0) hx hb hr rfl (fun t ht hW => ⟨_, rfl, by rw [if_neg (nv2b c_2)], ht⟩) (fun q h => absurd h List.not_mem_nil) dX13_in_18
    · refine lv_if_gt (tgt := 17) hx hb dX13_in_10 (by decide) (fun c9 => absurd c9 (in_ngt (k := 1) (by decide) (nle_nlt (by decide) c_2))) (fun _ => ?_)
      refine lv_iconst (v := 1) hx hb dX13_in_13 (by decide) ?_
      refine lv_goto (tgt := 18) hx hb dX13_in_14 (by decide) ?_
      exact W.zret (v := 1) hx hb hr rfl (fun t ht hW => ⟨_, rfl, by rw [if_pos (v2 c_1 c_2)], ht⟩) (fun q h => absurd h List.not_mem_nil) dX13_in_18

def wo_c_in_0_0 : List Cond := []
def wq_c_in_0_0 : List Cond := .code yX13_in cX13_in 6 (some .boolean) :: (wo_c_in_0_0 ++ [])
theorem gd_c_in_0_0 : ∀ w ∈ wq_c_in_0_0, Gd w := List.forall_mem_cons.mpr ⟨Or.inl rfl, List.forall_mem_append.mpr ⟨gdl wo_c_in_0_0 (by decide +kernel), (fun _ h => absurd h List.not_mem_nil)⟩⟩
theorem in_c_in_0_0 : ∀ w ∈ wq_c_in_0_0, w ∈ lw_tbl := List.forall_mem_cons.mpr ⟨List.mem_of_getElem? (i := 2025) (by decide +kernel), List.forall_mem_append.mpr ⟨inT wo_c_in_0_0 [] (by decide +kernel), (fun _ h => absurd h List.not_mem_nil)⟩⟩
set_option maxHeartbeats 4000000 in
set_option maxRecDepth 100000 in
theorem c_in_0_0 (l : Launch) (G : gG) (x : Int32) : Met l yX13_in wq_c_in_0_0 ({ frames := 0, cells := 0, slots := 0, locals := 0 }) (va_Pc [.long x.toInt64, .long 0, .long 0] (pP G [])) (vp_Si (fun r : Int32 => r = if x = 0 then 1 else 0)) 0 0 (fun _ => False) := by
  refine Met.ofW (cc := cX13_in) (maxL := 6) (ret := (some .boolean)) (by decide) rfl ?_
  intro p e s m args below meth c s₁ B hml hv
  obtain ⟨rfl, hP, hB⟩ := hv
  have hx := B.exec
  have hb := B.bytes
  have hr := B.returns
  have hts := atoms_spec (ws := wq_c_in_0_0) B.pre
  have hown : s.vm.findClass RX13 = some m.cls := findClass_of_methodNamed B.named
  have hlocks := B.notSynchronized
  have hK := hB.1
  have hP : va_P (gD G) vwCl [] s.heap := hP
  have hl := lv_entry ([.long x.toInt64, .long 0, .long 0]) (n := 6) (Nat.le_of_ble_eq_true rfl)
  rw [lg_entry_eq]
  generalize (lg_sl ([.long x.toInt64, .long 0, .long 0]) ++ List.replicate (6 - (lg_sl ([.long x.toInt64, .long 0, .long 0])).length) Slot.unset).toArray = ls at hl ⊢
  have hl : lv_has ls 6 [(0, .long x.toInt64), (2, .long 0), (4, .long 0)] := hl
  refine lv_lload_n hx hb dX13_in_0 rfl (lv_at hl 0 rfl) ?_
  refine lv_lload_n hx hb dX13_in_1 rfl (lv_at hl 1 rfl) ?_
  refine W.lcmp hx hb dX13_in_2 ?_
  by_cases c_1 : x < 0
  · refine lv_if_lt (tgt := 17) hx hb dX13_in_3 (by decide) (fun _ => ?_) (fun c9 => absurd (in_lt (k := 0) (by decide) c_1) c9)
    refine lv_iconst (v := 0) hx hb dX13_in_17 (by decide) ?_
    exact W.zret (v := 0) hx hb hr rfl (fun t ht hW => ⟨_, rfl, by rw [if_neg (nv1a c_1)], ht⟩) (fun q h => absurd h List.not_mem_nil) dX13_in_18
  · refine lv_if_lt (tgt := 17) hx hb dX13_in_3 (by decide) (fun c9 => absurd c9 (in_nlt (k := 0) (by decide) c_1)) (fun _ => ?_)
    refine lv_lload_n hx hb dX13_in_6 rfl (lv_at hl 0 rfl) ?_
    refine lv_lload hx hb dX13_in_7 (lv_at hl 2 rfl) ?_
    refine W.lcmp hx hb dX13_in_9 ?_
    by_cases c_2 : 1 ≤ x
    · refine lv_if_gt (tgt := 17) hx hb dX13_in_10 (by decide) (fun _ => ?_) (fun c9 => absurd (in_gt (k := 0) (by decide) (le_lt (by decide) c_2)) c9)
      refine lv_iconst (v := 0) hx hb dX13_in_17 (by decide) ?_
      exact W.zret (v := 0) hx hb hr rfl (fun t ht hW => ⟨_, rfl, by rw [if_neg (nv1b c_2)], ht⟩) (fun q h => absurd h List.not_mem_nil) dX13_in_18
    · refine lv_if_gt (tgt := 17) hx hb dX13_in_10 (by decide) (fun c9 => absurd c9 (in_ngt (k := 0) (by decide) (nle_nlt (by decide) c_2))) (fun _ => ?_)
      refine lv_iconst (v := 1) hx hb dX13_in_13 (by decide) ?_
      refine lv_goto (tgt := 18) hx hb dX13_in_14 (by decide) ?_
      exact W.zret (v := 1) hx hb hr rfl (fun t ht hW => ⟨_, rfl, by rw [if_pos (v1 c_1 c_2)], ht⟩) (fun q h => absurd h List.not_mem_nil) dX13_in_18

def wo_c_in_0_2_32 : List Cond := []
def wq_c_in_0_2_32 : List Cond := .code yX13_in cX13_in 6 (some .boolean) :: (wo_c_in_0_2_32 ++ [])
theorem gd_c_in_0_2_32 : ∀ w ∈ wq_c_in_0_2_32, Gd w := List.forall_mem_cons.mpr ⟨Or.inl rfl, List.forall_mem_append.mpr ⟨gdl wo_c_in_0_2_32 (by decide +kernel), (fun _ h => absurd h List.not_mem_nil)⟩⟩
theorem in_c_in_0_2_32 : ∀ w ∈ wq_c_in_0_2_32, w ∈ lw_tbl := List.forall_mem_cons.mpr ⟨List.mem_of_getElem? (i := 2025) (by decide +kernel), List.forall_mem_append.mpr ⟨inT wo_c_in_0_2_32 [] (by decide +kernel), (fun _ h => absurd h List.not_mem_nil)⟩⟩
set_option maxHeartbeats 4000000 in
set_option maxRecDepth 100000 in
theorem c_in_0_2_32 (l : Launch) (G : gG) : Met l yX13_in wq_c_in_0_2_32 ({ frames := 0, cells := 0, slots := 0, locals := 0 }) (va_Pc [.long 0, .long 2, .long 32] (pP G [])) (vp_Si (fun r : Int32 => r = 0)) 0 0 (fun _ => False) := by
  refine Met.ofW (cc := cX13_in) (maxL := 6) (ret := (some .boolean)) (by decide) rfl ?_
  intro p e s m args below meth c s₁ B hml hv
  obtain ⟨rfl, hP, hB⟩ := hv
  have hx := B.exec
  have hb := B.bytes
  have hr := B.returns
  have hts := atoms_spec (ws := wq_c_in_0_2_32) B.pre
  have hown : s.vm.findClass RX13 = some m.cls := findClass_of_methodNamed B.named
  have hlocks := B.notSynchronized
  have hK := hB.1
  have hP : va_P (gD G) vwCl [] s.heap := hP
  have hl := lv_entry ([.long 0, .long 2, .long 32]) (n := 6) (Nat.le_of_ble_eq_true rfl)
  rw [lg_entry_eq]
  generalize (lg_sl ([.long 0, .long 2, .long 32]) ++ List.replicate (6 - (lg_sl ([.long 0, .long 2, .long 32])).length) Slot.unset).toArray = ls at hl ⊢
  have hl : lv_has ls 6 [(0, .long 0), (2, .long 2), (4, .long 32)] := hl
  refine lv_lload_n hx hb dX13_in_0 rfl (lv_at hl 0 rfl) ?_
  refine lv_lload_n hx hb dX13_in_1 rfl (lv_at hl 1 rfl) ?_
  refine W.lcmp hx hb dX13_in_2 ?_
  refine gx_ti (y := (-1)) (by decide) ?_
  refine lv_if_lt (tgt := 17) hx hb dX13_in_3 (by decide) (fun _ => ?_) (fun c9 => absurd (by decide) c9)
  refine lv_iconst (v := 0) hx hb dX13_in_17 (by decide) ?_
  exact W.zret (v := 0) hx hb hr rfl (fun t ht hW => ⟨_, rfl, rfl, ht⟩) (fun q h => absurd h List.not_mem_nil) dX13_in_18

def wo_c_m_isClass : List Cond := [.constantLong RX13 201 (3), .methodLink RX13 203 yX13_in, .static yX13_in, .initialized RX13]
def wq_c_m_isClass : List Cond := .code yX13_isClass cX13_isClass 1 (some .boolean) :: (wo_c_m_isClass ++ (wq_c_in_0_3 ++ []))
theorem gd_c_m_isClass : ∀ w ∈ wq_c_m_isClass, Gd w := List.forall_mem_cons.mpr ⟨Or.inl rfl, List.forall_mem_append.mpr ⟨gdl wo_c_m_isClass (by decide +kernel), (List.forall_mem_append.mpr ⟨gd_c_in_0_3, (fun _ h => absurd h List.not_mem_nil)⟩)⟩⟩
theorem in_c_m_isClass : ∀ w ∈ wq_c_m_isClass, w ∈ lw_tbl := List.forall_mem_cons.mpr ⟨List.mem_of_getElem? (i := 2176) (by decide +kernel), List.forall_mem_append.mpr ⟨inT wo_c_m_isClass [2177, 2023, 2024, 171] (by decide +kernel), (List.forall_mem_append.mpr ⟨in_c_in_0_3, (fun _ h => absurd h List.not_mem_nil)⟩)⟩⟩
set_option maxHeartbeats 4000000 in
set_option maxRecDepth 100000 in
theorem c_m_isClass (l : Launch) (G : gG) (x : Int32) : Met l yX13_isClass wq_c_m_isClass ({ frames := 1, cells := 0, slots := 0, locals := 25 }) (va_Pc [.int x] (pP G [])) (vp_Si (fun r : Int32 => r = if x < 0 ∨ 4 ≤ x then 0 else 1)) 0 0 (fun _ => False) := by
  refine Met.ofW (cc := cX13_isClass) (maxL := 1) (ret := (some .boolean)) (by decide) rfl ?_
  intro p e s m args below meth c s₁ B hml hv
  obtain ⟨rfl, hP, hB⟩ := hv
  have hx := B.exec
  have hb := B.bytes
  have hr := B.returns
  have hts := atoms_spec (ws := wq_c_m_isClass) B.pre
  have hown : s.vm.findClass RX13 = some m.cls := findClass_of_methodNamed B.named
  have hlocks := B.notSynchronized
  have hK := hB.1
  have hP : va_P (gD G) vwCl [] s.heap := hP
  have hl := lv_entry ([.int x]) (n := 1) (Nat.le_of_ble_eq_true rfl)
  rw [lg_entry_eq]
  generalize (lg_sl ([.int x]) ++ List.replicate (1 - (lg_sl ([.int x])).length) Slot.unset).toArray = ls at hl ⊢
  have hl : lv_has ls 1 [(0, .int x)] := hl
  refine lv_iload_n hx hb dX13_isClass_0 rfl (lv_at hl 0 rfl) ?_
  refine lv_i2l (v := x.toInt64) hx hb dX13_isClass_1 rfl ?_
  refine lv_lconst (v := 0) hx hb dX13_isClass_2 (by decide) ?_
  refine lv_ldc2 (v := 3) hx hb hown (hts (.constantLong RX13 201 (3)) (List.mem_cons_of_mem _ (List.mem_append_left _ (List.mem_of_getElem? (i := 0) rfl)))) dX13_isClass_3 ?_
  refine vp_callSi (va_Run.run (va_runS (As := [.long x.toInt64, .long 0, .long 3]) (rest := []) ⟨hx, hb, hml, hown, hts⟩ (c_in_0_3 l G x) (va_cwS 3 hts (gdS (List.mem_cons_of_mem _ (List.mem_append_left _ (List.mem_of_getElem? (i := 1) rfl))) (List.mem_cons_of_mem _ (List.mem_append_left _ (List.mem_of_getElem? (i := 2) rfl))) (List.mem_cons_of_mem _ (List.mem_append_left _ (List.mem_of_getElem? (i := 3) rfl))) (fun w9 h9 => ⟨(List.mem_cons_of_mem _ (List.mem_append_right _ (List.mem_append_left _ h9))), gd_c_in_0_3 w9 h9⟩)) rfl rfl rfl kSX13_in ⟨Nat.le_of_ble_eq_true rfl, Nat.le_of_ble_eq_true rfl⟩) (preS_p (As := [.long x.toInt64, .long 0, .long 3]) (hP.sub (ws' := []) [] rfl) hB) rfl rfl hl.1 rfl (lv_room (Nat.le_of_ble_eq_true rfl)) dX13_isClass_6 ⟨Nat.le_of_ble_eq_true rfl, Nat.le_of_ble_eq_true rfl⟩)) (fun r_1 hr_1 => ?_)
  by_cases c_2 : x < 0
  · have hr_1 : r_1 = 0 := hr_1.trans (by rw [if_pos (show x < 0 ∨ 4 ≤ x from (Or.inl c_2))])
    subst hr_1
    exact W.zret (v := 0) hx hb hr rfl (fun t ht hW => ⟨_, rfl, by rw [if_pos (show x < 0 ∨ 4 ≤ x from (Or.inl c_2))], ht⟩) (fun q h => absurd h List.not_mem_nil) dX13_isClass_9
  by_cases c_3 : 4 ≤ x
  · have hr_1 : r_1 = 0 := hr_1.trans (by rw [if_pos (show x < 0 ∨ 4 ≤ x from (Or.inr c_3))])
    subst hr_1
    exact W.zret (v := 0) hx hb hr rfl (fun t ht hW => ⟨_, rfl, by rw [if_pos (show x < 0 ∨ 4 ≤ x from (Or.inr c_3))], ht⟩) (fun q h => absurd h List.not_mem_nil) dX13_isClass_9
  have hr_1 : r_1 = 1 := hr_1.trans (by rw [if_neg (show ¬ (x < 0 ∨ 4 ≤ x) from (not_or.mpr ⟨c_2, c_3⟩))])
  subst hr_1
  exact W.zret (v := 1) hx hb hr rfl (fun t ht hW => ⟨_, rfl, by rw [if_neg (show ¬ (x < 0 ∨ 4 ≤ x) from (not_or.mpr ⟨c_2, c_3⟩))], ht⟩) (fun q h => absurd h List.not_mem_nil) dX13_isClass_9

def wo_c_m_isMat : List Cond := [.constantLong RX13 201 (3), .methodLink RX13 203 yX13_in, .static yX13_in, .initialized RX13]
def wq_c_m_isMat : List Cond := .code yX13_isMat cX13_isMat 1 (some .boolean) :: (wo_c_m_isMat ++ (wq_c_in_0_3 ++ []))
theorem gd_c_m_isMat : ∀ w ∈ wq_c_m_isMat, Gd w := List.forall_mem_cons.mpr ⟨Or.inl rfl, List.forall_mem_append.mpr ⟨gdl wo_c_m_isMat (by decide +kernel), (List.forall_mem_append.mpr ⟨gd_c_in_0_3, (fun _ h => absurd h List.not_mem_nil)⟩)⟩⟩
theorem in_c_m_isMat : ∀ w ∈ wq_c_m_isMat, w ∈ lw_tbl := List.forall_mem_cons.mpr ⟨List.mem_of_getElem? (i := 2246) (by decide +kernel), List.forall_mem_append.mpr ⟨inT wo_c_m_isMat [2177, 2023, 2024, 171] (by decide +kernel), (List.forall_mem_append.mpr ⟨in_c_in_0_3, (fun _ h => absurd h List.not_mem_nil)⟩)⟩⟩
set_option maxHeartbeats 4000000 in
set_option maxRecDepth 100000 in
theorem c_m_isMat (l : Launch) (G : gG) (x : Int32) : Met l yX13_isMat wq_c_m_isMat ({ frames := 1, cells := 0, slots := 0, locals := 25 }) (va_Pc [.int x] (pP G [])) (vp_Si (fun r : Int32 => r = if x < 0 ∨ 4 ≤ x then 0 else 1)) 0 0 (fun _ => False) := by
  refine Met.ofW (cc := cX13_isMat) (maxL := 1) (ret := (some .boolean)) (by decide) rfl ?_
  intro p e s m args below meth c s₁ B hml hv
  obtain ⟨rfl, hP, hB⟩ := hv
  have hx := B.exec
  have hb := B.bytes
  have hr := B.returns
  have hts := atoms_spec (ws := wq_c_m_isMat) B.pre
  have hown : s.vm.findClass RX13 = some m.cls := findClass_of_methodNamed B.named
  have hlocks := B.notSynchronized
  have hK := hB.1
  have hP : va_P (gD G) vwCl [] s.heap := hP
  have hl := lv_entry ([.int x]) (n := 1) (Nat.le_of_ble_eq_true rfl)
  rw [lg_entry_eq]
  generalize (lg_sl ([.int x]) ++ List.replicate (1 - (lg_sl ([.int x])).length) Slot.unset).toArray = ls at hl ⊢
  have hl : lv_has ls 1 [(0, .int x)] := hl
  refine lv_iload_n hx hb dX13_isMat_0 rfl (lv_at hl 0 rfl) ?_
  refine lv_i2l (v := x.toInt64) hx hb dX13_isMat_1 rfl ?_
  refine lv_lconst (v := 0) hx hb dX13_isMat_2 (by decide) ?_
  refine lv_ldc2 (v := 3) hx hb hown (hts (.constantLong RX13 201 (3)) (List.mem_cons_of_mem _ (List.mem_append_left _ (List.mem_of_getElem? (i := 0) rfl)))) dX13_isMat_3 ?_
  refine vp_callSi (va_Run.run (va_runS (As := [.long x.toInt64, .long 0, .long 3]) (rest := []) ⟨hx, hb, hml, hown, hts⟩ (c_in_0_3 l G x) (va_cwS 3 hts (gdS (List.mem_cons_of_mem _ (List.mem_append_left _ (List.mem_of_getElem? (i := 1) rfl))) (List.mem_cons_of_mem _ (List.mem_append_left _ (List.mem_of_getElem? (i := 2) rfl))) (List.mem_cons_of_mem _ (List.mem_append_left _ (List.mem_of_getElem? (i := 3) rfl))) (fun w9 h9 => ⟨(List.mem_cons_of_mem _ (List.mem_append_right _ (List.mem_append_left _ h9))), gd_c_in_0_3 w9 h9⟩)) rfl rfl rfl kSX13_in ⟨Nat.le_of_ble_eq_true rfl, Nat.le_of_ble_eq_true rfl⟩) (preS_p (As := [.long x.toInt64, .long 0, .long 3]) (hP.sub (ws' := []) [] rfl) hB) rfl rfl hl.1 rfl (lv_room (Nat.le_of_ble_eq_true rfl)) dX13_isMat_6 ⟨Nat.le_of_ble_eq_true rfl, Nat.le_of_ble_eq_true rfl⟩)) (fun r_1 hr_1 => ?_)
  by_cases c_2 : x < 0
  · have hr_1 : r_1 = 0 := hr_1.trans (by rw [if_pos (show x < 0 ∨ 4 ≤ x from (Or.inl c_2))])
    subst hr_1
    exact W.zret (v := 0) hx hb hr rfl (fun t ht hW => ⟨_, rfl, by rw [if_pos (show x < 0 ∨ 4 ≤ x from (Or.inl c_2))], ht⟩) (fun q h => absurd h List.not_mem_nil) dX13_isMat_9
  by_cases c_3 : 4 ≤ x
  · have hr_1 : r_1 = 0 := hr_1.trans (by rw [if_pos (show x < 0 ∨ 4 ≤ x from (Or.inr c_3))])
    subst hr_1
    exact W.zret (v := 0) hx hb hr rfl (fun t ht hW => ⟨_, rfl, by rw [if_pos (show x < 0 ∨ 4 ≤ x from (Or.inr c_3))], ht⟩) (fun q h => absurd h List.not_mem_nil) dX13_isMat_9
  have hr_1 : r_1 = 1 := hr_1.trans (by rw [if_neg (show ¬ (x < 0 ∨ 4 ≤ x) from (not_or.mpr ⟨c_2, c_3⟩))])
  subst hr_1
  exact W.zret (v := 1) hx hb hr rfl (fun t ht hW => ⟨_, rfl, by rw [if_neg (show ¬ (x < 0 ∨ 4 ≤ x) from (not_or.mpr ⟨c_2, c_3⟩))], ht⟩) (fun q h => absurd h List.not_mem_nil) dX13_isMat_9

def wo_c_m_isFighter : List Cond := [.fieldLink RX13 176 "JudoHallModel" "fighters" "I", .methodLink RX13 203 yX13_in, .static yX13_in, .initialized RX13]
def wq_c_m_isFighter : List Cond := .code yX13_isFighter cX13_isFighter 2 (some .boolean) :: (wo_c_m_isFighter ++ (wsX130 ++ (wq_c_in_0_m1 ++ [])))
theorem gd_c_m_isFighter : ∀ w ∈ wq_c_m_isFighter, Gd w := List.forall_mem_cons.mpr ⟨Or.inl rfl, List.forall_mem_append.mpr ⟨gdl wo_c_m_isFighter (by decide +kernel), (List.forall_mem_append.mpr ⟨gd_wsX130, (List.forall_mem_append.mpr ⟨gd_c_in_0_m1, (fun _ h => absurd h List.not_mem_nil)⟩)⟩)⟩⟩
theorem in_c_m_isFighter : ∀ w ∈ wq_c_m_isFighter, w ∈ lw_tbl := List.forall_mem_cons.mpr ⟨List.mem_of_getElem? (i := 2191) (by decide +kernel), List.forall_mem_append.mpr ⟨inT wo_c_m_isFighter [1620, 2023, 2024, 171] (by decide +kernel), (List.forall_mem_append.mpr ⟨in_wsX130, (List.forall_mem_append.mpr ⟨in_c_in_0_m1, (fun _ h => absurd h List.not_mem_nil)⟩)⟩)⟩⟩
set_option maxHeartbeats 4000000 in
set_option maxRecDepth 100000 in
theorem c_m_isFighter (l : Launch) (G : gG) (mo : Nat) (Q : Nat → Nat) (x : Int32) : Met l yX13_isFighter wq_c_m_isFighter ({ frames := 1, cells := 0, slots := 0, locals := 25 }) (va_Pc [.ref mo, .int x] (pP G [(mo, .inr (14, [.ref (Q 0), .ref (Q 1), .int 0, .int 0, .int 10, .ref (Q 5), .ref (Q 6), .ref (Q 7), .ref (Q 8), .ref (Q 9), .ref (Q 10), .ref (Q 11), .ref (Q 12), .ref (Q 13), .ref (Q 14), .ref (Q 15), .ref (Q 16), .ref (Q 17), .ref (Q 18), .ref (Q 19), .ref (Q 20), .ref (Q 21), .ref (Q 22), .ref (Q 23), .ref (Q 24), .ref (Q 25), .ref (Q 26), .int 0, .int 0, .int 0, .int 0, .int 0, .ref (Q 32), .ref (Q 33), .ref (Q 34), .ref (Q 35), .ref (Q 36), .ref (Q 37), .ref (Q 38), .ref (Q 39), .ref (Q 40), .ref (Q 40), .int 0, .int 0, .int 0, .int 0, .int 0, .int 0, .int 0, .int 0, .int (-1), .int 0, .ref (Q 52), .int 0, .ref (Q 54), .int 0, .ref (Q 56), .ref (Q 57), .ref (Q 58), .ref (Q 59), .ref (Q 60), .ref (Q 61), .ref (Q 62), .ref (Q 63), .ref (Q 64), .ref (Q 65), .ref (Q 66), .ref (Q 67), .ref (Q 68), .int 0, .ref (Q 70), .ref (Q 71)]))])) (vp_Si (fun r : Int32 => r = 0)) 0 0 (fun _ => False) := by
  refine Met.ofW (cc := cX13_isFighter) (maxL := 2) (ret := (some .boolean)) (by decide) rfl ?_
  intro p e s m args below meth c s₁ B hml hv
  obtain ⟨rfl, hP, hB⟩ := hv
  have hx := B.exec
  have hb := B.bytes
  have hr := B.returns
  have hts := atoms_spec (ws := wq_c_m_isFighter) B.pre
  have hown : s.vm.findClass RX13 = some m.cls := findClass_of_methodNamed B.named
  have hlocks := B.notSynchronized
  have hK := hB.1
  have hP : va_P (gD G) vwCl [(mo, .inr (14, [.ref (Q 0), .ref (Q 1), .int 0, .int 0, .int 10, .ref (Q 5), .ref (Q 6), .ref (Q 7), .ref (Q 8), .ref (Q 9), .ref (Q 10), .ref (Q 11), .ref (Q 12), .ref (Q 13), .ref (Q 14), .ref (Q 15), .ref (Q 16), .ref (Q 17), .ref (Q 18), .ref (Q 19), .ref (Q 20), .ref (Q 21), .ref (Q 22), .ref (Q 23), .ref (Q 24), .ref (Q 25), .ref (Q 26), .int 0, .int 0, .int 0, .int 0, .int 0, .ref (Q 32), .ref (Q 33), .ref (Q 34), .ref (Q 35), .ref (Q 36), .ref (Q 37), .ref (Q 38), .ref (Q 39), .ref (Q 40), .ref (Q 40), .int 0, .int 0, .int 0, .int 0, .int 0, .int 0, .int 0, .int 0, .int (-1), .int 0, .ref (Q 52), .int 0, .ref (Q 54), .int 0, .ref (Q 56), .ref (Q 57), .ref (Q 58), .ref (Q 59), .ref (Q 60), .ref (Q 61), .ref (Q 62), .ref (Q 63), .ref (Q 64), .ref (Q 65), .ref (Q 66), .ref (Q 67), .ref (Q 68), .int 0, .ref (Q 70), .ref (Q 71)]))] s.heap := hP
  have hl := lv_entry ([.ref mo, .int x]) (n := 2) (Nat.le_of_ble_eq_true rfl)
  rw [lg_entry_eq]
  generalize (lg_sl ([.ref mo, .int x]) ++ List.replicate (2 - (lg_sl ([.ref mo, .int x])).length) Slot.unset).toArray = ls at hl ⊢
  have hl : lv_has ls 2 [(0, .ref mo), (1, .int x)] := hl
  refine lv_iload_n hx hb dX13_isFighter_0 rfl (lv_at hl 1 rfl) ?_
  refine lv_i2l (v := x.toInt64) hx hb dX13_isFighter_1 rfl ?_
  refine lv_lconst (v := 0) hx hb dX13_isFighter_2 (by decide) ?_
  refine lv_aload_n hx hb dX13_isFighter_3 rfl (lv_at hl 0 rfl) ?_
  refine va_get (D := gD G) (ci := 14) (v := .int 0) (C := RX13) (T := TX13) (N := 72) hx hb hts (fun _ h9 => (List.mem_cons_of_mem _ (List.mem_append_right _ (List.mem_append_left _ h9)))) hown hK hP 0 rfl rfl 2 (by decide) (hts (.fieldLink RX13 176 "JudoHallModel" "fighters" "I") (List.mem_cons_of_mem _ (List.mem_append_left _ (List.mem_of_getElem? (i := 0) rfl)))) (fun _ h9 => h9) rfl dX13_isFighter_4 ?_
  refine lv_i2l (v := 0) hx hb dX13_isFighter_7 (by decide) ?_
  refine lv_lconst (v := 1) hx hb dX13_isFighter_8 (by decide) ?_
  refine lv_lsub hx hb dX13_isFighter_9 ?_
  refine gx_tl (y := (-1)) (by decide) ?_
  refine vp_callSi (va_Run.run (va_runS (As := [.long x.toInt64, .long 0, .long (-1)]) (rest := []) ⟨hx, hb, hml, hown, hts⟩ (c_in_0_m1 l G x) (va_cwS 3 hts (gdS (List.mem_cons_of_mem _ (List.mem_append_left _ (List.mem_of_getElem? (i := 1) rfl))) (List.mem_cons_of_mem _ (List.mem_append_left _ (List.mem_of_getElem? (i := 2) rfl))) (List.mem_cons_of_mem _ (List.mem_append_left _ (List.mem_of_getElem? (i := 3) rfl))) (fun w9 h9 => ⟨(List.mem_cons_of_mem _ (List.mem_append_right _ (List.mem_append_right _ (List.mem_append_left _ h9)))), gd_c_in_0_m1 w9 h9⟩)) rfl rfl rfl kSX13_in ⟨Nat.le_of_ble_eq_true rfl, Nat.le_of_ble_eq_true rfl⟩) (preS_p (As := [.long x.toInt64, .long 0, .long (-1)]) (hP.sub (ws' := []) [] rfl) hB) rfl rfl hl.1 rfl (lv_room (Nat.le_of_ble_eq_true rfl)) dX13_isFighter_10 ⟨Nat.le_of_ble_eq_true rfl, Nat.le_of_ble_eq_true rfl⟩)) (fun r_1 hr_1 => ?_)
  subst hr_1
  exact W.zret (v := 0) hx hb hr rfl (fun t ht hW => ⟨_, rfl, rfl, ht⟩) (fun q h => absurd h List.not_mem_nil) dX13_isFighter_13

def wo_c_m_fights : List Cond := [.fieldLink RX13 40 "JudoHallModel" "places" "[I", .fieldLink RX13 37 "JudoHallModel" "drawn" "[I"]
def wq_c_m_fights : List Cond := .code yX13_fights cX13_fights 3 (some .int) :: (wo_c_m_fights ++ (wsX130 ++ []))
theorem gd_c_m_fights : ∀ w ∈ wq_c_m_fights, Gd w := List.forall_mem_cons.mpr ⟨Or.inl rfl, List.forall_mem_append.mpr ⟨gdl wo_c_m_fights (by decide +kernel), (List.forall_mem_append.mpr ⟨gd_wsX130, (fun _ h => absurd h List.not_mem_nil)⟩)⟩⟩
theorem in_c_m_fights : ∀ w ∈ wq_c_m_fights, w ∈ lw_tbl := List.forall_mem_cons.mpr ⟨List.mem_of_getElem? (i := 2037) (by decide +kernel), List.forall_mem_append.mpr ⟨inT wo_c_m_fights [1631, 1630] (by decide +kernel), (List.forall_mem_append.mpr ⟨in_wsX130, (fun _ h => absurd h List.not_mem_nil)⟩)⟩⟩
set_option maxHeartbeats 4000000 in
set_option maxRecDepth 100000 in
theorem c_m_fights (l : Launch) (G : gG) (mo : Nat) (Q : Nat → Nat) (x : Int32) (h0 : ¬ x < 0) (h1 : ¬ (4 : Int32) ≤ x) : Met l yX13_fights wq_c_m_fights ({ frames := 0, cells := 0, slots := 0, locals := 0 }) (va_Pc [.ref mo, .int x] (pP G [(mo, .inr (14, [.ref (Q 0), .ref (Q 1), .int 0, .int 0, .int 10, .ref (Q 5), .ref (Q 6), .ref (Q 7), .ref (Q 8), .ref (Q 9), .ref (Q 10), .ref (Q 11), .ref (Q 12), .ref (Q 13), .ref (Q 14), .ref (Q 15), .ref (Q 16), .ref (Q 17), .ref (Q 18), .ref (Q 19), .ref (Q 20), .ref (Q 21), .ref (Q 22), .ref (Q 23), .ref (Q 24), .ref (Q 25), .ref (Q 26), .int 0, .int 0, .int 0, .int 0, .int 0, .ref (Q 32), .ref (Q 33), .ref (Q 34), .ref (Q 35), .ref (Q 36), .ref (Q 37), .ref (Q 38), .ref (Q 39), .ref (Q 40), .ref (Q 40), .int 0, .int 0, .int 0, .int 0, .int 0, .int 0, .int 0, .int 0, .int (-1), .int 0, .ref (Q 52), .int 0, .ref (Q 54), .int 0, .ref (Q 56), .ref (Q 57), .ref (Q 58), .ref (Q 59), .ref (Q 60), .ref (Q 61), .ref (Q 62), .ref (Q 63), .ref (Q 64), .ref (Q 65), .ref (Q 66), .ref (Q 67), .ref (Q 68), .int 0, .ref (Q 70), .ref (Q 71)])), (Q 12, .inl (gI G, 4, .inl moDr)), (Q 13, .inl (gI G, 4, .inl (fun _ => 0)))])) (vp_Si (fun r : Int32 => r = 0)) 0 0 (fun _ => False) := by
  refine Met.ofW (cc := cX13_fights) (maxL := 3) (ret := (some .int)) (by decide) rfl ?_
  intro p e s m args below meth c s₁ B hml hv
  obtain ⟨rfl, hP, hB⟩ := hv
  have hx := B.exec
  have hb := B.bytes
  have hr := B.returns
  have hts := atoms_spec (ws := wq_c_m_fights) B.pre
  have hown : s.vm.findClass RX13 = some m.cls := findClass_of_methodNamed B.named
  have hlocks := B.notSynchronized
  have hK := hB.1
  have hP : va_P (gD G) vwCl [(mo, .inr (14, [.ref (Q 0), .ref (Q 1), .int 0, .int 0, .int 10, .ref (Q 5), .ref (Q 6), .ref (Q 7), .ref (Q 8), .ref (Q 9), .ref (Q 10), .ref (Q 11), .ref (Q 12), .ref (Q 13), .ref (Q 14), .ref (Q 15), .ref (Q 16), .ref (Q 17), .ref (Q 18), .ref (Q 19), .ref (Q 20), .ref (Q 21), .ref (Q 22), .ref (Q 23), .ref (Q 24), .ref (Q 25), .ref (Q 26), .int 0, .int 0, .int 0, .int 0, .int 0, .ref (Q 32), .ref (Q 33), .ref (Q 34), .ref (Q 35), .ref (Q 36), .ref (Q 37), .ref (Q 38), .ref (Q 39), .ref (Q 40), .ref (Q 40), .int 0, .int 0, .int 0, .int 0, .int 0, .int 0, .int 0, .int 0, .int (-1), .int 0, .ref (Q 52), .int 0, .ref (Q 54), .int 0, .ref (Q 56), .ref (Q 57), .ref (Q 58), .ref (Q 59), .ref (Q 60), .ref (Q 61), .ref (Q 62), .ref (Q 63), .ref (Q 64), .ref (Q 65), .ref (Q 66), .ref (Q 67), .ref (Q 68), .int 0, .ref (Q 70), .ref (Q 71)])), (Q 12, .inl (gI G, 4, .inl moDr)), (Q 13, .inl (gI G, 4, .inl (fun _ => 0)))] s.heap := hP
  have hl := lv_entry ([.ref mo, .int x]) (n := 3) (Nat.le_of_ble_eq_true rfl)
  rw [lg_entry_eq]
  generalize (lg_sl ([.ref mo, .int x]) ++ List.replicate (3 - (lg_sl ([.ref mo, .int x])).length) Slot.unset).toArray = ls at hl ⊢
  have hl : lv_has ls 3 [(0, .ref mo), (1, .int x)] := hl
  refine lv_aload_n hx hb dX13_fights_0 rfl (lv_at hl 0 rfl) ?_
  refine va_get (D := gD G) (ci := 14) (v := .ref (Q 13)) (C := RX13) (T := TX13) (N := 72) hx hb hts (fun _ h9 => (List.mem_cons_of_mem _ (List.mem_append_right _ (List.mem_append_left _ h9)))) hown hK hP 0 rfl rfl 13 (by decide) (hts (.fieldLink RX13 40 "JudoHallModel" "places" "[I") (List.mem_cons_of_mem _ (List.mem_append_left _ (List.mem_of_getElem? (i := 0) rfl)))) (fun _ h9 => h9) rfl dX13_fights_1 ?_
  refine lv_iload_n hx hb dX13_fights_4 rfl (lv_at hl 1 rfl) ?_
  refine va_iald (D := gD G) hx hb hK hP 2 0 rfl rfl (gx_ixk (k := 4) (by decide) (by decide) h0 h1) dX13_fights_5 ?_
  refine gx_ti (y := 0) (rfl) ?_
  refine lv_istore_n (lv' := [(2, .int 0), (0, .ref mo), (1, .int x)]) hx hb dX13_fights_6 rfl hl (by decide) rfl (fun ls hl => ?_)
  refine lv_aload_n hx hb dX13_fights_7 rfl (lv_at hl 1 rfl) ?_
  refine va_get (D := gD G) (ci := 14) (v := .ref (Q 12)) (C := RX13) (T := TX13) (N := 72) hx hb hts (fun _ h9 => (List.mem_cons_of_mem _ (List.mem_append_right _ (List.mem_append_left _ h9)))) hown hK hP 0 rfl rfl 12 (by decide) (hts (.fieldLink RX13 37 "JudoHallModel" "drawn" "[I") (List.mem_cons_of_mem _ (List.mem_append_left _ (List.mem_of_getElem? (i := 1) rfl)))) (fun _ h9 => h9) rfl dX13_fights_8 ?_
  refine lv_iload_n hx hb dX13_fights_11 rfl (lv_at hl 2 rfl) ?_
  refine va_iald (D := gD G) hx hb hK hP 1 0 rfl rfl (gx_ixk (k := 4) (by decide) (by decide) h0 h1) dX13_fights_12 ?_
  refine gx_ti (y := 0) (moDr_at _) ?_
  refine lv_if_ne (tgt := 20) hx hb dX13_fights_13 (by decide) (fun c9 => absurd (by decide) c9) (fun _ => ?_)
  refine lv_iconst (v := 0) hx hb dX13_fights_16 (by decide) ?_
  refine lv_goto (tgt := 53) hx hb dX13_fights_17 (by decide) ?_
  exact W.iret (v := 0) hx hb hr (fun t ht hW => ⟨_, rfl, rfl, ht⟩) (fun q h => absurd h List.not_mem_nil) dX13_fights_53

def wo_c_m_isFight : List Cond := [.methodLink RX13 214 yX13_isClass, .static yX13_isClass, .initialized RX13, .methodLink RX13 218 yX13_fights, .instanceMethod yX13_fights, .selects RX13 yX13_fights yX13_fights, .methodLink RX13 203 yX13_in, .static yX13_in]
def wq_c_m_isFight : List Cond := .code yX13_isFight cX13_isFight 3 (some .boolean) :: (wo_c_m_isFight ++ (wq_c_m_isClass ++ (wq_c_m_fights ++ (wq_c_in_0_m1 ++ []))))
theorem gd_c_m_isFight : ∀ w ∈ wq_c_m_isFight, Gd w := List.forall_mem_cons.mpr ⟨Or.inl rfl, List.forall_mem_append.mpr ⟨gdl wo_c_m_isFight (by decide +kernel), (List.forall_mem_append.mpr ⟨gd_c_m_isClass, (List.forall_mem_append.mpr ⟨gd_c_m_fights, (List.forall_mem_append.mpr ⟨gd_c_in_0_m1, (fun _ h => absurd h List.not_mem_nil)⟩)⟩)⟩)⟩⟩
theorem in_c_m_isFight : ∀ w ∈ wq_c_m_isFight, w ∈ lw_tbl := List.forall_mem_cons.mpr ⟨List.mem_of_getElem? (i := 2224) (by decide +kernel), List.forall_mem_append.mpr ⟨inT wo_c_m_isFight [2174, 2175, 171, 2034, 2036, 109, 2023, 2024] (by decide +kernel), (List.forall_mem_append.mpr ⟨in_c_m_isClass, (List.forall_mem_append.mpr ⟨in_c_m_fights, (List.forall_mem_append.mpr ⟨in_c_in_0_m1, (fun _ h => absurd h List.not_mem_nil)⟩)⟩)⟩)⟩⟩
set_option maxHeartbeats 4000000 in
set_option maxRecDepth 100000 in
theorem c_m_isFight (l : Launch) (G : gG) (mo : Nat) (Q : Nat → Nat) (x : Int32) (y : Int32) : Met l yX13_isFight wq_c_m_isFight ({ frames := 2, cells := 0, slots := 0, locals := 45 }) (va_Pc [.ref mo, .int x, .int y] (pP G [(mo, .inr (14, [.ref (Q 0), .ref (Q 1), .int 0, .int 0, .int 10, .ref (Q 5), .ref (Q 6), .ref (Q 7), .ref (Q 8), .ref (Q 9), .ref (Q 10), .ref (Q 11), .ref (Q 12), .ref (Q 13), .ref (Q 14), .ref (Q 15), .ref (Q 16), .ref (Q 17), .ref (Q 18), .ref (Q 19), .ref (Q 20), .ref (Q 21), .ref (Q 22), .ref (Q 23), .ref (Q 24), .ref (Q 25), .ref (Q 26), .int 0, .int 0, .int 0, .int 0, .int 0, .ref (Q 32), .ref (Q 33), .ref (Q 34), .ref (Q 35), .ref (Q 36), .ref (Q 37), .ref (Q 38), .ref (Q 39), .ref (Q 40), .ref (Q 40), .int 0, .int 0, .int 0, .int 0, .int 0, .int 0, .int 0, .int 0, .int (-1), .int 0, .ref (Q 52), .int 0, .ref (Q 54), .int 0, .ref (Q 56), .ref (Q 57), .ref (Q 58), .ref (Q 59), .ref (Q 60), .ref (Q 61), .ref (Q 62), .ref (Q 63), .ref (Q 64), .ref (Q 65), .ref (Q 66), .ref (Q 67), .ref (Q 68), .int 0, .ref (Q 70), .ref (Q 71)])), (Q 12, .inl (gI G, 4, .inl moDr)), (Q 13, .inl (gI G, 4, .inl (fun _ => 0)))])) (vp_Si (fun r : Int32 => r = 0)) 0 0 (fun _ => False) := by
  refine Met.ofW (cc := cX13_isFight) (maxL := 3) (ret := (some .boolean)) (by decide) rfl ?_
  intro p e s m args below meth c s₁ B hml hv
  obtain ⟨rfl, hP, hB⟩ := hv
  have hx := B.exec
  have hb := B.bytes
  have hr := B.returns
  have hts := atoms_spec (ws := wq_c_m_isFight) B.pre
  have hown : s.vm.findClass RX13 = some m.cls := findClass_of_methodNamed B.named
  have hlocks := B.notSynchronized
  have hK := hB.1
  have hP : va_P (gD G) vwCl [(mo, .inr (14, [.ref (Q 0), .ref (Q 1), .int 0, .int 0, .int 10, .ref (Q 5), .ref (Q 6), .ref (Q 7), .ref (Q 8), .ref (Q 9), .ref (Q 10), .ref (Q 11), .ref (Q 12), .ref (Q 13), .ref (Q 14), .ref (Q 15), .ref (Q 16), .ref (Q 17), .ref (Q 18), .ref (Q 19), .ref (Q 20), .ref (Q 21), .ref (Q 22), .ref (Q 23), .ref (Q 24), .ref (Q 25), .ref (Q 26), .int 0, .int 0, .int 0, .int 0, .int 0, .ref (Q 32), .ref (Q 33), .ref (Q 34), .ref (Q 35), .ref (Q 36), .ref (Q 37), .ref (Q 38), .ref (Q 39), .ref (Q 40), .ref (Q 40), .int 0, .int 0, .int 0, .int 0, .int 0, .int 0, .int 0, .int 0, .int (-1), .int 0, .ref (Q 52), .int 0, .ref (Q 54), .int 0, .ref (Q 56), .ref (Q 57), .ref (Q 58), .ref (Q 59), .ref (Q 60), .ref (Q 61), .ref (Q 62), .ref (Q 63), .ref (Q 64), .ref (Q 65), .ref (Q 66), .ref (Q 67), .ref (Q 68), .int 0, .ref (Q 70), .ref (Q 71)])), (Q 12, .inl (gI G, 4, .inl moDr)), (Q 13, .inl (gI G, 4, .inl (fun _ => 0)))] s.heap := hP
  have hl := lv_entry ([.ref mo, .int x, .int y]) (n := 3) (Nat.le_of_ble_eq_true rfl)
  rw [lg_entry_eq]
  generalize (lg_sl ([.ref mo, .int x, .int y]) ++ List.replicate (3 - (lg_sl ([.ref mo, .int x, .int y])).length) Slot.unset).toArray = ls at hl ⊢
  have hl : lv_has ls 3 [(0, .ref mo), (1, .int x), (2, .int y)] := hl
  refine lv_iload_n hx hb dX13_isFight_0 rfl (lv_at hl 1 rfl) ?_
  refine vp_callSi (va_Run.run (va_runS (As := [.int x]) (rest := []) ⟨hx, hb, hml, hown, hts⟩ (c_m_isClass l G x) (va_cwS 1 hts (gdS (List.mem_cons_of_mem _ (List.mem_append_left _ (List.mem_of_getElem? (i := 0) rfl))) (List.mem_cons_of_mem _ (List.mem_append_left _ (List.mem_of_getElem? (i := 1) rfl))) (List.mem_cons_of_mem _ (List.mem_append_left _ (List.mem_of_getElem? (i := 2) rfl))) (fun w9 h9 => ⟨(List.mem_cons_of_mem _ (List.mem_append_right _ (List.mem_append_left _ h9))), gd_c_m_isClass w9 h9⟩)) rfl rfl rfl kSX13_isClass ⟨Nat.le_of_ble_eq_true rfl, Nat.le_of_ble_eq_true rfl⟩) (preS_p (As := [.int x]) (hP.sub (ws' := []) [] rfl) hB) rfl rfl hl.1 rfl (lv_room (Nat.le_of_ble_eq_true rfl)) dX13_isFight_1 ⟨Nat.le_of_ble_eq_true rfl, Nat.le_of_ble_eq_true rfl⟩)) (fun r_1 hr_1 => ?_)
  by_cases c_2 : x < 0
  · have hr_1 : r_1 = 0 := hr_1.trans (by rw [if_pos (show x < 0 ∨ 4 ≤ x from (Or.inl c_2))])
    subst hr_1
    refine lv_if_eq (tgt := 28) hx hb dX13_isFight_4 (by decide) (fun _ => ?_) (fun c9 => absurd (by decide) c9)
    refine lv_iconst (v := 0) hx hb dX13_isFight_28 (by decide) ?_
    exact W.zret (v := 0) hx hb hr rfl (fun t ht hW => ⟨_, rfl, rfl, ht⟩) (fun q h => absurd h List.not_mem_nil) dX13_isFight_29
  by_cases c_3 : 4 ≤ x
  · have hr_1 : r_1 = 0 := hr_1.trans (by rw [if_pos (show x < 0 ∨ 4 ≤ x from (Or.inr c_3))])
    subst hr_1
    refine lv_if_eq (tgt := 28) hx hb dX13_isFight_4 (by decide) (fun _ => ?_) (fun c9 => absurd (by decide) c9)
    refine lv_iconst (v := 0) hx hb dX13_isFight_28 (by decide) ?_
    exact W.zret (v := 0) hx hb hr rfl (fun t ht hW => ⟨_, rfl, rfl, ht⟩) (fun q h => absurd h List.not_mem_nil) dX13_isFight_29
  have hr_1 : r_1 = 1 := hr_1.trans (by rw [if_neg (show ¬ (x < 0 ∨ 4 ≤ x) from (not_or.mpr ⟨c_2, c_3⟩))])
  subst hr_1
  refine lv_if_eq (tgt := 28) hx hb dX13_isFight_4 (by decide) (fun c9 => absurd c9 (by decide)) (fun _ => ?_)
  refine lv_iload_n hx hb dX13_isFight_7 rfl (lv_at hl 2 rfl) ?_
  refine lv_i2l (v := y.toInt64) hx hb dX13_isFight_8 rfl ?_
  refine lv_lconst (v := 0) hx hb dX13_isFight_9 (by decide) ?_
  refine lv_aload_n hx hb dX13_isFight_10 rfl (lv_at hl 0 rfl) ?_
  refine lv_iload_n hx hb dX13_isFight_11 rfl (lv_at hl 1 rfl) ?_
  refine vp_callSi (va_Run.run (va_runV (As := [.int x]) (rest := [.long 0, .long y.toInt64]) ⟨hx, hb, hml, hown, hts⟩ (c_m_fights l G mo Q x (c_2) (c_3)) (cwV 1 hts (gdV (List.mem_cons_of_mem _ (List.mem_append_left _ (List.mem_of_getElem? (i := 3) rfl))) (List.mem_cons_of_mem _ (List.mem_append_left _ (List.mem_of_getElem? (i := 4) rfl))) (List.mem_cons_of_mem _ (List.mem_append_left _ (List.mem_of_getElem? (i := 5) rfl))) (List.mem_cons_of_mem _ (List.mem_append_left _ (List.mem_of_getElem? (i := 2) rfl))) (fun w9 h9 => ⟨(List.mem_cons_of_mem _ (List.mem_append_right _ (List.mem_append_right _ (List.mem_append_left _ h9)))), gd_c_m_fights w9 h9⟩)) rfl rfl rfl kVX13_fights ⟨Nat.le_of_ble_eq_true rfl, Nat.le_of_ble_eq_true rfl⟩) (preV_p (As := [.int x]) (hP.sub (ws' := [(mo, .inr (14, [.ref (Q 0), .ref (Q 1), .int 0, .int 0, .int 10, .ref (Q 5), .ref (Q 6), .ref (Q 7), .ref (Q 8), .ref (Q 9), .ref (Q 10), .ref (Q 11), .ref (Q 12), .ref (Q 13), .ref (Q 14), .ref (Q 15), .ref (Q 16), .ref (Q 17), .ref (Q 18), .ref (Q 19), .ref (Q 20), .ref (Q 21), .ref (Q 22), .ref (Q 23), .ref (Q 24), .ref (Q 25), .ref (Q 26), .int 0, .int 0, .int 0, .int 0, .int 0, .ref (Q 32), .ref (Q 33), .ref (Q 34), .ref (Q 35), .ref (Q 36), .ref (Q 37), .ref (Q 38), .ref (Q 39), .ref (Q 40), .ref (Q 40), .int 0, .int 0, .int 0, .int 0, .int 0, .int 0, .int 0, .int 0, .int (-1), .int 0, .ref (Q 52), .int 0, .ref (Q 54), .int 0, .ref (Q 56), .ref (Q 57), .ref (Q 58), .ref (Q 59), .ref (Q 60), .ref (Q 61), .ref (Q 62), .ref (Q 63), .ref (Q 64), .ref (Q 65), .ref (Q 66), .ref (Q 67), .ref (Q 68), .int 0, .ref (Q 70), .ref (Q 71)])), (Q 12, .inl (gI G, 4, .inl moDr)), (Q 13, .inl (gI G, 4, .inl (fun _ => 0)))]) [0, 1, 2] rfl) hB rfl rfl) rfl rfl hl.1 rfl (lv_room (Nat.le_of_ble_eq_true rfl)) dX13_isFight_12 ⟨Nat.le_of_ble_eq_true rfl, Nat.le_of_ble_eq_true rfl⟩)) (fun r_4 hr_4 => ?_)
  subst hr_4
  refine lv_i2l (v := 0) hx hb dX13_isFight_15 (by decide) ?_
  refine lv_lconst (v := 1) hx hb dX13_isFight_16 (by decide) ?_
  refine lv_lsub hx hb dX13_isFight_17 ?_
  refine gx_tl (y := (-1)) (by decide) ?_
  refine vp_callSi (va_Run.run (va_runS (As := [.long y.toInt64, .long 0, .long (-1)]) (rest := []) ⟨hx, hb, hml, hown, hts⟩ (c_in_0_m1 l G y) (va_cwS 3 hts (gdS (List.mem_cons_of_mem _ (List.mem_append_left _ (List.mem_of_getElem? (i := 6) rfl))) (List.mem_cons_of_mem _ (List.mem_append_left _ (List.mem_of_getElem? (i := 7) rfl))) (List.mem_cons_of_mem _ (List.mem_append_left _ (List.mem_of_getElem? (i := 2) rfl))) (fun w9 h9 => ⟨(List.mem_cons_of_mem _ (List.mem_append_right _ (List.mem_append_right _ (List.mem_append_right _ (List.mem_append_left _ h9))))), gd_c_in_0_m1 w9 h9⟩)) rfl rfl rfl kSX13_in ⟨Nat.le_of_ble_eq_true rfl, Nat.le_of_ble_eq_true rfl⟩) (preS_p (As := [.long y.toInt64, .long 0, .long (-1)]) (hP.sub (ws' := []) [] rfl) hB) rfl rfl hl.1 rfl (lv_room (Nat.le_of_ble_eq_true rfl)) dX13_isFight_18 ⟨Nat.le_of_ble_eq_true rfl, Nat.le_of_ble_eq_true rfl⟩)) (fun r_5 hr_5 => ?_)
  subst hr_5
  refine lv_if_eq (tgt := 28) hx hb dX13_isFight_21 (by decide) (fun _ => ?_) (fun c9 => absurd (by decide) c9)
  refine lv_iconst (v := 0) hx hb dX13_isFight_28 (by decide) ?_
  exact W.zret (v := 0) hx hb hr rfl (fun t ht hW => ⟨_, rfl, rfl, ht⟩) (fun q h => absurd h List.not_mem_nil) dX13_isFight_29

def wo_c_m_weighed : List Cond := [.fieldLink RX13 176 "JudoHallModel" "fighters" "I"]
def wq_c_m_weighed : List Cond := .code yX13_weighed cX13_weighed 4 (some .int) :: (wo_c_m_weighed ++ (wsX130 ++ []))
theorem gd_c_m_weighed : ∀ w ∈ wq_c_m_weighed, Gd w := List.forall_mem_cons.mpr ⟨Or.inl rfl, List.forall_mem_append.mpr ⟨gdl wo_c_m_weighed (by decide +kernel), (List.forall_mem_append.mpr ⟨gd_wsX130, (fun _ h => absurd h List.not_mem_nil)⟩)⟩⟩
theorem in_c_m_weighed : ∀ w ∈ wq_c_m_weighed, w ∈ lw_tbl := List.forall_mem_cons.mpr ⟨List.mem_of_getElem? (i := 2033) (by decide +kernel), List.forall_mem_append.mpr ⟨inT wo_c_m_weighed [1620] (by decide +kernel), (List.forall_mem_append.mpr ⟨in_wsX130, (fun _ h => absurd h List.not_mem_nil)⟩)⟩⟩
set_option maxHeartbeats 4000000 in
set_option maxRecDepth 100000 in
theorem c_m_weighed (l : Launch) (G : gG) (mo : Nat) (Q : Nat → Nat) (x : Int32) : Met l yX13_weighed wq_c_m_weighed ({ frames := 0, cells := 0, slots := 0, locals := 0 }) (va_Pc [.ref mo, .int x] (pP G [(mo, .inr (14, [.ref (Q 0), .ref (Q 1), .int 0, .int 0, .int 10, .ref (Q 5), .ref (Q 6), .ref (Q 7), .ref (Q 8), .ref (Q 9), .ref (Q 10), .ref (Q 11), .ref (Q 12), .ref (Q 13), .ref (Q 14), .ref (Q 15), .ref (Q 16), .ref (Q 17), .ref (Q 18), .ref (Q 19), .ref (Q 20), .ref (Q 21), .ref (Q 22), .ref (Q 23), .ref (Q 24), .ref (Q 25), .ref (Q 26), .int 0, .int 0, .int 0, .int 0, .int 0, .ref (Q 32), .ref (Q 33), .ref (Q 34), .ref (Q 35), .ref (Q 36), .ref (Q 37), .ref (Q 38), .ref (Q 39), .ref (Q 40), .ref (Q 40), .int 0, .int 0, .int 0, .int 0, .int 0, .int 0, .int 0, .int 0, .int (-1), .int 0, .ref (Q 52), .int 0, .ref (Q 54), .int 0, .ref (Q 56), .ref (Q 57), .ref (Q 58), .ref (Q 59), .ref (Q 60), .ref (Q 61), .ref (Q 62), .ref (Q 63), .ref (Q 64), .ref (Q 65), .ref (Q 66), .ref (Q 67), .ref (Q 68), .int 0, .ref (Q 70), .ref (Q 71)]))])) (vp_Si (fun r : Int32 => r = 0)) 0 0 (fun _ => False) := by
  refine Met.ofW (cc := cX13_weighed) (maxL := 4) (ret := (some .int)) (by decide) rfl ?_
  intro p e s m args below meth c s₁ B hml hv
  obtain ⟨rfl, hP, hB⟩ := hv
  have hx := B.exec
  have hb := B.bytes
  have hr := B.returns
  have hts := atoms_spec (ws := wq_c_m_weighed) B.pre
  have hown : s.vm.findClass RX13 = some m.cls := findClass_of_methodNamed B.named
  have hlocks := B.notSynchronized
  have hK := hB.1
  have hP : va_P (gD G) vwCl [(mo, .inr (14, [.ref (Q 0), .ref (Q 1), .int 0, .int 0, .int 10, .ref (Q 5), .ref (Q 6), .ref (Q 7), .ref (Q 8), .ref (Q 9), .ref (Q 10), .ref (Q 11), .ref (Q 12), .ref (Q 13), .ref (Q 14), .ref (Q 15), .ref (Q 16), .ref (Q 17), .ref (Q 18), .ref (Q 19), .ref (Q 20), .ref (Q 21), .ref (Q 22), .ref (Q 23), .ref (Q 24), .ref (Q 25), .ref (Q 26), .int 0, .int 0, .int 0, .int 0, .int 0, .ref (Q 32), .ref (Q 33), .ref (Q 34), .ref (Q 35), .ref (Q 36), .ref (Q 37), .ref (Q 38), .ref (Q 39), .ref (Q 40), .ref (Q 40), .int 0, .int 0, .int 0, .int 0, .int 0, .int 0, .int 0, .int 0, .int (-1), .int 0, .ref (Q 52), .int 0, .ref (Q 54), .int 0, .ref (Q 56), .ref (Q 57), .ref (Q 58), .ref (Q 59), .ref (Q 60), .ref (Q 61), .ref (Q 62), .ref (Q 63), .ref (Q 64), .ref (Q 65), .ref (Q 66), .ref (Q 67), .ref (Q 68), .int 0, .ref (Q 70), .ref (Q 71)]))] s.heap := hP
  have hl := lv_entry ([.ref mo, .int x]) (n := 4) (Nat.le_of_ble_eq_true rfl)
  rw [lg_entry_eq]
  generalize (lg_sl ([.ref mo, .int x]) ++ List.replicate (4 - (lg_sl ([.ref mo, .int x])).length) Slot.unset).toArray = ls at hl ⊢
  have hl : lv_has ls 4 [(0, .ref mo), (1, .int x)] := hl
  refine lv_iconst (v := 0) hx hb dX13_weighed_0 (by decide) ?_
  refine lv_istore_n (lv' := [(2, .int 0), (0, .ref mo), (1, .int x)]) hx hb dX13_weighed_1 rfl hl (by decide) rfl (fun ls hl => ?_)
  refine lv_iconst (v := 0) hx hb dX13_weighed_2 (by decide) ?_
  refine lv_istore_n (lv' := [(3, .int 0), (2, .int 0), (0, .ref mo), (1, .int x)]) hx hb dX13_weighed_3 rfl hl (by decide) rfl (fun ls hl => ?_)
  refine lv_iload_n hx hb dX13_weighed_4 rfl (lv_at hl 0 rfl) ?_
  refine lv_aload_n hx hb dX13_weighed_5 rfl (lv_at hl 2 rfl) ?_
  refine va_get (D := gD G) (ci := 14) (v := .int 0) (C := RX13) (T := TX13) (N := 72) hx hb hts (fun _ h9 => (List.mem_cons_of_mem _ (List.mem_append_right _ (List.mem_append_left _ h9)))) hown hK hP 0 rfl rfl 2 (by decide) (hts (.fieldLink RX13 176 "JudoHallModel" "fighters" "I") (List.mem_cons_of_mem _ (List.mem_append_left _ (List.mem_of_getElem? (i := 0) rfl)))) (fun _ h9 => h9) rfl dX13_weighed_6 ?_
  refine lv_icmp_ge (tgt := 46) hx hb dX13_weighed_9 (by decide) (fun _ => ?_) (fun c9 => absurd (by decide) c9)
  refine lv_iload_n hx hb dX13_weighed_46 rfl (lv_at hl 1 rfl) ?_
  exact W.iret (v := 0) hx hb hr (fun t ht hW => ⟨_, rfl, rfl, ht⟩) (fun q h => absurd h List.not_mem_nil) dX13_weighed_47

def wo_m_fault : List Cond := [.fieldLink RX13 118 "JudoHallModel" "faultAt" "I", .fieldLink RX13 262 "JudoHallModel" "fault" "I"]
def wq_m_fault : List Cond := .code yX13_fault cX13_fault 2 (some .int) :: (wo_m_fault ++ (wsX130 ++ []))
theorem gd_m_fault : ∀ w ∈ wq_m_fault, Gd w := List.forall_mem_cons.mpr ⟨Or.inl rfl, List.forall_mem_append.mpr ⟨gdl wo_m_fault (by decide +kernel), (List.forall_mem_append.mpr ⟨gd_wsX130, (fun _ h => absurd h List.not_mem_nil)⟩)⟩⟩
theorem in_m_fault : ∀ w ∈ wq_m_fault, w ∈ lw_tbl := List.forall_mem_cons.mpr ⟨List.mem_of_getElem? (i := 2169) (by decide +kernel), List.forall_mem_append.mpr ⟨inT wo_m_fault [1668, 1667] (by decide +kernel), (List.forall_mem_append.mpr ⟨in_wsX130, (fun _ h => absurd h List.not_mem_nil)⟩)⟩⟩
set_option maxHeartbeats 4000000 in
set_option maxRecDepth 100000 in
theorem m_fault (l : Launch) (G : gG) (mo : Nat) (Q : Nat → Nat) (x : Int32) : Met l yX13_fault wq_m_fault ({ frames := 0, cells := 0, slots := 0, locals := 0 }) (va_Pc [.ref mo, .int x] (pP G [(mo, .inr (14, [.ref (Q 0), .ref (Q 1), .int 0, .int 0, .int 10, .ref (Q 5), .ref (Q 6), .ref (Q 7), .ref (Q 8), .ref (Q 9), .ref (Q 10), .ref (Q 11), .ref (Q 12), .ref (Q 13), .ref (Q 14), .ref (Q 15), .ref (Q 16), .ref (Q 17), .ref (Q 18), .ref (Q 19), .ref (Q 20), .ref (Q 21), .ref (Q 22), .ref (Q 23), .ref (Q 24), .ref (Q 25), .ref (Q 26), .int 0, .int 0, .int 0, .int 0, .int 0, .ref (Q 32), .ref (Q 33), .ref (Q 34), .ref (Q 35), .ref (Q 36), .ref (Q 37), .ref (Q 38), .ref (Q 39), .ref (Q 40), .ref (Q 40), .int 0, .int 0, .int 0, .int 0, .int 0, .int 0, .int 0, .int 0, .int (-1), .int 0, .ref (Q 52), .int 0, .ref (Q 54), .int 0, .ref (Q 56), .ref (Q 57), .ref (Q 58), .ref (Q 59), .ref (Q 60), .ref (Q 61), .ref (Q 62), .ref (Q 63), .ref (Q 64), .ref (Q 65), .ref (Q 66), .ref (Q 67), .ref (Q 68), .int 0, .ref (Q 70), .ref (Q 71)]))])) (vp_Si (fun r : Int32 => r = if x = 0 then 0 else (-1))) 0 0 (fun _ => False) := by
  refine Met.ofW (cc := cX13_fault) (maxL := 2) (ret := (some .int)) (by decide) rfl ?_
  intro p e s m args below meth c s₁ B hml hv
  obtain ⟨rfl, hP, hB⟩ := hv
  have hx := B.exec
  have hb := B.bytes
  have hr := B.returns
  have hts := atoms_spec (ws := wq_m_fault) B.pre
  have hown : s.vm.findClass RX13 = some m.cls := findClass_of_methodNamed B.named
  have hlocks := B.notSynchronized
  have hK := hB.1
  have hP : va_P (gD G) vwCl [(mo, .inr (14, [.ref (Q 0), .ref (Q 1), .int 0, .int 0, .int 10, .ref (Q 5), .ref (Q 6), .ref (Q 7), .ref (Q 8), .ref (Q 9), .ref (Q 10), .ref (Q 11), .ref (Q 12), .ref (Q 13), .ref (Q 14), .ref (Q 15), .ref (Q 16), .ref (Q 17), .ref (Q 18), .ref (Q 19), .ref (Q 20), .ref (Q 21), .ref (Q 22), .ref (Q 23), .ref (Q 24), .ref (Q 25), .ref (Q 26), .int 0, .int 0, .int 0, .int 0, .int 0, .ref (Q 32), .ref (Q 33), .ref (Q 34), .ref (Q 35), .ref (Q 36), .ref (Q 37), .ref (Q 38), .ref (Q 39), .ref (Q 40), .ref (Q 40), .int 0, .int 0, .int 0, .int 0, .int 0, .int 0, .int 0, .int 0, .int (-1), .int 0, .ref (Q 52), .int 0, .ref (Q 54), .int 0, .ref (Q 56), .ref (Q 57), .ref (Q 58), .ref (Q 59), .ref (Q 60), .ref (Q 61), .ref (Q 62), .ref (Q 63), .ref (Q 64), .ref (Q 65), .ref (Q 66), .ref (Q 67), .ref (Q 68), .int 0, .ref (Q 70), .ref (Q 71)]))] s.heap := hP
  have hl := lv_entry ([.ref mo, .int x]) (n := 2) (Nat.le_of_ble_eq_true rfl)
  rw [lg_entry_eq]
  generalize (lg_sl ([.ref mo, .int x]) ++ List.replicate (2 - (lg_sl ([.ref mo, .int x])).length) Slot.unset).toArray = ls at hl ⊢
  have hl : lv_has ls 2 [(0, .ref mo), (1, .int x)] := hl
  refine lv_iload_n hx hb dX13_fault_0 rfl (lv_at hl 1 rfl) ?_
  refine lv_if_ne (tgt := 11) hx hb dX13_fault_1 (by decide) (fun c_1 => ?_) (fun c_1 => ?_)
  · skip
    refine lv_iload_n hx hb dX13_fault_11 rfl (lv_at hl 1 rfl) ?_
    refine lv_iconst (v := 1) hx hb dX13_fault_12 (by decide) ?_
    refine lv_icmp_ne (tgt := 23) hx hb dX13_fault_13 (by decide) (fun c_2 => ?_) (fun c_2 => ?_)
    · skip
      refine lv_iconst (v := (-1)) hx hb dX13_fault_23 (by decide) ?_
      exact W.iret (v := (-1)) hx hb hr (fun t ht hW => ⟨_, rfl, by rw [if_neg (show ¬ (x = 0) from c_1)], ht⟩) (fun q h => absurd h List.not_mem_nil) dX13_fault_24
    · skip
      refine lv_aload_n hx hb dX13_fault_16 rfl (lv_at hl 0 rfl) ?_
      refine va_get (D := gD G) (ci := 14) (v := .int (-1)) (C := RX13) (T := TX13) (N := 72) hx hb hts (fun _ h9 => (List.mem_cons_of_mem _ (List.mem_append_right _ (List.mem_append_left _ h9)))) hown hK hP 0 rfl rfl 50 (by decide) (hts (.fieldLink RX13 118 "JudoHallModel" "faultAt" "I") (List.mem_cons_of_mem _ (List.mem_append_left _ (List.mem_of_getElem? (i := 0) rfl)))) (fun _ h9 => h9) rfl dX13_fault_17 ?_
      refine lv_goto (tgt := 24) hx hb dX13_fault_20 (by decide) ?_
      exact W.iret (v := (-1)) hx hb hr (fun t ht hW => ⟨_, rfl, by rw [if_neg (show ¬ (x = 0) from c_1)], ht⟩) (fun q h => absurd h List.not_mem_nil) dX13_fault_24
  · skip
    refine lv_aload_n hx hb dX13_fault_4 rfl (lv_at hl 0 rfl) ?_
    refine va_get (D := gD G) (ci := 14) (v := .int 0) (C := RX13) (T := TX13) (N := 72) hx hb hts (fun _ h9 => (List.mem_cons_of_mem _ (List.mem_append_right _ (List.mem_append_left _ h9)))) hown hK hP 0 rfl rfl 49 (by decide) (hts (.fieldLink RX13 262 "JudoHallModel" "fault" "I") (List.mem_cons_of_mem _ (List.mem_append_left _ (List.mem_of_getElem? (i := 1) rfl)))) (fun _ h9 => h9) rfl dX13_fault_5 ?_
    refine lv_goto (tgt := 24) hx hb dX13_fault_8 (by decide) ?_
    exact W.iret (v := 0) hx hb hr (fun t ht hW => ⟨_, rfl, by rw [if_pos (show x = 0 from c_1)], ht⟩) (fun q h => absurd h List.not_mem_nil) dX13_fault_24

def wo_m_weigh : List Cond := [.methodLink RX13 476 yX13_isFighter, .instanceMethod yX13_isFighter, .selects RX13 yX13_isFighter yX13_isFighter, .initialized RX13]
def wq_m_weigh : List Cond := .code yX13_weigh cX13_weigh 3 (some .int) :: (wo_m_weigh ++ (wq_c_m_isFighter ++ []))
theorem gd_m_weigh : ∀ w ∈ wq_m_weigh, Gd w := List.forall_mem_cons.mpr ⟨Or.inl rfl, List.forall_mem_append.mpr ⟨gdl wo_m_weigh (by decide +kernel), (List.forall_mem_append.mpr ⟨gd_c_m_isFighter, (fun _ h => absurd h List.not_mem_nil)⟩)⟩⟩
theorem in_m_weigh : ∀ w ∈ wq_m_weigh, w ∈ lw_tbl := List.forall_mem_cons.mpr ⟨List.mem_of_getElem? (i := 2187) (by decide +kernel), List.forall_mem_append.mpr ⟨inT wo_m_weigh [2188, 2190, 138, 171] (by decide +kernel), (List.forall_mem_append.mpr ⟨in_c_m_isFighter, (fun _ h => absurd h List.not_mem_nil)⟩)⟩⟩
set_option maxHeartbeats 4000000 in
set_option maxRecDepth 100000 in
theorem m_weigh (l : Launch) (G : gG) (mo : Nat) (Q : Nat → Nat) (x : Int32) (y : Int32) : Met l yX13_weigh wq_m_weigh ({ frames := 2, cells := 0, slots := 0, locals := 46 }) (va_Pc [.ref mo, .int x, .int y] (pP G [(mo, .inr (14, [.ref (Q 0), .ref (Q 1), .int 0, .int 0, .int 10, .ref (Q 5), .ref (Q 6), .ref (Q 7), .ref (Q 8), .ref (Q 9), .ref (Q 10), .ref (Q 11), .ref (Q 12), .ref (Q 13), .ref (Q 14), .ref (Q 15), .ref (Q 16), .ref (Q 17), .ref (Q 18), .ref (Q 19), .ref (Q 20), .ref (Q 21), .ref (Q 22), .ref (Q 23), .ref (Q 24), .ref (Q 25), .ref (Q 26), .int 0, .int 0, .int 0, .int 0, .int 0, .ref (Q 32), .ref (Q 33), .ref (Q 34), .ref (Q 35), .ref (Q 36), .ref (Q 37), .ref (Q 38), .ref (Q 39), .ref (Q 40), .ref (Q 40), .int 0, .int 0, .int 0, .int 0, .int 0, .int 0, .int 0, .int 0, .int (-1), .int 0, .ref (Q 52), .int 0, .ref (Q 54), .int 0, .ref (Q 56), .ref (Q 57), .ref (Q 58), .ref (Q 59), .ref (Q 60), .ref (Q 61), .ref (Q 62), .ref (Q 63), .ref (Q 64), .ref (Q 65), .ref (Q 66), .ref (Q 67), .ref (Q 68), .int 0, .ref (Q 70), .ref (Q 71)])), (Q 12, .inl (gI G, 4, .inl moDr))])) (vp_Si (fun r : Int32 => r = (-2))) 0 0 (fun _ => False) := by
  refine Met.ofW (cc := cX13_weigh) (maxL := 3) (ret := (some .int)) (by decide) rfl ?_
  intro p e s m args below meth c s₁ B hml hv
  obtain ⟨rfl, hP, hB⟩ := hv
  have hx := B.exec
  have hb := B.bytes
  have hr := B.returns
  have hts := atoms_spec (ws := wq_m_weigh) B.pre
  have hown : s.vm.findClass RX13 = some m.cls := findClass_of_methodNamed B.named
  have hlocks := B.notSynchronized
  have hK := hB.1
  have hP : va_P (gD G) vwCl [(mo, .inr (14, [.ref (Q 0), .ref (Q 1), .int 0, .int 0, .int 10, .ref (Q 5), .ref (Q 6), .ref (Q 7), .ref (Q 8), .ref (Q 9), .ref (Q 10), .ref (Q 11), .ref (Q 12), .ref (Q 13), .ref (Q 14), .ref (Q 15), .ref (Q 16), .ref (Q 17), .ref (Q 18), .ref (Q 19), .ref (Q 20), .ref (Q 21), .ref (Q 22), .ref (Q 23), .ref (Q 24), .ref (Q 25), .ref (Q 26), .int 0, .int 0, .int 0, .int 0, .int 0, .ref (Q 32), .ref (Q 33), .ref (Q 34), .ref (Q 35), .ref (Q 36), .ref (Q 37), .ref (Q 38), .ref (Q 39), .ref (Q 40), .ref (Q 40), .int 0, .int 0, .int 0, .int 0, .int 0, .int 0, .int 0, .int 0, .int (-1), .int 0, .ref (Q 52), .int 0, .ref (Q 54), .int 0, .ref (Q 56), .ref (Q 57), .ref (Q 58), .ref (Q 59), .ref (Q 60), .ref (Q 61), .ref (Q 62), .ref (Q 63), .ref (Q 64), .ref (Q 65), .ref (Q 66), .ref (Q 67), .ref (Q 68), .int 0, .ref (Q 70), .ref (Q 71)])), (Q 12, .inl (gI G, 4, .inl moDr))] s.heap := hP
  have hl := lv_entry ([.ref mo, .int x, .int y]) (n := 3) (Nat.le_of_ble_eq_true rfl)
  rw [lg_entry_eq]
  generalize (lg_sl ([.ref mo, .int x, .int y]) ++ List.replicate (3 - (lg_sl ([.ref mo, .int x, .int y])).length) Slot.unset).toArray = ls at hl ⊢
  have hl : lv_has ls 3 [(0, .ref mo), (1, .int x), (2, .int y)] := hl
  refine lv_aload_n hx hb dX13_weigh_0 rfl (lv_at hl 0 rfl) ?_
  refine lv_iload_n hx hb dX13_weigh_1 rfl (lv_at hl 1 rfl) ?_
  refine vp_callSi (va_Run.run (va_runV (As := [.int x]) (rest := []) ⟨hx, hb, hml, hown, hts⟩ (c_m_isFighter l G mo Q x) (cwV 1 hts (gdV (List.mem_cons_of_mem _ (List.mem_append_left _ (List.mem_of_getElem? (i := 0) rfl))) (List.mem_cons_of_mem _ (List.mem_append_left _ (List.mem_of_getElem? (i := 1) rfl))) (List.mem_cons_of_mem _ (List.mem_append_left _ (List.mem_of_getElem? (i := 2) rfl))) (List.mem_cons_of_mem _ (List.mem_append_left _ (List.mem_of_getElem? (i := 3) rfl))) (fun w9 h9 => ⟨(List.mem_cons_of_mem _ (List.mem_append_right _ (List.mem_append_left _ h9))), gd_c_m_isFighter w9 h9⟩)) rfl rfl rfl kVX13_isFighter ⟨Nat.le_of_ble_eq_true rfl, Nat.le_of_ble_eq_true rfl⟩) (preV_p (As := [.int x]) (hP.sub (ws' := [(mo, .inr (14, [.ref (Q 0), .ref (Q 1), .int 0, .int 0, .int 10, .ref (Q 5), .ref (Q 6), .ref (Q 7), .ref (Q 8), .ref (Q 9), .ref (Q 10), .ref (Q 11), .ref (Q 12), .ref (Q 13), .ref (Q 14), .ref (Q 15), .ref (Q 16), .ref (Q 17), .ref (Q 18), .ref (Q 19), .ref (Q 20), .ref (Q 21), .ref (Q 22), .ref (Q 23), .ref (Q 24), .ref (Q 25), .ref (Q 26), .int 0, .int 0, .int 0, .int 0, .int 0, .ref (Q 32), .ref (Q 33), .ref (Q 34), .ref (Q 35), .ref (Q 36), .ref (Q 37), .ref (Q 38), .ref (Q 39), .ref (Q 40), .ref (Q 40), .int 0, .int 0, .int 0, .int 0, .int 0, .int 0, .int 0, .int 0, .int (-1), .int 0, .ref (Q 52), .int 0, .ref (Q 54), .int 0, .ref (Q 56), .ref (Q 57), .ref (Q 58), .ref (Q 59), .ref (Q 60), .ref (Q 61), .ref (Q 62), .ref (Q 63), .ref (Q 64), .ref (Q 65), .ref (Q 66), .ref (Q 67), .ref (Q 68), .int 0, .ref (Q 70), .ref (Q 71)]))]) [0] rfl) hB rfl rfl) rfl rfl hl.1 rfl (lv_room (Nat.le_of_ble_eq_true rfl)) dX13_weigh_2 ⟨Nat.le_of_ble_eq_true rfl, Nat.le_of_ble_eq_true rfl⟩)) (fun r_1 hr_1 => ?_)
  subst hr_1
  refine lv_if_eq (tgt := 20) hx hb dX13_weigh_5 (by decide) (fun _ => ?_) (fun c9 => absurd (by decide) c9)
  refine lv_bipush (v := (-2)) hx hb dX13_weigh_20 (by decide) ?_
  refine lv_goto (tgt := 52) hx hb dX13_weigh_22 (by decide) ?_
  exact W.iret (v := (-2)) hx hb hr (fun t ht hW => ⟨_, rfl, rfl, ht⟩) (fun q h => absurd h List.not_mem_nil) dX13_weigh_52

def wo_m_seed : List Cond := [.methodLink RX13 476 yX13_isFighter, .instanceMethod yX13_isFighter, .selects RX13 yX13_isFighter yX13_isFighter, .initialized RX13]
def wq_m_seed : List Cond := .code yX13_seed cX13_seed 5 (some .int) :: (wo_m_seed ++ (wq_c_m_isFighter ++ []))
theorem gd_m_seed : ∀ w ∈ wq_m_seed, Gd w := List.forall_mem_cons.mpr ⟨Or.inl rfl, List.forall_mem_append.mpr ⟨gdl wo_m_seed (by decide +kernel), (List.forall_mem_append.mpr ⟨gd_c_m_isFighter, (fun _ h => absurd h List.not_mem_nil)⟩)⟩⟩
theorem in_m_seed : ∀ w ∈ wq_m_seed, w ∈ lw_tbl := List.forall_mem_cons.mpr ⟨List.mem_of_getElem? (i := 2195) (by decide +kernel), List.forall_mem_append.mpr ⟨inT wo_m_seed [2188, 2190, 138, 171] (by decide +kernel), (List.forall_mem_append.mpr ⟨in_c_m_isFighter, (fun _ h => absurd h List.not_mem_nil)⟩)⟩⟩
set_option maxHeartbeats 4000000 in
set_option maxRecDepth 100000 in
theorem m_seed (l : Launch) (G : gG) (mo : Nat) (Q : Nat → Nat) (x : Int32) (y : Int32) : Met l yX13_seed wq_m_seed ({ frames := 2, cells := 0, slots := 0, locals := 46 }) (va_Pc [.ref mo, .int x, .int y] (pP G [(mo, .inr (14, [.ref (Q 0), .ref (Q 1), .int 0, .int 0, .int 10, .ref (Q 5), .ref (Q 6), .ref (Q 7), .ref (Q 8), .ref (Q 9), .ref (Q 10), .ref (Q 11), .ref (Q 12), .ref (Q 13), .ref (Q 14), .ref (Q 15), .ref (Q 16), .ref (Q 17), .ref (Q 18), .ref (Q 19), .ref (Q 20), .ref (Q 21), .ref (Q 22), .ref (Q 23), .ref (Q 24), .ref (Q 25), .ref (Q 26), .int 0, .int 0, .int 0, .int 0, .int 0, .ref (Q 32), .ref (Q 33), .ref (Q 34), .ref (Q 35), .ref (Q 36), .ref (Q 37), .ref (Q 38), .ref (Q 39), .ref (Q 40), .ref (Q 40), .int 0, .int 0, .int 0, .int 0, .int 0, .int 0, .int 0, .int 0, .int (-1), .int 0, .ref (Q 52), .int 0, .ref (Q 54), .int 0, .ref (Q 56), .ref (Q 57), .ref (Q 58), .ref (Q 59), .ref (Q 60), .ref (Q 61), .ref (Q 62), .ref (Q 63), .ref (Q 64), .ref (Q 65), .ref (Q 66), .ref (Q 67), .ref (Q 68), .int 0, .ref (Q 70), .ref (Q 71)])), (Q 12, .inl (gI G, 4, .inl moDr))])) (vp_Si (fun r : Int32 => r = (-2))) 0 0 (fun _ => False) := by
  refine Met.ofW (cc := cX13_seed) (maxL := 5) (ret := (some .int)) (by decide) rfl ?_
  intro p e s m args below meth c s₁ B hml hv
  obtain ⟨rfl, hP, hB⟩ := hv
  have hx := B.exec
  have hb := B.bytes
  have hr := B.returns
  have hts := atoms_spec (ws := wq_m_seed) B.pre
  have hown : s.vm.findClass RX13 = some m.cls := findClass_of_methodNamed B.named
  have hlocks := B.notSynchronized
  have hK := hB.1
  have hP : va_P (gD G) vwCl [(mo, .inr (14, [.ref (Q 0), .ref (Q 1), .int 0, .int 0, .int 10, .ref (Q 5), .ref (Q 6), .ref (Q 7), .ref (Q 8), .ref (Q 9), .ref (Q 10), .ref (Q 11), .ref (Q 12), .ref (Q 13), .ref (Q 14), .ref (Q 15), .ref (Q 16), .ref (Q 17), .ref (Q 18), .ref (Q 19), .ref (Q 20), .ref (Q 21), .ref (Q 22), .ref (Q 23), .ref (Q 24), .ref (Q 25), .ref (Q 26), .int 0, .int 0, .int 0, .int 0, .int 0, .ref (Q 32), .ref (Q 33), .ref (Q 34), .ref (Q 35), .ref (Q 36), .ref (Q 37), .ref (Q 38), .ref (Q 39), .ref (Q 40), .ref (Q 40), .int 0, .int 0, .int 0, .int 0, .int 0, .int 0, .int 0, .int 0, .int (-1), .int 0, .ref (Q 52), .int 0, .ref (Q 54), .int 0, .ref (Q 56), .ref (Q 57), .ref (Q 58), .ref (Q 59), .ref (Q 60), .ref (Q 61), .ref (Q 62), .ref (Q 63), .ref (Q 64), .ref (Q 65), .ref (Q 66), .ref (Q 67), .ref (Q 68), .int 0, .ref (Q 70), .ref (Q 71)])), (Q 12, .inl (gI G, 4, .inl moDr))] s.heap := hP
  have hl := lv_entry ([.ref mo, .int x, .int y]) (n := 5) (Nat.le_of_ble_eq_true rfl)
  rw [lg_entry_eq]
  generalize (lg_sl ([.ref mo, .int x, .int y]) ++ List.replicate (5 - (lg_sl ([.ref mo, .int x, .int y])).length) Slot.unset).toArray = ls at hl ⊢
  have hl : lv_has ls 5 [(0, .ref mo), (1, .int x), (2, .int y)] := hl
  refine lv_aload_n hx hb dX13_seed_0 rfl (lv_at hl 0 rfl) ?_
  refine lv_iload_n hx hb dX13_seed_1 rfl (lv_at hl 1 rfl) ?_
  refine vp_callSi (va_Run.run (va_runV (As := [.int x]) (rest := []) ⟨hx, hb, hml, hown, hts⟩ (c_m_isFighter l G mo Q x) (cwV 1 hts (gdV (List.mem_cons_of_mem _ (List.mem_append_left _ (List.mem_of_getElem? (i := 0) rfl))) (List.mem_cons_of_mem _ (List.mem_append_left _ (List.mem_of_getElem? (i := 1) rfl))) (List.mem_cons_of_mem _ (List.mem_append_left _ (List.mem_of_getElem? (i := 2) rfl))) (List.mem_cons_of_mem _ (List.mem_append_left _ (List.mem_of_getElem? (i := 3) rfl))) (fun w9 h9 => ⟨(List.mem_cons_of_mem _ (List.mem_append_right _ (List.mem_append_left _ h9))), gd_c_m_isFighter w9 h9⟩)) rfl rfl rfl kVX13_isFighter ⟨Nat.le_of_ble_eq_true rfl, Nat.le_of_ble_eq_true rfl⟩) (preV_p (As := [.int x]) (hP.sub (ws' := [(mo, .inr (14, [.ref (Q 0), .ref (Q 1), .int 0, .int 0, .int 10, .ref (Q 5), .ref (Q 6), .ref (Q 7), .ref (Q 8), .ref (Q 9), .ref (Q 10), .ref (Q 11), .ref (Q 12), .ref (Q 13), .ref (Q 14), .ref (Q 15), .ref (Q 16), .ref (Q 17), .ref (Q 18), .ref (Q 19), .ref (Q 20), .ref (Q 21), .ref (Q 22), .ref (Q 23), .ref (Q 24), .ref (Q 25), .ref (Q 26), .int 0, .int 0, .int 0, .int 0, .int 0, .ref (Q 32), .ref (Q 33), .ref (Q 34), .ref (Q 35), .ref (Q 36), .ref (Q 37), .ref (Q 38), .ref (Q 39), .ref (Q 40), .ref (Q 40), .int 0, .int 0, .int 0, .int 0, .int 0, .int 0, .int 0, .int 0, .int (-1), .int 0, .ref (Q 52), .int 0, .ref (Q 54), .int 0, .ref (Q 56), .ref (Q 57), .ref (Q 58), .ref (Q 59), .ref (Q 60), .ref (Q 61), .ref (Q 62), .ref (Q 63), .ref (Q 64), .ref (Q 65), .ref (Q 66), .ref (Q 67), .ref (Q 68), .int 0, .ref (Q 70), .ref (Q 71)]))]) [0] rfl) hB rfl rfl) rfl rfl hl.1 rfl (lv_room (Nat.le_of_ble_eq_true rfl)) dX13_seed_2 ⟨Nat.le_of_ble_eq_true rfl, Nat.le_of_ble_eq_true rfl⟩)) (fun r_1 hr_1 => ?_)
  subst hr_1
  refine lv_if_eq (tgt := 20) hx hb dX13_seed_5 (by decide) (fun _ => ?_) (fun c9 => absurd (by decide) c9)
  refine lv_bipush (v := (-2)) hx hb dX13_seed_20 (by decide) ?_
  exact W.iret (v := (-2)) hx hb hr (fun t ht hW => ⟨_, rfl, rfl, ht⟩) (fun q h => absurd h List.not_mem_nil) dX13_seed_22

def wo_m_draw : List Cond := [.methodLink RX13 214 yX13_isClass, .static yX13_isClass, .initialized RX13, .fieldLink RX13 37 "JudoHallModel" "drawn" "[I", .methodLink RX13 481 yX13_weighed, .instanceMethod yX13_weighed, .selects RX13 yX13_weighed yX13_weighed, .constantLong RX13 484 (2), .constantLong RX13 486 (32), .methodLink RX13 203 yX13_in, .static yX13_in]
def wq_m_draw : List Cond := .code yX13_draw cX13_draw 2 (some .int) :: (wo_m_draw ++ (wq_c_m_isClass ++ (wsX130 ++ (wq_c_m_weighed ++ (wq_c_in_0_2_32 ++ [])))))
theorem gd_m_draw : ∀ w ∈ wq_m_draw, Gd w := List.forall_mem_cons.mpr ⟨Or.inl rfl, List.forall_mem_append.mpr ⟨gdl wo_m_draw (by decide +kernel), (List.forall_mem_append.mpr ⟨gd_c_m_isClass, (List.forall_mem_append.mpr ⟨gd_wsX130, (List.forall_mem_append.mpr ⟨gd_c_m_weighed, (List.forall_mem_append.mpr ⟨gd_c_in_0_2_32, (fun _ h => absurd h List.not_mem_nil)⟩)⟩)⟩)⟩)⟩⟩
theorem in_m_draw : ∀ w ∈ wq_m_draw, w ∈ lw_tbl := List.forall_mem_cons.mpr ⟨List.mem_of_getElem? (i := 2200) (by decide +kernel), List.forall_mem_append.mpr ⟨inT wo_m_draw [2174, 2175, 171, 1630, 2030, 2032, 108, 2201, 2202, 2023, 2024] (by decide +kernel), (List.forall_mem_append.mpr ⟨in_c_m_isClass, (List.forall_mem_append.mpr ⟨in_wsX130, (List.forall_mem_append.mpr ⟨in_c_m_weighed, (List.forall_mem_append.mpr ⟨in_c_in_0_2_32, (fun _ h => absurd h List.not_mem_nil)⟩)⟩)⟩)⟩)⟩⟩
set_option maxHeartbeats 4000000 in
set_option maxRecDepth 100000 in
theorem m_draw (l : Launch) (G : gG) (mo : Nat) (Q : Nat → Nat) (x : Int32) : Met l yX13_draw wq_m_draw ({ frames := 2, cells := 0, slots := 0, locals := 45 }) (va_Pc [.ref mo, .int x] (pP G [(mo, .inr (14, [.ref (Q 0), .ref (Q 1), .int 0, .int 0, .int 10, .ref (Q 5), .ref (Q 6), .ref (Q 7), .ref (Q 8), .ref (Q 9), .ref (Q 10), .ref (Q 11), .ref (Q 12), .ref (Q 13), .ref (Q 14), .ref (Q 15), .ref (Q 16), .ref (Q 17), .ref (Q 18), .ref (Q 19), .ref (Q 20), .ref (Q 21), .ref (Q 22), .ref (Q 23), .ref (Q 24), .ref (Q 25), .ref (Q 26), .int 0, .int 0, .int 0, .int 0, .int 0, .ref (Q 32), .ref (Q 33), .ref (Q 34), .ref (Q 35), .ref (Q 36), .ref (Q 37), .ref (Q 38), .ref (Q 39), .ref (Q 40), .ref (Q 40), .int 0, .int 0, .int 0, .int 0, .int 0, .int 0, .int 0, .int 0, .int (-1), .int 0, .ref (Q 52), .int 0, .ref (Q 54), .int 0, .ref (Q 56), .ref (Q 57), .ref (Q 58), .ref (Q 59), .ref (Q 60), .ref (Q 61), .ref (Q 62), .ref (Q 63), .ref (Q 64), .ref (Q 65), .ref (Q 66), .ref (Q 67), .ref (Q 68), .int 0, .ref (Q 70), .ref (Q 71)])), (Q 12, .inl (gI G, 4, .inl moDr))])) (vp_Si (fun r : Int32 => r = if x < 0 ∨ 4 ≤ x then (-2) else (-1))) 0 0 (fun _ => False) := by
  refine Met.ofW (cc := cX13_draw) (maxL := 2) (ret := (some .int)) (by decide) rfl ?_
  intro p e s m args below meth c s₁ B hml hv
  obtain ⟨rfl, hP, hB⟩ := hv
  have hx := B.exec
  have hb := B.bytes
  have hr := B.returns
  have hts := atoms_spec (ws := wq_m_draw) B.pre
  have hown : s.vm.findClass RX13 = some m.cls := findClass_of_methodNamed B.named
  have hlocks := B.notSynchronized
  have hK := hB.1
  have hP : va_P (gD G) vwCl [(mo, .inr (14, [.ref (Q 0), .ref (Q 1), .int 0, .int 0, .int 10, .ref (Q 5), .ref (Q 6), .ref (Q 7), .ref (Q 8), .ref (Q 9), .ref (Q 10), .ref (Q 11), .ref (Q 12), .ref (Q 13), .ref (Q 14), .ref (Q 15), .ref (Q 16), .ref (Q 17), .ref (Q 18), .ref (Q 19), .ref (Q 20), .ref (Q 21), .ref (Q 22), .ref (Q 23), .ref (Q 24), .ref (Q 25), .ref (Q 26), .int 0, .int 0, .int 0, .int 0, .int 0, .ref (Q 32), .ref (Q 33), .ref (Q 34), .ref (Q 35), .ref (Q 36), .ref (Q 37), .ref (Q 38), .ref (Q 39), .ref (Q 40), .ref (Q 40), .int 0, .int 0, .int 0, .int 0, .int 0, .int 0, .int 0, .int 0, .int (-1), .int 0, .ref (Q 52), .int 0, .ref (Q 54), .int 0, .ref (Q 56), .ref (Q 57), .ref (Q 58), .ref (Q 59), .ref (Q 60), .ref (Q 61), .ref (Q 62), .ref (Q 63), .ref (Q 64), .ref (Q 65), .ref (Q 66), .ref (Q 67), .ref (Q 68), .int 0, .ref (Q 70), .ref (Q 71)])), (Q 12, .inl (gI G, 4, .inl moDr))] s.heap := hP
  have hl := lv_entry ([.ref mo, .int x]) (n := 2) (Nat.le_of_ble_eq_true rfl)
  rw [lg_entry_eq]
  generalize (lg_sl ([.ref mo, .int x]) ++ List.replicate (2 - (lg_sl ([.ref mo, .int x])).length) Slot.unset).toArray = ls at hl ⊢
  have hl : lv_has ls 2 [(0, .ref mo), (1, .int x)] := hl
  refine lv_iload_n hx hb dX13_draw_0 rfl (lv_at hl 1 rfl) ?_
  refine vp_callSi (va_Run.run (va_runS (As := [.int x]) (rest := []) ⟨hx, hb, hml, hown, hts⟩ (c_m_isClass l G x) (va_cwS 1 hts (gdS (List.mem_cons_of_mem _ (List.mem_append_left _ (List.mem_of_getElem? (i := 0) rfl))) (List.mem_cons_of_mem _ (List.mem_append_left _ (List.mem_of_getElem? (i := 1) rfl))) (List.mem_cons_of_mem _ (List.mem_append_left _ (List.mem_of_getElem? (i := 2) rfl))) (fun w9 h9 => ⟨(List.mem_cons_of_mem _ (List.mem_append_right _ (List.mem_append_left _ h9))), gd_c_m_isClass w9 h9⟩)) rfl rfl rfl kSX13_isClass ⟨Nat.le_of_ble_eq_true rfl, Nat.le_of_ble_eq_true rfl⟩) (preS_p (As := [.int x]) (hP.sub (ws' := []) [] rfl) hB) rfl rfl hl.1 rfl (lv_room (Nat.le_of_ble_eq_true rfl)) dX13_draw_1 ⟨Nat.le_of_ble_eq_true rfl, Nat.le_of_ble_eq_true rfl⟩)) (fun r_1 hr_1 => ?_)
  by_cases c_2 : x < 0
  · have hr_1 : r_1 = 0 := hr_1.trans (by rw [if_pos (show x < 0 ∨ 4 ≤ x from (Or.inl c_2))])
    subst hr_1
    refine lv_if_ne (tgt := 10) hx hb dX13_draw_4 (by decide) (fun c9 => absurd (by decide) c9) (fun _ => ?_)
    refine lv_bipush (v := (-2)) hx hb dX13_draw_7 (by decide) ?_
    exact W.iret (v := (-2)) hx hb hr (fun t ht hW => ⟨_, rfl, by rw [if_pos (show x < 0 ∨ 4 ≤ x from (Or.inl c_2))], ht⟩) (fun q h => absurd h List.not_mem_nil) dX13_draw_9
  by_cases c_3 : 4 ≤ x
  · have hr_1 : r_1 = 0 := hr_1.trans (by rw [if_pos (show x < 0 ∨ 4 ≤ x from (Or.inr c_3))])
    subst hr_1
    refine lv_if_ne (tgt := 10) hx hb dX13_draw_4 (by decide) (fun c9 => absurd (by decide) c9) (fun _ => ?_)
    refine lv_bipush (v := (-2)) hx hb dX13_draw_7 (by decide) ?_
    exact W.iret (v := (-2)) hx hb hr (fun t ht hW => ⟨_, rfl, by rw [if_pos (show x < 0 ∨ 4 ≤ x from (Or.inr c_3))], ht⟩) (fun q h => absurd h List.not_mem_nil) dX13_draw_9
  have hr_1 : r_1 = 1 := hr_1.trans (by rw [if_neg (show ¬ (x < 0 ∨ 4 ≤ x) from (not_or.mpr ⟨c_2, c_3⟩))])
  subst hr_1
  refine lv_if_ne (tgt := 10) hx hb dX13_draw_4 (by decide) (fun _ => ?_) (fun c9 => absurd c9 (by decide))
  refine lv_aload_n hx hb dX13_draw_10 rfl (lv_at hl 0 rfl) ?_
  refine va_get (D := gD G) (ci := 14) (v := .ref (Q 12)) (C := RX13) (T := TX13) (N := 72) hx hb hts (fun _ h9 => (List.mem_cons_of_mem _ (List.mem_append_right _ (List.mem_append_right _ (List.mem_append_left _ h9))))) hown hK hP 0 rfl rfl 12 (by decide) (hts (.fieldLink RX13 37 "JudoHallModel" "drawn" "[I") (List.mem_cons_of_mem _ (List.mem_append_left _ (List.mem_of_getElem? (i := 3) rfl)))) (fun _ h9 => h9) rfl dX13_draw_11 ?_
  refine lv_iload_n hx hb dX13_draw_14 rfl (lv_at hl 1 rfl) ?_
  refine va_iald (D := gD G) hx hb hK hP 1 0 rfl rfl (gx_ixk (k := 4) (by decide) (by decide) c_2 c_3) dX13_draw_15 ?_
  refine gx_ti (y := 0) (moDr_at _) ?_
  refine lv_if_eq (tgt := 24) hx hb dX13_draw_16 (by decide) (fun _ => ?_) (fun c9 => absurd (by decide) c9)
  refine lv_aload_n hx hb dX13_draw_24 rfl (lv_at hl 0 rfl) ?_
  refine lv_iload_n hx hb dX13_draw_25 rfl (lv_at hl 1 rfl) ?_
  refine vp_callSi (va_Run.run (va_runV (As := [.int x]) (rest := []) ⟨hx, hb, hml, hown, hts⟩ (c_m_weighed l G mo Q x) (cwV 1 hts (gdV (List.mem_cons_of_mem _ (List.mem_append_left _ (List.mem_of_getElem? (i := 4) rfl))) (List.mem_cons_of_mem _ (List.mem_append_left _ (List.mem_of_getElem? (i := 5) rfl))) (List.mem_cons_of_mem _ (List.mem_append_left _ (List.mem_of_getElem? (i := 6) rfl))) (List.mem_cons_of_mem _ (List.mem_append_left _ (List.mem_of_getElem? (i := 2) rfl))) (fun w9 h9 => ⟨(List.mem_cons_of_mem _ (List.mem_append_right _ (List.mem_append_right _ (List.mem_append_right _ (List.mem_append_left _ h9))))), gd_c_m_weighed w9 h9⟩)) rfl rfl rfl kVX13_weighed ⟨Nat.le_of_ble_eq_true rfl, Nat.le_of_ble_eq_true rfl⟩) (preV_p (As := [.int x]) (hP.sub (ws' := [(mo, .inr (14, [.ref (Q 0), .ref (Q 1), .int 0, .int 0, .int 10, .ref (Q 5), .ref (Q 6), .ref (Q 7), .ref (Q 8), .ref (Q 9), .ref (Q 10), .ref (Q 11), .ref (Q 12), .ref (Q 13), .ref (Q 14), .ref (Q 15), .ref (Q 16), .ref (Q 17), .ref (Q 18), .ref (Q 19), .ref (Q 20), .ref (Q 21), .ref (Q 22), .ref (Q 23), .ref (Q 24), .ref (Q 25), .ref (Q 26), .int 0, .int 0, .int 0, .int 0, .int 0, .ref (Q 32), .ref (Q 33), .ref (Q 34), .ref (Q 35), .ref (Q 36), .ref (Q 37), .ref (Q 38), .ref (Q 39), .ref (Q 40), .ref (Q 40), .int 0, .int 0, .int 0, .int 0, .int 0, .int 0, .int 0, .int 0, .int (-1), .int 0, .ref (Q 52), .int 0, .ref (Q 54), .int 0, .ref (Q 56), .ref (Q 57), .ref (Q 58), .ref (Q 59), .ref (Q 60), .ref (Q 61), .ref (Q 62), .ref (Q 63), .ref (Q 64), .ref (Q 65), .ref (Q 66), .ref (Q 67), .ref (Q 68), .int 0, .ref (Q 70), .ref (Q 71)]))]) [0] rfl) hB rfl rfl) rfl rfl hl.1 rfl (lv_room (Nat.le_of_ble_eq_true rfl)) dX13_draw_26 ⟨Nat.le_of_ble_eq_true rfl, Nat.le_of_ble_eq_true rfl⟩)) (fun r_4 hr_4 => ?_)
  subst hr_4
  refine lv_i2l (v := 0) hx hb dX13_draw_29 (by decide) ?_
  refine lv_ldc2 (v := 2) hx hb hown (hts (.constantLong RX13 484 (2)) (List.mem_cons_of_mem _ (List.mem_append_left _ (List.mem_of_getElem? (i := 7) rfl)))) dX13_draw_30 ?_
  refine lv_ldc2 (v := 32) hx hb hown (hts (.constantLong RX13 486 (32)) (List.mem_cons_of_mem _ (List.mem_append_left _ (List.mem_of_getElem? (i := 8) rfl)))) dX13_draw_33 ?_
  refine vp_callSi (va_Run.run (va_runS (As := [.long 0, .long 2, .long 32]) (rest := []) ⟨hx, hb, hml, hown, hts⟩ (c_in_0_2_32 l G) (va_cwS 3 hts (gdS (List.mem_cons_of_mem _ (List.mem_append_left _ (List.mem_of_getElem? (i := 9) rfl))) (List.mem_cons_of_mem _ (List.mem_append_left _ (List.mem_of_getElem? (i := 10) rfl))) (List.mem_cons_of_mem _ (List.mem_append_left _ (List.mem_of_getElem? (i := 2) rfl))) (fun w9 h9 => ⟨(List.mem_cons_of_mem _ (List.mem_append_right _ (List.mem_append_right _ (List.mem_append_right _ (List.mem_append_right _ (List.mem_append_left _ h9)))))), gd_c_in_0_2_32 w9 h9⟩)) rfl rfl rfl kSX13_in ⟨Nat.le_of_ble_eq_true rfl, Nat.le_of_ble_eq_true rfl⟩) (preS_p (As := [.long 0, .long 2, .long 32]) (hP.sub (ws' := []) [] rfl) hB) rfl rfl hl.1 rfl (lv_room (Nat.le_of_ble_eq_true rfl)) dX13_draw_36 ⟨Nat.le_of_ble_eq_true rfl, Nat.le_of_ble_eq_true rfl⟩)) (fun r_5 hr_5 => ?_)
  subst hr_5
  refine lv_if_ne (tgt := 46) hx hb dX13_draw_39 (by decide) (fun c9 => absurd (by decide) c9) (fun _ => ?_)
  refine lv_iconst (v := (-1)) hx hb dX13_draw_42 (by decide) ?_
  refine lv_goto (tgt := 54) hx hb dX13_draw_43 (by decide) ?_
  exact W.iret (v := (-1)) hx hb hr (fun t ht hW => ⟨_, rfl, by rw [if_neg (show ¬ (x < 0 ∨ 4 ≤ x) from (not_or.mpr ⟨c_2, c_3⟩))], ht⟩) (fun q h => absurd h List.not_mem_nil) dX13_draw_54

def wo_m_fighter : List Cond := [.methodLink RX13 476 yX13_isFighter, .instanceMethod yX13_isFighter, .selects RX13 yX13_isFighter yX13_isFighter, .initialized RX13]
def wq_m_fighter : List Cond := .code yX13_fighter cX13_fighter 3 (some .int) :: (wo_m_fighter ++ (wq_c_m_isFighter ++ []))
theorem gd_m_fighter : ∀ w ∈ wq_m_fighter, Gd w := List.forall_mem_cons.mpr ⟨Or.inl rfl, List.forall_mem_append.mpr ⟨gdl wo_m_fighter (by decide +kernel), (List.forall_mem_append.mpr ⟨gd_c_m_isFighter, (fun _ h => absurd h List.not_mem_nil)⟩)⟩⟩
theorem in_m_fighter : ∀ w ∈ wq_m_fighter, w ∈ lw_tbl := List.forall_mem_cons.mpr ⟨List.mem_of_getElem? (i := 2206) (by decide +kernel), List.forall_mem_append.mpr ⟨inT wo_m_fighter [2188, 2190, 138, 171] (by decide +kernel), (List.forall_mem_append.mpr ⟨in_c_m_isFighter, (fun _ h => absurd h List.not_mem_nil)⟩)⟩⟩
set_option maxHeartbeats 4000000 in
set_option maxRecDepth 100000 in
theorem m_fighter (l : Launch) (G : gG) (mo : Nat) (Q : Nat → Nat) (x : Int32) (y : Int32) : Met l yX13_fighter wq_m_fighter ({ frames := 2, cells := 0, slots := 0, locals := 46 }) (va_Pc [.ref mo, .int x, .int y] (pP G [(mo, .inr (14, [.ref (Q 0), .ref (Q 1), .int 0, .int 0, .int 10, .ref (Q 5), .ref (Q 6), .ref (Q 7), .ref (Q 8), .ref (Q 9), .ref (Q 10), .ref (Q 11), .ref (Q 12), .ref (Q 13), .ref (Q 14), .ref (Q 15), .ref (Q 16), .ref (Q 17), .ref (Q 18), .ref (Q 19), .ref (Q 20), .ref (Q 21), .ref (Q 22), .ref (Q 23), .ref (Q 24), .ref (Q 25), .ref (Q 26), .int 0, .int 0, .int 0, .int 0, .int 0, .ref (Q 32), .ref (Q 33), .ref (Q 34), .ref (Q 35), .ref (Q 36), .ref (Q 37), .ref (Q 38), .ref (Q 39), .ref (Q 40), .ref (Q 40), .int 0, .int 0, .int 0, .int 0, .int 0, .int 0, .int 0, .int 0, .int (-1), .int 0, .ref (Q 52), .int 0, .ref (Q 54), .int 0, .ref (Q 56), .ref (Q 57), .ref (Q 58), .ref (Q 59), .ref (Q 60), .ref (Q 61), .ref (Q 62), .ref (Q 63), .ref (Q 64), .ref (Q 65), .ref (Q 66), .ref (Q 67), .ref (Q 68), .int 0, .ref (Q 70), .ref (Q 71)]))])) (vp_Si (fun r : Int32 => r = (-1))) 0 0 (fun _ => False) := by
  refine Met.ofW (cc := cX13_fighter) (maxL := 3) (ret := (some .int)) (by decide) rfl ?_
  intro p e s m args below meth c s₁ B hml hv
  obtain ⟨rfl, hP, hB⟩ := hv
  have hx := B.exec
  have hb := B.bytes
  have hr := B.returns
  have hts := atoms_spec (ws := wq_m_fighter) B.pre
  have hown : s.vm.findClass RX13 = some m.cls := findClass_of_methodNamed B.named
  have hlocks := B.notSynchronized
  have hK := hB.1
  have hP : va_P (gD G) vwCl [(mo, .inr (14, [.ref (Q 0), .ref (Q 1), .int 0, .int 0, .int 10, .ref (Q 5), .ref (Q 6), .ref (Q 7), .ref (Q 8), .ref (Q 9), .ref (Q 10), .ref (Q 11), .ref (Q 12), .ref (Q 13), .ref (Q 14), .ref (Q 15), .ref (Q 16), .ref (Q 17), .ref (Q 18), .ref (Q 19), .ref (Q 20), .ref (Q 21), .ref (Q 22), .ref (Q 23), .ref (Q 24), .ref (Q 25), .ref (Q 26), .int 0, .int 0, .int 0, .int 0, .int 0, .ref (Q 32), .ref (Q 33), .ref (Q 34), .ref (Q 35), .ref (Q 36), .ref (Q 37), .ref (Q 38), .ref (Q 39), .ref (Q 40), .ref (Q 40), .int 0, .int 0, .int 0, .int 0, .int 0, .int 0, .int 0, .int 0, .int (-1), .int 0, .ref (Q 52), .int 0, .ref (Q 54), .int 0, .ref (Q 56), .ref (Q 57), .ref (Q 58), .ref (Q 59), .ref (Q 60), .ref (Q 61), .ref (Q 62), .ref (Q 63), .ref (Q 64), .ref (Q 65), .ref (Q 66), .ref (Q 67), .ref (Q 68), .int 0, .ref (Q 70), .ref (Q 71)]))] s.heap := hP
  have hl := lv_entry ([.ref mo, .int x, .int y]) (n := 3) (Nat.le_of_ble_eq_true rfl)
  rw [lg_entry_eq]
  generalize (lg_sl ([.ref mo, .int x, .int y]) ++ List.replicate (3 - (lg_sl ([.ref mo, .int x, .int y])).length) Slot.unset).toArray = ls at hl ⊢
  have hl : lv_has ls 3 [(0, .ref mo), (1, .int x), (2, .int y)] := hl
  refine lv_aload_n hx hb dX13_fighter_0 rfl (lv_at hl 0 rfl) ?_
  refine lv_iload_n hx hb dX13_fighter_1 rfl (lv_at hl 1 rfl) ?_
  refine vp_callSi (va_Run.run (va_runV (As := [.int x]) (rest := []) ⟨hx, hb, hml, hown, hts⟩ (c_m_isFighter l G mo Q x) (cwV 1 hts (gdV (List.mem_cons_of_mem _ (List.mem_append_left _ (List.mem_of_getElem? (i := 0) rfl))) (List.mem_cons_of_mem _ (List.mem_append_left _ (List.mem_of_getElem? (i := 1) rfl))) (List.mem_cons_of_mem _ (List.mem_append_left _ (List.mem_of_getElem? (i := 2) rfl))) (List.mem_cons_of_mem _ (List.mem_append_left _ (List.mem_of_getElem? (i := 3) rfl))) (fun w9 h9 => ⟨(List.mem_cons_of_mem _ (List.mem_append_right _ (List.mem_append_left _ h9))), gd_c_m_isFighter w9 h9⟩)) rfl rfl rfl kVX13_isFighter ⟨Nat.le_of_ble_eq_true rfl, Nat.le_of_ble_eq_true rfl⟩) (preV_p (As := [.int x]) (hP.sub (ws' := [(mo, .inr (14, [.ref (Q 0), .ref (Q 1), .int 0, .int 0, .int 10, .ref (Q 5), .ref (Q 6), .ref (Q 7), .ref (Q 8), .ref (Q 9), .ref (Q 10), .ref (Q 11), .ref (Q 12), .ref (Q 13), .ref (Q 14), .ref (Q 15), .ref (Q 16), .ref (Q 17), .ref (Q 18), .ref (Q 19), .ref (Q 20), .ref (Q 21), .ref (Q 22), .ref (Q 23), .ref (Q 24), .ref (Q 25), .ref (Q 26), .int 0, .int 0, .int 0, .int 0, .int 0, .ref (Q 32), .ref (Q 33), .ref (Q 34), .ref (Q 35), .ref (Q 36), .ref (Q 37), .ref (Q 38), .ref (Q 39), .ref (Q 40), .ref (Q 40), .int 0, .int 0, .int 0, .int 0, .int 0, .int 0, .int 0, .int 0, .int (-1), .int 0, .ref (Q 52), .int 0, .ref (Q 54), .int 0, .ref (Q 56), .ref (Q 57), .ref (Q 58), .ref (Q 59), .ref (Q 60), .ref (Q 61), .ref (Q 62), .ref (Q 63), .ref (Q 64), .ref (Q 65), .ref (Q 66), .ref (Q 67), .ref (Q 68), .int 0, .ref (Q 70), .ref (Q 71)]))]) [0] rfl) hB rfl rfl) rfl rfl hl.1 rfl (lv_room (Nat.le_of_ble_eq_true rfl)) dX13_fighter_2 ⟨Nat.le_of_ble_eq_true rfl, Nat.le_of_ble_eq_true rfl⟩)) (fun r_1 hr_1 => ?_)
  subst hr_1
  refine lv_if_ne (tgt := 10) hx hb dX13_fighter_5 (by decide) (fun c9 => absurd (by decide) c9) (fun _ => ?_)
  refine lv_iconst (v := (-1)) hx hb dX13_fighter_8 (by decide) ?_
  exact W.iret (v := (-1)) hx hb hr (fun t ht hW => ⟨_, rfl, rfl, ht⟩) (fun q h => absurd h List.not_mem_nil) dX13_fighter_9

def wo_m_about : List Cond := [.methodLink RX13 214 yX13_isClass, .static yX13_isClass, .initialized RX13, .constantLong RX13 501 (100), .constantLong RX13 503 (99), .fieldLink RX13 37 "JudoHallModel" "drawn" "[I", .methodLink RX13 203 yX13_in, .static yX13_in, .fieldLink RX13 176 "JudoHallModel" "fighters" "I", .methodLink RX13 481 yX13_weighed, .instanceMethod yX13_weighed, .selects RX13 yX13_weighed yX13_weighed, .methodLink RX13 218 yX13_fights, .instanceMethod yX13_fights, .selects RX13 yX13_fights yX13_fights]
def wq_m_about : List Cond := .code yX13_about cX13_about 5 (some .int) :: (wo_m_about ++ (wq_c_m_isClass ++ (wsX130 ++ (wq_c_in_100_99 ++ (wq_c_m_weighed ++ (wq_c_m_fights ++ []))))))
theorem gd_m_about : ∀ w ∈ wq_m_about, Gd w := List.forall_mem_cons.mpr ⟨Or.inl rfl, List.forall_mem_append.mpr ⟨gdl wo_m_about (by decide +kernel), (List.forall_mem_append.mpr ⟨gd_c_m_isClass, (List.forall_mem_append.mpr ⟨gd_wsX130, (List.forall_mem_append.mpr ⟨gd_c_in_100_99, (List.forall_mem_append.mpr ⟨gd_c_m_weighed, (List.forall_mem_append.mpr ⟨gd_c_m_fights, (fun _ h => absurd h List.not_mem_nil)⟩)⟩)⟩)⟩)⟩)⟩⟩
theorem in_m_about : ∀ w ∈ wq_m_about, w ∈ lw_tbl := List.forall_mem_cons.mpr ⟨List.mem_of_getElem? (i := 2210) (by decide +kernel), List.forall_mem_append.mpr ⟨inT wo_m_about [2174, 2175, 171, 2211, 2212, 1630, 2023, 2024, 1620, 2030, 2032, 108, 2034, 2036, 109] (by decide +kernel), (List.forall_mem_append.mpr ⟨in_c_m_isClass, (List.forall_mem_append.mpr ⟨in_wsX130, (List.forall_mem_append.mpr ⟨in_c_in_100_99, (List.forall_mem_append.mpr ⟨in_c_m_weighed, (List.forall_mem_append.mpr ⟨in_c_m_fights, (fun _ h => absurd h List.not_mem_nil)⟩)⟩)⟩)⟩)⟩)⟩⟩
set_option maxHeartbeats 4000000 in
set_option maxRecDepth 100000 in
theorem m_about (l : Launch) (G : gG) (mo : Nat) (Q : Nat → Nat) (x : Int32) (y : Int32) : Met l yX13_about wq_m_about ({ frames := 2, cells := 0, slots := 0, locals := 45 }) (va_Pc [.ref mo, .int x, .int y] (pP G [(mo, .inr (14, [.ref (Q 0), .ref (Q 1), .int 0, .int 0, .int 10, .ref (Q 5), .ref (Q 6), .ref (Q 7), .ref (Q 8), .ref (Q 9), .ref (Q 10), .ref (Q 11), .ref (Q 12), .ref (Q 13), .ref (Q 14), .ref (Q 15), .ref (Q 16), .ref (Q 17), .ref (Q 18), .ref (Q 19), .ref (Q 20), .ref (Q 21), .ref (Q 22), .ref (Q 23), .ref (Q 24), .ref (Q 25), .ref (Q 26), .int 0, .int 0, .int 0, .int 0, .int 0, .ref (Q 32), .ref (Q 33), .ref (Q 34), .ref (Q 35), .ref (Q 36), .ref (Q 37), .ref (Q 38), .ref (Q 39), .ref (Q 40), .ref (Q 40), .int 0, .int 0, .int 0, .int 0, .int 0, .int 0, .int 0, .int 0, .int (-1), .int 0, .ref (Q 52), .int 0, .ref (Q 54), .int 0, .ref (Q 56), .ref (Q 57), .ref (Q 58), .ref (Q 59), .ref (Q 60), .ref (Q 61), .ref (Q 62), .ref (Q 63), .ref (Q 64), .ref (Q 65), .ref (Q 66), .ref (Q 67), .ref (Q 68), .int 0, .ref (Q 70), .ref (Q 71)])), (Q 12, .inl (gI G, 4, .inl moDr)), (Q 13, .inl (gI G, 4, .inl (fun _ => 0)))])) (vp_Si (fun r : Int32 => r = if x < 0 ∨ 4 ≤ x ∨ y < 0 ∨ 7 ≤ y ∨ y = 3 then (-1) else 0)) 0 0 (fun _ => False) := by
  refine Met.ofW (cc := cX13_about) (maxL := 5) (ret := (some .int)) (by decide) rfl ?_
  intro p e s m args below meth c s₁ B hml hv
  obtain ⟨rfl, hP, hB⟩ := hv
  have hx := B.exec
  have hb := B.bytes
  have hr := B.returns
  have hts := atoms_spec (ws := wq_m_about) B.pre
  have hown : s.vm.findClass RX13 = some m.cls := findClass_of_methodNamed B.named
  have hlocks := B.notSynchronized
  have hK := hB.1
  have hP : va_P (gD G) vwCl [(mo, .inr (14, [.ref (Q 0), .ref (Q 1), .int 0, .int 0, .int 10, .ref (Q 5), .ref (Q 6), .ref (Q 7), .ref (Q 8), .ref (Q 9), .ref (Q 10), .ref (Q 11), .ref (Q 12), .ref (Q 13), .ref (Q 14), .ref (Q 15), .ref (Q 16), .ref (Q 17), .ref (Q 18), .ref (Q 19), .ref (Q 20), .ref (Q 21), .ref (Q 22), .ref (Q 23), .ref (Q 24), .ref (Q 25), .ref (Q 26), .int 0, .int 0, .int 0, .int 0, .int 0, .ref (Q 32), .ref (Q 33), .ref (Q 34), .ref (Q 35), .ref (Q 36), .ref (Q 37), .ref (Q 38), .ref (Q 39), .ref (Q 40), .ref (Q 40), .int 0, .int 0, .int 0, .int 0, .int 0, .int 0, .int 0, .int 0, .int (-1), .int 0, .ref (Q 52), .int 0, .ref (Q 54), .int 0, .ref (Q 56), .ref (Q 57), .ref (Q 58), .ref (Q 59), .ref (Q 60), .ref (Q 61), .ref (Q 62), .ref (Q 63), .ref (Q 64), .ref (Q 65), .ref (Q 66), .ref (Q 67), .ref (Q 68), .int 0, .ref (Q 70), .ref (Q 71)])), (Q 12, .inl (gI G, 4, .inl moDr)), (Q 13, .inl (gI G, 4, .inl (fun _ => 0)))] s.heap := hP
  have hl := lv_entry ([.ref mo, .int x, .int y]) (n := 5) (Nat.le_of_ble_eq_true rfl)
  rw [lg_entry_eq]
  generalize (lg_sl ([.ref mo, .int x, .int y]) ++ List.replicate (5 - (lg_sl ([.ref mo, .int x, .int y])).length) Slot.unset).toArray = ls at hl ⊢
  have hl : lv_has ls 5 [(0, .ref mo), (1, .int x), (2, .int y)] := hl
  refine lv_iload_n hx hb dX13_about_0 rfl (lv_at hl 1 rfl) ?_
  refine vp_callSi (va_Run.run (va_runS (As := [.int x]) (rest := []) ⟨hx, hb, hml, hown, hts⟩ (c_m_isClass l G x) (va_cwS 1 hts (gdS (List.mem_cons_of_mem _ (List.mem_append_left _ (List.mem_of_getElem? (i := 0) rfl))) (List.mem_cons_of_mem _ (List.mem_append_left _ (List.mem_of_getElem? (i := 1) rfl))) (List.mem_cons_of_mem _ (List.mem_append_left _ (List.mem_of_getElem? (i := 2) rfl))) (fun w9 h9 => ⟨(List.mem_cons_of_mem _ (List.mem_append_right _ (List.mem_append_left _ h9))), gd_c_m_isClass w9 h9⟩)) rfl rfl rfl kSX13_isClass ⟨Nat.le_of_ble_eq_true rfl, Nat.le_of_ble_eq_true rfl⟩) (preS_p (As := [.int x]) (hP.sub (ws' := []) [] rfl) hB) rfl rfl hl.1 rfl (lv_room (Nat.le_of_ble_eq_true rfl)) dX13_about_1 ⟨Nat.le_of_ble_eq_true rfl, Nat.le_of_ble_eq_true rfl⟩)) (fun r_1 hr_1 => ?_)
  by_cases c_2 : x < 0
  · have hr_1 : r_1 = 0 := hr_1.trans (by rw [if_pos (show x < 0 ∨ 4 ≤ x from (Or.inl c_2))])
    subst hr_1
    refine lv_if_ne (tgt := 9) hx hb dX13_about_4 (by decide) (fun c9 => absurd (by decide) c9) (fun _ => ?_)
    refine lv_iconst (v := (-1)) hx hb dX13_about_7 (by decide) ?_
    exact W.iret (v := (-1)) hx hb hr (fun t ht hW => ⟨_, rfl, by rw [if_pos (show x < 0 ∨ 4 ≤ x ∨ y < 0 ∨ 7 ≤ y ∨ y = 3 from (Or.inl c_2))], ht⟩) (fun q h => absurd h List.not_mem_nil) dX13_about_8
  by_cases c_3 : 4 ≤ x
  · have hr_1 : r_1 = 0 := hr_1.trans (by rw [if_pos (show x < 0 ∨ 4 ≤ x from (Or.inr c_3))])
    subst hr_1
    refine lv_if_ne (tgt := 9) hx hb dX13_about_4 (by decide) (fun c9 => absurd (by decide) c9) (fun _ => ?_)
    refine lv_iconst (v := (-1)) hx hb dX13_about_7 (by decide) ?_
    exact W.iret (v := (-1)) hx hb hr (fun t ht hW => ⟨_, rfl, by rw [if_pos (show x < 0 ∨ 4 ≤ x ∨ y < 0 ∨ 7 ≤ y ∨ y = 3 from (Or.inr (Or.inl c_3)))], ht⟩) (fun q h => absurd h List.not_mem_nil) dX13_about_8
  have hr_1 : r_1 = 1 := hr_1.trans (by rw [if_neg (show ¬ (x < 0 ∨ 4 ≤ x) from (not_or.mpr ⟨c_2, c_3⟩))])
  subst hr_1
  refine lv_if_ne (tgt := 9) hx hb dX13_about_4 (by decide) (fun _ => ?_) (fun c9 => absurd c9 (by decide))
  refine lv_iload_n hx hb dX13_about_9 rfl (lv_at hl 2 rfl) ?_
  refine lv_i2l (v := y.toInt64) hx hb dX13_about_10 rfl ?_
  refine lv_ldc2 (v := 100) hx hb hown (hts (.constantLong RX13 501 (100)) (List.mem_cons_of_mem _ (List.mem_append_left _ (List.mem_of_getElem? (i := 3) rfl)))) dX13_about_11 ?_
  refine lv_ldc2 (v := 99) hx hb hown (hts (.constantLong RX13 503 (99)) (List.mem_cons_of_mem _ (List.mem_append_left _ (List.mem_of_getElem? (i := 4) rfl)))) dX13_about_14 ?_
  refine lv_aload_n hx hb dX13_about_17 rfl (lv_at hl 0 rfl) ?_
  refine va_get (D := gD G) (ci := 14) (v := .ref (Q 12)) (C := RX13) (T := TX13) (N := 72) hx hb hts (fun _ h9 => (List.mem_cons_of_mem _ (List.mem_append_right _ (List.mem_append_right _ (List.mem_append_left _ h9))))) hown hK hP 0 rfl rfl 12 (by decide) (hts (.fieldLink RX13 37 "JudoHallModel" "drawn" "[I") (List.mem_cons_of_mem _ (List.mem_append_left _ (List.mem_of_getElem? (i := 5) rfl)))) (fun _ h9 => h9) rfl dX13_about_18 ?_
  refine lv_iload_n hx hb dX13_about_21 rfl (lv_at hl 1 rfl) ?_
  refine va_iald (D := gD G) hx hb hK hP 1 0 rfl rfl (gx_ixk (k := 4) (by decide) (by decide) c_2 c_3) dX13_about_22 ?_
  refine gx_ti (y := 0) (moDr_at _) ?_
  refine lv_if_ne (tgt := 30) hx hb dX13_about_23 (by decide) (fun c9 => absurd (by decide) c9) (fun _ => ?_)
  refine lv_iconst (v := 0) hx hb dX13_about_26 (by decide) ?_
  refine lv_goto (tgt := 36) hx hb dX13_about_27 (by decide) ?_
  refine lv_i2l (v := 0) hx hb dX13_about_36 (by decide) ?_
  refine lv_ladd hx hb dX13_about_37 ?_
  refine gx_tl (y := 99) (by decide) ?_
  refine vp_callSi (va_Run.run (va_runS (As := [.long y.toInt64, .long 100, .long 99]) (rest := []) ⟨hx, hb, hml, hown, hts⟩ (c_in_100_99 l G y) (va_cwS 3 hts (gdS (List.mem_cons_of_mem _ (List.mem_append_left _ (List.mem_of_getElem? (i := 6) rfl))) (List.mem_cons_of_mem _ (List.mem_append_left _ (List.mem_of_getElem? (i := 7) rfl))) (List.mem_cons_of_mem _ (List.mem_append_left _ (List.mem_of_getElem? (i := 2) rfl))) (fun w9 h9 => ⟨(List.mem_cons_of_mem _ (List.mem_append_right _ (List.mem_append_right _ (List.mem_append_right _ (List.mem_append_left _ h9))))), gd_c_in_100_99 w9 h9⟩)) rfl rfl rfl kSX13_in ⟨Nat.le_of_ble_eq_true rfl, Nat.le_of_ble_eq_true rfl⟩) (preS_p (As := [.long y.toInt64, .long 100, .long 99]) (hP.sub (ws' := []) [] rfl) hB) rfl rfl hl.1 rfl (lv_room (Nat.le_of_ble_eq_true rfl)) dX13_about_38 ⟨Nat.le_of_ble_eq_true rfl, Nat.le_of_ble_eq_true rfl⟩)) (fun r_4 hr_4 => ?_)
  subst hr_4
  refine lv_if_eq (tgt := 59) hx hb dX13_about_41 (by decide) (fun _ => ?_) (fun c9 => absurd (by decide) c9)
  refine lv_iconst (v := 0) hx hb dX13_about_59 (by decide) ?_
  refine lv_istore_n (lv' := [(3, .int 0), (0, .ref mo), (1, .int x), (2, .int y)]) hx hb dX13_about_60 rfl hl (by decide) rfl (fun ls hl => ?_)
  refine lv_iload_n hx hb dX13_about_61 rfl (lv_at hl 3 rfl) ?_
  by_cases c_5 : y < 0
  · refine lv_tableOut (tgt := 266) hx hb dX13_about_62 (Or.inl (gx_n0 c_5)) (by decide) ?_
    refine lv_iconst (v := (-1)) hx hb dX13_about_266 (by decide) ?_
    exact W.iret (v := (-1)) hx hb hr (fun t ht hW => ⟨_, rfl, by rw [if_pos (show x < 0 ∨ 4 ≤ x ∨ y < 0 ∨ 7 ≤ y ∨ y = 3 from (Or.inr (Or.inr (Or.inl c_5))))], ht⟩) (fun q h => absurd h List.not_mem_nil) dX13_about_267
  by_cases c_6 : 7 ≤ y
  · refine lv_tableOut (tgt := 266) hx hb dX13_about_62 (Or.inr (gx_nh (k := 7) (by decide) c_6)) (by decide) ?_
    refine lv_iconst (v := (-1)) hx hb dX13_about_266 (by decide) ?_
    exact W.iret (v := (-1)) hx hb hr (fun t ht hW => ⟨_, rfl, by rw [if_pos (show x < 0 ∨ 4 ≤ x ∨ y < 0 ∨ 7 ≤ y ∨ y = 3 from (Or.inr (Or.inr (Or.inr (Or.inl c_6)))))], ht⟩) (fun q h => absurd h List.not_mem_nil) dX13_about_267
  rcases gx_c7 c_5 c_6 with c_7 | c_8 | c_9 | c_10 | c_11 | c_12 | c_13
  · refine lv_tableIn (off := 42) (tgt := 104) hx hb dX13_about_62 (by rw [c_7]; decide) (by rw [c_7]; decide) (by rw [c_7]; rfl) (by decide) ?_
    refine lv_iconst (v := 0) hx hb dX13_about_104 (by decide) ?_
    refine lv_istore (lv' := [(4, .int 0), (3, .int 0), (0, .ref mo), (1, .int x), (2, .int y)]) hx hb dX13_about_105 hl (by decide) rfl (fun ls hl => ?_)
    refine lv_iload hx hb dX13_about_107 (lv_at hl 0 rfl) ?_
    refine lv_aload_n hx hb dX13_about_109 rfl (lv_at hl 2 rfl) ?_
    refine va_get (D := gD G) (ci := 14) (v := .int 0) (C := RX13) (T := TX13) (N := 72) hx hb hts (fun _ h9 => (List.mem_cons_of_mem _ (List.mem_append_right _ (List.mem_append_right _ (List.mem_append_left _ h9))))) hown hK hP 0 rfl rfl 2 (by decide) (hts (.fieldLink RX13 176 "JudoHallModel" "fighters" "I") (List.mem_cons_of_mem _ (List.mem_append_left _ (List.mem_of_getElem? (i := 8) rfl)))) (fun _ h9 => h9) rfl dX13_about_110 ?_
    refine lv_icmp_ge (tgt := 141) hx hb dX13_about_113 (by decide) (fun _ => ?_) (fun c9 => absurd (by decide) c9)
    refine lv_iload_n hx hb dX13_about_141 rfl (lv_at hl 1 rfl) ?_
    exact W.iret (v := 0) hx hb hr (fun t ht hW => ⟨_, rfl, by rw [if_neg (show ¬ (x < 0 ∨ 4 ≤ x ∨ y < 0 ∨ 7 ≤ y ∨ y = 3) from (not_or.mpr ⟨c_2, (not_or.mpr ⟨c_3, (not_or.mpr ⟨c_5, (not_or.mpr ⟨c_6, (by rw [c_7]; decide)⟩)⟩)⟩)⟩))], ht⟩) (fun q h => absurd h List.not_mem_nil) dX13_about_142
  · refine lv_tableIn (off := 81) (tgt := 143) hx hb dX13_about_62 (by rw [c_8]; decide) (by rw [c_8]; decide) (by rw [c_8]; rfl) (by decide) ?_
    refine lv_aload_n hx hb dX13_about_143 rfl (lv_at hl 1 rfl) ?_
    refine lv_iload_n hx hb dX13_about_144 rfl (lv_at hl 2 rfl) ?_
    refine vp_callSi (va_Run.run (va_runV (As := [.int x]) (rest := []) ⟨hx, hb, hml, hown, hts⟩ (c_m_weighed l G mo Q x) (cwV 1 hts (gdV (List.mem_cons_of_mem _ (List.mem_append_left _ (List.mem_of_getElem? (i := 9) rfl))) (List.mem_cons_of_mem _ (List.mem_append_left _ (List.mem_of_getElem? (i := 10) rfl))) (List.mem_cons_of_mem _ (List.mem_append_left _ (List.mem_of_getElem? (i := 11) rfl))) (List.mem_cons_of_mem _ (List.mem_append_left _ (List.mem_of_getElem? (i := 2) rfl))) (fun w9 h9 => ⟨(List.mem_cons_of_mem _ (List.mem_append_right _ (List.mem_append_right _ (List.mem_append_right _ (List.mem_append_right _ (List.mem_append_left _ h9)))))), gd_c_m_weighed w9 h9⟩)) rfl rfl rfl kVX13_weighed ⟨Nat.le_of_ble_eq_true rfl, Nat.le_of_ble_eq_true rfl⟩) (preV_p (As := [.int x]) (hP.sub (ws' := [(mo, .inr (14, [.ref (Q 0), .ref (Q 1), .int 0, .int 0, .int 10, .ref (Q 5), .ref (Q 6), .ref (Q 7), .ref (Q 8), .ref (Q 9), .ref (Q 10), .ref (Q 11), .ref (Q 12), .ref (Q 13), .ref (Q 14), .ref (Q 15), .ref (Q 16), .ref (Q 17), .ref (Q 18), .ref (Q 19), .ref (Q 20), .ref (Q 21), .ref (Q 22), .ref (Q 23), .ref (Q 24), .ref (Q 25), .ref (Q 26), .int 0, .int 0, .int 0, .int 0, .int 0, .ref (Q 32), .ref (Q 33), .ref (Q 34), .ref (Q 35), .ref (Q 36), .ref (Q 37), .ref (Q 38), .ref (Q 39), .ref (Q 40), .ref (Q 40), .int 0, .int 0, .int 0, .int 0, .int 0, .int 0, .int 0, .int 0, .int (-1), .int 0, .ref (Q 52), .int 0, .ref (Q 54), .int 0, .ref (Q 56), .ref (Q 57), .ref (Q 58), .ref (Q 59), .ref (Q 60), .ref (Q 61), .ref (Q 62), .ref (Q 63), .ref (Q 64), .ref (Q 65), .ref (Q 66), .ref (Q 67), .ref (Q 68), .int 0, .ref (Q 70), .ref (Q 71)]))]) [0] rfl) hB rfl rfl) rfl rfl hl.1 rfl (lv_room (Nat.le_of_ble_eq_true rfl)) dX13_about_145 ⟨Nat.le_of_ble_eq_true rfl, Nat.le_of_ble_eq_true rfl⟩)) (fun r_14 hr_14 => ?_)
    subst hr_14
    exact W.iret (v := 0) hx hb hr (fun t ht hW => ⟨_, rfl, by rw [if_neg (show ¬ (x < 0 ∨ 4 ≤ x ∨ y < 0 ∨ 7 ≤ y ∨ y = 3) from (not_or.mpr ⟨c_2, (not_or.mpr ⟨c_3, (not_or.mpr ⟨c_5, (not_or.mpr ⟨c_6, (by rw [c_8]; decide)⟩)⟩)⟩)⟩))], ht⟩) (fun q h => absurd h List.not_mem_nil) dX13_about_148
  · refine lv_tableIn (off := 87) (tgt := 149) hx hb dX13_about_62 (by rw [c_9]; decide) (by rw [c_9]; decide) (by rw [c_9]; rfl) (by decide) ?_
    refine lv_aload_n hx hb dX13_about_149 rfl (lv_at hl 1 rfl) ?_
    refine va_get (D := gD G) (ci := 14) (v := .ref (Q 12)) (C := RX13) (T := TX13) (N := 72) hx hb hts (fun _ h9 => (List.mem_cons_of_mem _ (List.mem_append_right _ (List.mem_append_right _ (List.mem_append_left _ h9))))) hown hK hP 0 rfl rfl 12 (by decide) (hts (.fieldLink RX13 37 "JudoHallModel" "drawn" "[I") (List.mem_cons_of_mem _ (List.mem_append_left _ (List.mem_of_getElem? (i := 5) rfl)))) (fun _ h9 => h9) rfl dX13_about_150 ?_
    refine lv_iload_n hx hb dX13_about_153 rfl (lv_at hl 2 rfl) ?_
    refine va_iald (D := gD G) hx hb hK hP 1 0 rfl rfl (gx_ixk (k := 4) (by decide) (by decide) c_2 c_3) dX13_about_154 ?_
    refine gx_ti (y := 0) (moDr_at _) ?_
    exact W.iret (v := 0) hx hb hr (fun t ht hW => ⟨_, rfl, by rw [if_neg (show ¬ (x < 0 ∨ 4 ≤ x ∨ y < 0 ∨ 7 ≤ y ∨ y = 3) from (not_or.mpr ⟨c_2, (not_or.mpr ⟨c_3, (not_or.mpr ⟨c_5, (not_or.mpr ⟨c_6, (by rw [c_9]; decide)⟩)⟩)⟩)⟩))], ht⟩) (fun q h => absurd h List.not_mem_nil) dX13_about_155
  · refine lv_tableIn (off := 94) (tgt := 156) hx hb dX13_about_62 (by rw [c_10]; decide) (by rw [c_10]; decide) (by rw [c_10]; rfl) (by decide) ?_
    refine lv_aload_n hx hb dX13_about_156 rfl (lv_at hl 1 rfl) ?_
    refine va_get (D := gD G) (ci := 14) (v := .ref (Q 12)) (C := RX13) (T := TX13) (N := 72) hx hb hts (fun _ h9 => (List.mem_cons_of_mem _ (List.mem_append_right _ (List.mem_append_right _ (List.mem_append_left _ h9))))) hown hK hP 0 rfl rfl 12 (by decide) (hts (.fieldLink RX13 37 "JudoHallModel" "drawn" "[I") (List.mem_cons_of_mem _ (List.mem_append_left _ (List.mem_of_getElem? (i := 5) rfl)))) (fun _ h9 => h9) rfl dX13_about_157 ?_
    refine lv_iload_n hx hb dX13_about_160 rfl (lv_at hl 2 rfl) ?_
    refine va_iald (D := gD G) hx hb hK hP 1 0 rfl rfl (gx_ixk (k := 4) (by decide) (by decide) c_2 c_3) dX13_about_161 ?_
    refine gx_ti (y := 0) (moDr_at _) ?_
    refine lv_if_ne (tgt := 169) hx hb dX13_about_162 (by decide) (fun c9 => absurd (by decide) c9) (fun _ => ?_)
    refine lv_iconst (v := (-1)) hx hb dX13_about_165 (by decide) ?_
    refine lv_goto (tgt := 175) hx hb dX13_about_166 (by decide) ?_
    exact W.iret (v := (-1)) hx hb hr (fun t ht hW => ⟨_, rfl, by rw [if_pos (show x < 0 ∨ 4 ≤ x ∨ y < 0 ∨ 7 ≤ y ∨ y = 3 from (Or.inr (Or.inr (Or.inr (Or.inr c_10)))))], ht⟩) (fun q h => absurd h List.not_mem_nil) dX13_about_175
  · refine lv_tableIn (off := 114) (tgt := 176) hx hb dX13_about_62 (by rw [c_11]; decide) (by rw [c_11]; decide) (by rw [c_11]; rfl) (by decide) ?_
    refine lv_aload_n hx hb dX13_about_176 rfl (lv_at hl 1 rfl) ?_
    refine lv_iload_n hx hb dX13_about_177 rfl (lv_at hl 2 rfl) ?_
    refine vp_callSi (va_Run.run (va_runV (As := [.int x]) (rest := []) ⟨hx, hb, hml, hown, hts⟩ (c_m_fights l G mo Q x (c_2) (c_3)) (cwV 1 hts (gdV (List.mem_cons_of_mem _ (List.mem_append_left _ (List.mem_of_getElem? (i := 12) rfl))) (List.mem_cons_of_mem _ (List.mem_append_left _ (List.mem_of_getElem? (i := 13) rfl))) (List.mem_cons_of_mem _ (List.mem_append_left _ (List.mem_of_getElem? (i := 14) rfl))) (List.mem_cons_of_mem _ (List.mem_append_left _ (List.mem_of_getElem? (i := 2) rfl))) (fun w9 h9 => ⟨(List.mem_cons_of_mem _ (List.mem_append_right _ (List.mem_append_right _ (List.mem_append_right _ (List.mem_append_right _ (List.mem_append_right _ (List.mem_append_left _ h9))))))), gd_c_m_fights w9 h9⟩)) rfl rfl rfl kVX13_fights ⟨Nat.le_of_ble_eq_true rfl, Nat.le_of_ble_eq_true rfl⟩) (preV_p (As := [.int x]) (hP.sub (ws' := [(mo, .inr (14, [.ref (Q 0), .ref (Q 1), .int 0, .int 0, .int 10, .ref (Q 5), .ref (Q 6), .ref (Q 7), .ref (Q 8), .ref (Q 9), .ref (Q 10), .ref (Q 11), .ref (Q 12), .ref (Q 13), .ref (Q 14), .ref (Q 15), .ref (Q 16), .ref (Q 17), .ref (Q 18), .ref (Q 19), .ref (Q 20), .ref (Q 21), .ref (Q 22), .ref (Q 23), .ref (Q 24), .ref (Q 25), .ref (Q 26), .int 0, .int 0, .int 0, .int 0, .int 0, .ref (Q 32), .ref (Q 33), .ref (Q 34), .ref (Q 35), .ref (Q 36), .ref (Q 37), .ref (Q 38), .ref (Q 39), .ref (Q 40), .ref (Q 40), .int 0, .int 0, .int 0, .int 0, .int 0, .int 0, .int 0, .int 0, .int (-1), .int 0, .ref (Q 52), .int 0, .ref (Q 54), .int 0, .ref (Q 56), .ref (Q 57), .ref (Q 58), .ref (Q 59), .ref (Q 60), .ref (Q 61), .ref (Q 62), .ref (Q 63), .ref (Q 64), .ref (Q 65), .ref (Q 66), .ref (Q 67), .ref (Q 68), .int 0, .ref (Q 70), .ref (Q 71)])), (Q 12, .inl (gI G, 4, .inl moDr)), (Q 13, .inl (gI G, 4, .inl (fun _ => 0)))]) [0, 1, 2] rfl) hB rfl rfl) rfl rfl hl.1 rfl (lv_room (Nat.le_of_ble_eq_true rfl)) dX13_about_178 ⟨Nat.le_of_ble_eq_true rfl, Nat.le_of_ble_eq_true rfl⟩)) (fun r_15 hr_15 => ?_)
    subst hr_15
    exact W.iret (v := 0) hx hb hr (fun t ht hW => ⟨_, rfl, by rw [if_neg (show ¬ (x < 0 ∨ 4 ≤ x ∨ y < 0 ∨ 7 ≤ y ∨ y = 3) from (not_or.mpr ⟨c_2, (not_or.mpr ⟨c_3, (not_or.mpr ⟨c_5, (not_or.mpr ⟨c_6, (by rw [c_11]; decide)⟩)⟩)⟩)⟩))], ht⟩) (fun q h => absurd h List.not_mem_nil) dX13_about_181
  · refine lv_tableIn (off := 120) (tgt := 182) hx hb dX13_about_62 (by rw [c_12]; decide) (by rw [c_12]; decide) (by rw [c_12]; rfl) (by decide) ?_
    refine lv_iconst (v := 0) hx hb dX13_about_182 (by decide) ?_
    refine lv_istore (lv' := [(4, .int 0), (3, .int 0), (0, .ref mo), (1, .int x), (2, .int y)]) hx hb dX13_about_183 hl (by decide) rfl (fun ls hl => ?_)
    refine lv_iload hx hb dX13_about_185 (lv_at hl 0 rfl) ?_
    refine lv_aload_n hx hb dX13_about_187 rfl (lv_at hl 2 rfl) ?_
    refine lv_iload_n hx hb dX13_about_188 rfl (lv_at hl 3 rfl) ?_
    refine vp_callSi (va_Run.run (va_runV (As := [.int x]) (rest := [.int 0]) ⟨hx, hb, hml, hown, hts⟩ (c_m_fights l G mo Q x (c_2) (c_3)) (cwV 1 hts (gdV (List.mem_cons_of_mem _ (List.mem_append_left _ (List.mem_of_getElem? (i := 12) rfl))) (List.mem_cons_of_mem _ (List.mem_append_left _ (List.mem_of_getElem? (i := 13) rfl))) (List.mem_cons_of_mem _ (List.mem_append_left _ (List.mem_of_getElem? (i := 14) rfl))) (List.mem_cons_of_mem _ (List.mem_append_left _ (List.mem_of_getElem? (i := 2) rfl))) (fun w9 h9 => ⟨(List.mem_cons_of_mem _ (List.mem_append_right _ (List.mem_append_right _ (List.mem_append_right _ (List.mem_append_right _ (List.mem_append_right _ (List.mem_append_left _ h9))))))), gd_c_m_fights w9 h9⟩)) rfl rfl rfl kVX13_fights ⟨Nat.le_of_ble_eq_true rfl, Nat.le_of_ble_eq_true rfl⟩) (preV_p (As := [.int x]) (hP.sub (ws' := [(mo, .inr (14, [.ref (Q 0), .ref (Q 1), .int 0, .int 0, .int 10, .ref (Q 5), .ref (Q 6), .ref (Q 7), .ref (Q 8), .ref (Q 9), .ref (Q 10), .ref (Q 11), .ref (Q 12), .ref (Q 13), .ref (Q 14), .ref (Q 15), .ref (Q 16), .ref (Q 17), .ref (Q 18), .ref (Q 19), .ref (Q 20), .ref (Q 21), .ref (Q 22), .ref (Q 23), .ref (Q 24), .ref (Q 25), .ref (Q 26), .int 0, .int 0, .int 0, .int 0, .int 0, .ref (Q 32), .ref (Q 33), .ref (Q 34), .ref (Q 35), .ref (Q 36), .ref (Q 37), .ref (Q 38), .ref (Q 39), .ref (Q 40), .ref (Q 40), .int 0, .int 0, .int 0, .int 0, .int 0, .int 0, .int 0, .int 0, .int (-1), .int 0, .ref (Q 52), .int 0, .ref (Q 54), .int 0, .ref (Q 56), .ref (Q 57), .ref (Q 58), .ref (Q 59), .ref (Q 60), .ref (Q 61), .ref (Q 62), .ref (Q 63), .ref (Q 64), .ref (Q 65), .ref (Q 66), .ref (Q 67), .ref (Q 68), .int 0, .ref (Q 70), .ref (Q 71)])), (Q 12, .inl (gI G, 4, .inl moDr)), (Q 13, .inl (gI G, 4, .inl (fun _ => 0)))]) [0, 1, 2] rfl) hB rfl rfl) rfl rfl hl.1 rfl (lv_room (Nat.le_of_ble_eq_true rfl)) dX13_about_189 ⟨Nat.le_of_ble_eq_true rfl, Nat.le_of_ble_eq_true rfl⟩)) (fun r_16 hr_16 => ?_)
    subst hr_16
    refine lv_icmp_ge (tgt := 225) hx hb dX13_about_192 (by decide) (fun _ => ?_) (fun c9 => absurd (by decide) c9)
    refine lv_iload_n hx hb dX13_about_225 rfl (lv_at hl 1 rfl) ?_
    exact W.iret (v := 0) hx hb hr (fun t ht hW => ⟨_, rfl, by rw [if_neg (show ¬ (x < 0 ∨ 4 ≤ x ∨ y < 0 ∨ 7 ≤ y ∨ y = 3) from (not_or.mpr ⟨c_2, (not_or.mpr ⟨c_3, (not_or.mpr ⟨c_5, (not_or.mpr ⟨c_6, (by rw [c_12]; decide)⟩)⟩)⟩)⟩))], ht⟩) (fun q h => absurd h List.not_mem_nil) dX13_about_226
  · refine lv_tableIn (off := 165) (tgt := 227) hx hb dX13_about_62 (by rw [c_13]; decide) (by rw [c_13]; decide) (by rw [c_13]; rfl) (by decide) ?_
    refine lv_iconst (v := 0) hx hb dX13_about_227 (by decide) ?_
    refine lv_istore (lv' := [(4, .int 0), (3, .int 0), (0, .ref mo), (1, .int x), (2, .int y)]) hx hb dX13_about_228 hl (by decide) rfl (fun ls hl => ?_)
    refine lv_iload hx hb dX13_about_230 (lv_at hl 0 rfl) ?_
    refine lv_aload_n hx hb dX13_about_232 rfl (lv_at hl 2 rfl) ?_
    refine lv_iload_n hx hb dX13_about_233 rfl (lv_at hl 3 rfl) ?_
    refine vp_callSi (va_Run.run (va_runV (As := [.int x]) (rest := [.int 0]) ⟨hx, hb, hml, hown, hts⟩ (c_m_fights l G mo Q x (c_2) (c_3)) (cwV 1 hts (gdV (List.mem_cons_of_mem _ (List.mem_append_left _ (List.mem_of_getElem? (i := 12) rfl))) (List.mem_cons_of_mem _ (List.mem_append_left _ (List.mem_of_getElem? (i := 13) rfl))) (List.mem_cons_of_mem _ (List.mem_append_left _ (List.mem_of_getElem? (i := 14) rfl))) (List.mem_cons_of_mem _ (List.mem_append_left _ (List.mem_of_getElem? (i := 2) rfl))) (fun w9 h9 => ⟨(List.mem_cons_of_mem _ (List.mem_append_right _ (List.mem_append_right _ (List.mem_append_right _ (List.mem_append_right _ (List.mem_append_right _ (List.mem_append_left _ h9))))))), gd_c_m_fights w9 h9⟩)) rfl rfl rfl kVX13_fights ⟨Nat.le_of_ble_eq_true rfl, Nat.le_of_ble_eq_true rfl⟩) (preV_p (As := [.int x]) (hP.sub (ws' := [(mo, .inr (14, [.ref (Q 0), .ref (Q 1), .int 0, .int 0, .int 10, .ref (Q 5), .ref (Q 6), .ref (Q 7), .ref (Q 8), .ref (Q 9), .ref (Q 10), .ref (Q 11), .ref (Q 12), .ref (Q 13), .ref (Q 14), .ref (Q 15), .ref (Q 16), .ref (Q 17), .ref (Q 18), .ref (Q 19), .ref (Q 20), .ref (Q 21), .ref (Q 22), .ref (Q 23), .ref (Q 24), .ref (Q 25), .ref (Q 26), .int 0, .int 0, .int 0, .int 0, .int 0, .ref (Q 32), .ref (Q 33), .ref (Q 34), .ref (Q 35), .ref (Q 36), .ref (Q 37), .ref (Q 38), .ref (Q 39), .ref (Q 40), .ref (Q 40), .int 0, .int 0, .int 0, .int 0, .int 0, .int 0, .int 0, .int 0, .int (-1), .int 0, .ref (Q 52), .int 0, .ref (Q 54), .int 0, .ref (Q 56), .ref (Q 57), .ref (Q 58), .ref (Q 59), .ref (Q 60), .ref (Q 61), .ref (Q 62), .ref (Q 63), .ref (Q 64), .ref (Q 65), .ref (Q 66), .ref (Q 67), .ref (Q 68), .int 0, .ref (Q 70), .ref (Q 71)])), (Q 12, .inl (gI G, 4, .inl moDr)), (Q 13, .inl (gI G, 4, .inl (fun _ => 0)))]) [0, 1, 2] rfl) hB rfl rfl) rfl rfl hl.1 rfl (lv_room (Nat.le_of_ble_eq_true rfl)) dX13_about_234 ⟨Nat.le_of_ble_eq_true rfl, Nat.le_of_ble_eq_true rfl⟩)) (fun r_17 hr_17 => ?_)
    subst hr_17
    refine lv_icmp_ge (tgt := 264) hx hb dX13_about_237 (by decide) (fun _ => ?_) (fun c9 => absurd (by decide) c9)
    refine lv_iload_n hx hb dX13_about_264 rfl (lv_at hl 1 rfl) ?_
    exact W.iret (v := 0) hx hb hr (fun t ht hW => ⟨_, rfl, by rw [if_neg (show ¬ (x < 0 ∨ 4 ≤ x ∨ y < 0 ∨ 7 ≤ y ∨ y = 3) from (not_or.mpr ⟨c_2, (not_or.mpr ⟨c_3, (not_or.mpr ⟨c_5, (not_or.mpr ⟨c_6, (by rw [c_13]; decide)⟩)⟩)⟩)⟩))], ht⟩) (fun q h => absurd h List.not_mem_nil) dX13_about_265

def wo_m_fight : List Cond := [.methodLink RX13 508 yX13_isFight, .instanceMethod yX13_isFight, .selects RX13 yX13_isFight yX13_isFight, .initialized RX13]
def wq_m_fight : List Cond := .code yX13_fight cX13_fight 6 (some .int) :: (wo_m_fight ++ (wq_c_m_isFight ++ []))
theorem gd_m_fight : ∀ w ∈ wq_m_fight, Gd w := List.forall_mem_cons.mpr ⟨Or.inl rfl, List.forall_mem_append.mpr ⟨gdl wo_m_fight (by decide +kernel), (List.forall_mem_append.mpr ⟨gd_c_m_isFight, (fun _ h => absurd h List.not_mem_nil)⟩)⟩⟩
theorem in_m_fight : ∀ w ∈ wq_m_fight, w ∈ lw_tbl := List.forall_mem_cons.mpr ⟨List.mem_of_getElem? (i := 2220) (by decide +kernel), List.forall_mem_append.mpr ⟨inT wo_m_fight [2221, 2223, 140, 171] (by decide +kernel), (List.forall_mem_append.mpr ⟨in_c_m_isFight, (fun _ h => absurd h List.not_mem_nil)⟩)⟩⟩
set_option maxHeartbeats 4000000 in
set_option maxRecDepth 100000 in
theorem m_fight (l : Launch) (G : gG) (mo : Nat) (Q : Nat → Nat) (x : Int32) (y : Int32) (z : Int32) : Met l yX13_fight wq_m_fight ({ frames := 3, cells := 0, slots := 0, locals := 67 }) (va_Pc [.ref mo, .int x, .int y, .int z] (pP G [(mo, .inr (14, [.ref (Q 0), .ref (Q 1), .int 0, .int 0, .int 10, .ref (Q 5), .ref (Q 6), .ref (Q 7), .ref (Q 8), .ref (Q 9), .ref (Q 10), .ref (Q 11), .ref (Q 12), .ref (Q 13), .ref (Q 14), .ref (Q 15), .ref (Q 16), .ref (Q 17), .ref (Q 18), .ref (Q 19), .ref (Q 20), .ref (Q 21), .ref (Q 22), .ref (Q 23), .ref (Q 24), .ref (Q 25), .ref (Q 26), .int 0, .int 0, .int 0, .int 0, .int 0, .ref (Q 32), .ref (Q 33), .ref (Q 34), .ref (Q 35), .ref (Q 36), .ref (Q 37), .ref (Q 38), .ref (Q 39), .ref (Q 40), .ref (Q 40), .int 0, .int 0, .int 0, .int 0, .int 0, .int 0, .int 0, .int 0, .int (-1), .int 0, .ref (Q 52), .int 0, .ref (Q 54), .int 0, .ref (Q 56), .ref (Q 57), .ref (Q 58), .ref (Q 59), .ref (Q 60), .ref (Q 61), .ref (Q 62), .ref (Q 63), .ref (Q 64), .ref (Q 65), .ref (Q 66), .ref (Q 67), .ref (Q 68), .int 0, .ref (Q 70), .ref (Q 71)])), (Q 12, .inl (gI G, 4, .inl moDr)), (Q 13, .inl (gI G, 4, .inl (fun _ => 0)))])) (vp_Si (fun r : Int32 => r = (-1))) 0 0 (fun _ => False) := by
  refine Met.ofW (cc := cX13_fight) (maxL := 6) (ret := (some .int)) (by decide) rfl ?_
  intro p e s m args below meth c s₁ B hml hv
  obtain ⟨rfl, hP, hB⟩ := hv
  have hx := B.exec
  have hb := B.bytes
  have hr := B.returns
  have hts := atoms_spec (ws := wq_m_fight) B.pre
  have hown : s.vm.findClass RX13 = some m.cls := findClass_of_methodNamed B.named
  have hlocks := B.notSynchronized
  have hK := hB.1
  have hP : va_P (gD G) vwCl [(mo, .inr (14, [.ref (Q 0), .ref (Q 1), .int 0, .int 0, .int 10, .ref (Q 5), .ref (Q 6), .ref (Q 7), .ref (Q 8), .ref (Q 9), .ref (Q 10), .ref (Q 11), .ref (Q 12), .ref (Q 13), .ref (Q 14), .ref (Q 15), .ref (Q 16), .ref (Q 17), .ref (Q 18), .ref (Q 19), .ref (Q 20), .ref (Q 21), .ref (Q 22), .ref (Q 23), .ref (Q 24), .ref (Q 25), .ref (Q 26), .int 0, .int 0, .int 0, .int 0, .int 0, .ref (Q 32), .ref (Q 33), .ref (Q 34), .ref (Q 35), .ref (Q 36), .ref (Q 37), .ref (Q 38), .ref (Q 39), .ref (Q 40), .ref (Q 40), .int 0, .int 0, .int 0, .int 0, .int 0, .int 0, .int 0, .int 0, .int (-1), .int 0, .ref (Q 52), .int 0, .ref (Q 54), .int 0, .ref (Q 56), .ref (Q 57), .ref (Q 58), .ref (Q 59), .ref (Q 60), .ref (Q 61), .ref (Q 62), .ref (Q 63), .ref (Q 64), .ref (Q 65), .ref (Q 66), .ref (Q 67), .ref (Q 68), .int 0, .ref (Q 70), .ref (Q 71)])), (Q 12, .inl (gI G, 4, .inl moDr)), (Q 13, .inl (gI G, 4, .inl (fun _ => 0)))] s.heap := hP
  have hl := lv_entry ([.ref mo, .int x, .int y, .int z]) (n := 6) (Nat.le_of_ble_eq_true rfl)
  rw [lg_entry_eq]
  generalize (lg_sl ([.ref mo, .int x, .int y, .int z]) ++ List.replicate (6 - (lg_sl ([.ref mo, .int x, .int y, .int z])).length) Slot.unset).toArray = ls at hl ⊢
  have hl : lv_has ls 6 [(0, .ref mo), (1, .int x), (2, .int y), (3, .int z)] := hl
  refine lv_aload_n hx hb dX13_fight_0 rfl (lv_at hl 0 rfl) ?_
  refine lv_iload_n hx hb dX13_fight_1 rfl (lv_at hl 1 rfl) ?_
  refine lv_iload_n hx hb dX13_fight_2 rfl (lv_at hl 2 rfl) ?_
  refine vp_callSi (va_Run.run (va_runV (As := [.int x, .int y]) (rest := []) ⟨hx, hb, hml, hown, hts⟩ (c_m_isFight l G mo Q x y) (cwV 2 hts (gdV (List.mem_cons_of_mem _ (List.mem_append_left _ (List.mem_of_getElem? (i := 0) rfl))) (List.mem_cons_of_mem _ (List.mem_append_left _ (List.mem_of_getElem? (i := 1) rfl))) (List.mem_cons_of_mem _ (List.mem_append_left _ (List.mem_of_getElem? (i := 2) rfl))) (List.mem_cons_of_mem _ (List.mem_append_left _ (List.mem_of_getElem? (i := 3) rfl))) (fun w9 h9 => ⟨(List.mem_cons_of_mem _ (List.mem_append_right _ (List.mem_append_left _ h9))), gd_c_m_isFight w9 h9⟩)) rfl rfl rfl kVX13_isFight ⟨Nat.le_of_ble_eq_true rfl, Nat.le_of_ble_eq_true rfl⟩) (preV_p (As := [.int x, .int y]) (hP.sub (ws' := [(mo, .inr (14, [.ref (Q 0), .ref (Q 1), .int 0, .int 0, .int 10, .ref (Q 5), .ref (Q 6), .ref (Q 7), .ref (Q 8), .ref (Q 9), .ref (Q 10), .ref (Q 11), .ref (Q 12), .ref (Q 13), .ref (Q 14), .ref (Q 15), .ref (Q 16), .ref (Q 17), .ref (Q 18), .ref (Q 19), .ref (Q 20), .ref (Q 21), .ref (Q 22), .ref (Q 23), .ref (Q 24), .ref (Q 25), .ref (Q 26), .int 0, .int 0, .int 0, .int 0, .int 0, .ref (Q 32), .ref (Q 33), .ref (Q 34), .ref (Q 35), .ref (Q 36), .ref (Q 37), .ref (Q 38), .ref (Q 39), .ref (Q 40), .ref (Q 40), .int 0, .int 0, .int 0, .int 0, .int 0, .int 0, .int 0, .int 0, .int (-1), .int 0, .ref (Q 52), .int 0, .ref (Q 54), .int 0, .ref (Q 56), .ref (Q 57), .ref (Q 58), .ref (Q 59), .ref (Q 60), .ref (Q 61), .ref (Q 62), .ref (Q 63), .ref (Q 64), .ref (Q 65), .ref (Q 66), .ref (Q 67), .ref (Q 68), .int 0, .ref (Q 70), .ref (Q 71)])), (Q 12, .inl (gI G, 4, .inl moDr)), (Q 13, .inl (gI G, 4, .inl (fun _ => 0)))]) [0, 1, 2] rfl) hB rfl rfl) rfl rfl hl.1 rfl (lv_room (Nat.le_of_ble_eq_true rfl)) dX13_fight_3 ⟨Nat.le_of_ble_eq_true rfl, Nat.le_of_ble_eq_true rfl⟩)) (fun r_1 hr_1 => ?_)
  subst hr_1
  refine lv_if_ne (tgt := 11) hx hb dX13_fight_6 (by decide) (fun c9 => absurd (by decide) c9) (fun _ => ?_)
  refine lv_iconst (v := (-1)) hx hb dX13_fight_9 (by decide) ?_
  exact W.iret (v := (-1)) hx hb hr (fun t ht hW => ⟨_, rfl, rfl, ht⟩) (fun q h => absurd h List.not_mem_nil) dX13_fight_10

def wo_m_begin : List Cond := [.methodLink RX13 508 yX13_isFight, .instanceMethod yX13_isFight, .selects RX13 yX13_isFight yX13_isFight, .initialized RX13]
def wq_m_begin : List Cond := .code yX13_begin cX13_begin 4 (some .int) :: (wo_m_begin ++ (wq_c_m_isFight ++ []))
theorem gd_m_begin : ∀ w ∈ wq_m_begin, Gd w := List.forall_mem_cons.mpr ⟨Or.inl rfl, List.forall_mem_append.mpr ⟨gdl wo_m_begin (by decide +kernel), (List.forall_mem_append.mpr ⟨gd_c_m_isFight, (fun _ h => absurd h List.not_mem_nil)⟩)⟩⟩
theorem in_m_begin : ∀ w ∈ wq_m_begin, w ∈ lw_tbl := List.forall_mem_cons.mpr ⟨List.mem_of_getElem? (i := 2243) (by decide +kernel), List.forall_mem_append.mpr ⟨inT wo_m_begin [2221, 2223, 140, 171] (by decide +kernel), (List.forall_mem_append.mpr ⟨in_c_m_isFight, (fun _ h => absurd h List.not_mem_nil)⟩)⟩⟩
set_option maxHeartbeats 4000000 in
set_option maxRecDepth 100000 in
theorem m_begin (l : Launch) (G : gG) (mo : Nat) (Q : Nat → Nat) (x : Int32) (y : Int32) (z : Int32) : Met l yX13_begin wq_m_begin ({ frames := 3, cells := 0, slots := 0, locals := 67 }) (va_Pc [.ref mo, .int x, .int y, .int z] (pP G [(mo, .inr (14, [.ref (Q 0), .ref (Q 1), .int 0, .int 0, .int 10, .ref (Q 5), .ref (Q 6), .ref (Q 7), .ref (Q 8), .ref (Q 9), .ref (Q 10), .ref (Q 11), .ref (Q 12), .ref (Q 13), .ref (Q 14), .ref (Q 15), .ref (Q 16), .ref (Q 17), .ref (Q 18), .ref (Q 19), .ref (Q 20), .ref (Q 21), .ref (Q 22), .ref (Q 23), .ref (Q 24), .ref (Q 25), .ref (Q 26), .int 0, .int 0, .int 0, .int 0, .int 0, .ref (Q 32), .ref (Q 33), .ref (Q 34), .ref (Q 35), .ref (Q 36), .ref (Q 37), .ref (Q 38), .ref (Q 39), .ref (Q 40), .ref (Q 40), .int 0, .int 0, .int 0, .int 0, .int 0, .int 0, .int 0, .int 0, .int (-1), .int 0, .ref (Q 52), .int 0, .ref (Q 54), .int 0, .ref (Q 56), .ref (Q 57), .ref (Q 58), .ref (Q 59), .ref (Q 60), .ref (Q 61), .ref (Q 62), .ref (Q 63), .ref (Q 64), .ref (Q 65), .ref (Q 66), .ref (Q 67), .ref (Q 68), .int 0, .ref (Q 70), .ref (Q 71)])), (Q 12, .inl (gI G, 4, .inl moDr)), (Q 13, .inl (gI G, 4, .inl (fun _ => 0)))])) (vp_Si (fun r : Int32 => r = (-2))) 0 0 (fun _ => False) := by
  refine Met.ofW (cc := cX13_begin) (maxL := 4) (ret := (some .int)) (by decide) rfl ?_
  intro p e s m args below meth c s₁ B hml hv
  obtain ⟨rfl, hP, hB⟩ := hv
  have hx := B.exec
  have hb := B.bytes
  have hr := B.returns
  have hts := atoms_spec (ws := wq_m_begin) B.pre
  have hown : s.vm.findClass RX13 = some m.cls := findClass_of_methodNamed B.named
  have hlocks := B.notSynchronized
  have hK := hB.1
  have hP : va_P (gD G) vwCl [(mo, .inr (14, [.ref (Q 0), .ref (Q 1), .int 0, .int 0, .int 10, .ref (Q 5), .ref (Q 6), .ref (Q 7), .ref (Q 8), .ref (Q 9), .ref (Q 10), .ref (Q 11), .ref (Q 12), .ref (Q 13), .ref (Q 14), .ref (Q 15), .ref (Q 16), .ref (Q 17), .ref (Q 18), .ref (Q 19), .ref (Q 20), .ref (Q 21), .ref (Q 22), .ref (Q 23), .ref (Q 24), .ref (Q 25), .ref (Q 26), .int 0, .int 0, .int 0, .int 0, .int 0, .ref (Q 32), .ref (Q 33), .ref (Q 34), .ref (Q 35), .ref (Q 36), .ref (Q 37), .ref (Q 38), .ref (Q 39), .ref (Q 40), .ref (Q 40), .int 0, .int 0, .int 0, .int 0, .int 0, .int 0, .int 0, .int 0, .int (-1), .int 0, .ref (Q 52), .int 0, .ref (Q 54), .int 0, .ref (Q 56), .ref (Q 57), .ref (Q 58), .ref (Q 59), .ref (Q 60), .ref (Q 61), .ref (Q 62), .ref (Q 63), .ref (Q 64), .ref (Q 65), .ref (Q 66), .ref (Q 67), .ref (Q 68), .int 0, .ref (Q 70), .ref (Q 71)])), (Q 12, .inl (gI G, 4, .inl moDr)), (Q 13, .inl (gI G, 4, .inl (fun _ => 0)))] s.heap := hP
  have hl := lv_entry ([.ref mo, .int x, .int y, .int z]) (n := 4) (Nat.le_of_ble_eq_true rfl)
  rw [lg_entry_eq]
  generalize (lg_sl ([.ref mo, .int x, .int y, .int z]) ++ List.replicate (4 - (lg_sl ([.ref mo, .int x, .int y, .int z])).length) Slot.unset).toArray = ls at hl ⊢
  have hl : lv_has ls 4 [(0, .ref mo), (1, .int x), (2, .int y), (3, .int z)] := hl
  refine lv_aload_n hx hb dX13_begin_0 rfl (lv_at hl 0 rfl) ?_
  refine lv_iload_n hx hb dX13_begin_1 rfl (lv_at hl 1 rfl) ?_
  refine lv_iload_n hx hb dX13_begin_2 rfl (lv_at hl 2 rfl) ?_
  refine vp_callSi (va_Run.run (va_runV (As := [.int x, .int y]) (rest := []) ⟨hx, hb, hml, hown, hts⟩ (c_m_isFight l G mo Q x y) (cwV 2 hts (gdV (List.mem_cons_of_mem _ (List.mem_append_left _ (List.mem_of_getElem? (i := 0) rfl))) (List.mem_cons_of_mem _ (List.mem_append_left _ (List.mem_of_getElem? (i := 1) rfl))) (List.mem_cons_of_mem _ (List.mem_append_left _ (List.mem_of_getElem? (i := 2) rfl))) (List.mem_cons_of_mem _ (List.mem_append_left _ (List.mem_of_getElem? (i := 3) rfl))) (fun w9 h9 => ⟨(List.mem_cons_of_mem _ (List.mem_append_right _ (List.mem_append_left _ h9))), gd_c_m_isFight w9 h9⟩)) rfl rfl rfl kVX13_isFight ⟨Nat.le_of_ble_eq_true rfl, Nat.le_of_ble_eq_true rfl⟩) (preV_p (As := [.int x, .int y]) (hP.sub (ws' := [(mo, .inr (14, [.ref (Q 0), .ref (Q 1), .int 0, .int 0, .int 10, .ref (Q 5), .ref (Q 6), .ref (Q 7), .ref (Q 8), .ref (Q 9), .ref (Q 10), .ref (Q 11), .ref (Q 12), .ref (Q 13), .ref (Q 14), .ref (Q 15), .ref (Q 16), .ref (Q 17), .ref (Q 18), .ref (Q 19), .ref (Q 20), .ref (Q 21), .ref (Q 22), .ref (Q 23), .ref (Q 24), .ref (Q 25), .ref (Q 26), .int 0, .int 0, .int 0, .int 0, .int 0, .ref (Q 32), .ref (Q 33), .ref (Q 34), .ref (Q 35), .ref (Q 36), .ref (Q 37), .ref (Q 38), .ref (Q 39), .ref (Q 40), .ref (Q 40), .int 0, .int 0, .int 0, .int 0, .int 0, .int 0, .int 0, .int 0, .int (-1), .int 0, .ref (Q 52), .int 0, .ref (Q 54), .int 0, .ref (Q 56), .ref (Q 57), .ref (Q 58), .ref (Q 59), .ref (Q 60), .ref (Q 61), .ref (Q 62), .ref (Q 63), .ref (Q 64), .ref (Q 65), .ref (Q 66), .ref (Q 67), .ref (Q 68), .int 0, .ref (Q 70), .ref (Q 71)])), (Q 12, .inl (gI G, 4, .inl moDr)), (Q 13, .inl (gI G, 4, .inl (fun _ => 0)))]) [0, 1, 2] rfl) hB rfl rfl) rfl rfl hl.1 rfl (lv_room (Nat.le_of_ble_eq_true rfl)) dX13_begin_3 ⟨Nat.le_of_ble_eq_true rfl, Nat.le_of_ble_eq_true rfl⟩)) (fun r_1 hr_1 => ?_)
  subst hr_1
  refine lv_if_eq (tgt := 16) hx hb dX13_begin_6 (by decide) (fun _ => ?_) (fun c9 => absurd (by decide) c9)
  refine lv_bipush (v := (-2)) hx hb dX13_begin_16 (by decide) ?_
  exact W.iret (v := (-2)) hx hb hr (fun t ht hW => ⟨_, rfl, rfl, ht⟩) (fun q h => absurd h List.not_mem_nil) dX13_begin_18

def wo_m_event : List Cond := [.methodLink RX13 524 yX13_isMat, .static yX13_isMat, .initialized RX13, .methodLink RX13 203 yX13_in, .static yX13_in, .fieldLink RX13 186 "JudoHallModel" "signs" "I"]
def wq_m_event : List Cond := .code yX13_event cX13_event 4 (some .int) :: (wo_m_event ++ (wq_c_m_isMat ++ (wq_c_in_0_1 ++ (wsX130 ++ (wq_c_in_0_m1 ++ [])))))
theorem gd_m_event : ∀ w ∈ wq_m_event, Gd w := List.forall_mem_cons.mpr ⟨Or.inl rfl, List.forall_mem_append.mpr ⟨gdl wo_m_event (by decide +kernel), (List.forall_mem_append.mpr ⟨gd_c_m_isMat, (List.forall_mem_append.mpr ⟨gd_c_in_0_1, (List.forall_mem_append.mpr ⟨gd_wsX130, (List.forall_mem_append.mpr ⟨gd_c_in_0_m1, (fun _ h => absurd h List.not_mem_nil)⟩)⟩)⟩)⟩)⟩⟩
theorem in_m_event : ∀ w ∈ wq_m_event, w ∈ lw_tbl := List.forall_mem_cons.mpr ⟨List.mem_of_getElem? (i := 2254) (by decide +kernel), List.forall_mem_append.mpr ⟨inT wo_m_event [2244, 2245, 171, 2023, 2024, 1647] (by decide +kernel), (List.forall_mem_append.mpr ⟨in_c_m_isMat, (List.forall_mem_append.mpr ⟨in_c_in_0_1, (List.forall_mem_append.mpr ⟨in_wsX130, (List.forall_mem_append.mpr ⟨in_c_in_0_m1, (fun _ h => absurd h List.not_mem_nil)⟩)⟩)⟩)⟩)⟩⟩
set_option maxHeartbeats 4000000 in
set_option maxRecDepth 100000 in
theorem m_event (l : Launch) (G : gG) (mo : Nat) (Q : Nat → Nat) (x : Int32) (y : Int32) (z : Int32) : Met l yX13_event wq_m_event ({ frames := 2, cells := 0, slots := 0, locals := 45 }) (va_Pc [.ref mo, .int x, .int y, .int z] (pP G [(mo, .inr (14, [.ref (Q 0), .ref (Q 1), .int 0, .int 0, .int 10, .ref (Q 5), .ref (Q 6), .ref (Q 7), .ref (Q 8), .ref (Q 9), .ref (Q 10), .ref (Q 11), .ref (Q 12), .ref (Q 13), .ref (Q 14), .ref (Q 15), .ref (Q 16), .ref (Q 17), .ref (Q 18), .ref (Q 19), .ref (Q 20), .ref (Q 21), .ref (Q 22), .ref (Q 23), .ref (Q 24), .ref (Q 25), .ref (Q 26), .int 0, .int 0, .int 0, .int 0, .int 0, .ref (Q 32), .ref (Q 33), .ref (Q 34), .ref (Q 35), .ref (Q 36), .ref (Q 37), .ref (Q 38), .ref (Q 39), .ref (Q 40), .ref (Q 40), .int 0, .int 0, .int 0, .int 0, .int 0, .int 0, .int 0, .int 0, .int (-1), .int 0, .ref (Q 52), .int 0, .ref (Q 54), .int 0, .ref (Q 56), .ref (Q 57), .ref (Q 58), .ref (Q 59), .ref (Q 60), .ref (Q 61), .ref (Q 62), .ref (Q 63), .ref (Q 64), .ref (Q 65), .ref (Q 66), .ref (Q 67), .ref (Q 68), .int 0, .ref (Q 70), .ref (Q 71)]))])) (vp_Si (fun r : Int32 => r = (-2))) 0 0 (fun _ => False) := by
  refine Met.ofW (cc := cX13_event) (maxL := 4) (ret := (some .int)) (by decide) rfl ?_
  intro p e s m args below meth c s₁ B hml hv
  obtain ⟨rfl, hP, hB⟩ := hv
  have hx := B.exec
  have hb := B.bytes
  have hr := B.returns
  have hts := atoms_spec (ws := wq_m_event) B.pre
  have hown : s.vm.findClass RX13 = some m.cls := findClass_of_methodNamed B.named
  have hlocks := B.notSynchronized
  have hK := hB.1
  have hP : va_P (gD G) vwCl [(mo, .inr (14, [.ref (Q 0), .ref (Q 1), .int 0, .int 0, .int 10, .ref (Q 5), .ref (Q 6), .ref (Q 7), .ref (Q 8), .ref (Q 9), .ref (Q 10), .ref (Q 11), .ref (Q 12), .ref (Q 13), .ref (Q 14), .ref (Q 15), .ref (Q 16), .ref (Q 17), .ref (Q 18), .ref (Q 19), .ref (Q 20), .ref (Q 21), .ref (Q 22), .ref (Q 23), .ref (Q 24), .ref (Q 25), .ref (Q 26), .int 0, .int 0, .int 0, .int 0, .int 0, .ref (Q 32), .ref (Q 33), .ref (Q 34), .ref (Q 35), .ref (Q 36), .ref (Q 37), .ref (Q 38), .ref (Q 39), .ref (Q 40), .ref (Q 40), .int 0, .int 0, .int 0, .int 0, .int 0, .int 0, .int 0, .int 0, .int (-1), .int 0, .ref (Q 52), .int 0, .ref (Q 54), .int 0, .ref (Q 56), .ref (Q 57), .ref (Q 58), .ref (Q 59), .ref (Q 60), .ref (Q 61), .ref (Q 62), .ref (Q 63), .ref (Q 64), .ref (Q 65), .ref (Q 66), .ref (Q 67), .ref (Q 68), .int 0, .ref (Q 70), .ref (Q 71)]))] s.heap := hP
  have hl := lv_entry ([.ref mo, .int x, .int y, .int z]) (n := 4) (Nat.le_of_ble_eq_true rfl)
  rw [lg_entry_eq]
  generalize (lg_sl ([.ref mo, .int x, .int y, .int z]) ++ List.replicate (4 - (lg_sl ([.ref mo, .int x, .int y, .int z])).length) Slot.unset).toArray = ls at hl ⊢
  have hl : lv_has ls 4 [(0, .ref mo), (1, .int x), (2, .int y), (3, .int z)] := hl
  refine lv_iload_n hx hb dX13_event_0 rfl (lv_at hl 1 rfl) ?_
  refine vp_callSi (va_Run.run (va_runS (As := [.int x]) (rest := []) ⟨hx, hb, hml, hown, hts⟩ (c_m_isMat l G x) (va_cwS 1 hts (gdS (List.mem_cons_of_mem _ (List.mem_append_left _ (List.mem_of_getElem? (i := 0) rfl))) (List.mem_cons_of_mem _ (List.mem_append_left _ (List.mem_of_getElem? (i := 1) rfl))) (List.mem_cons_of_mem _ (List.mem_append_left _ (List.mem_of_getElem? (i := 2) rfl))) (fun w9 h9 => ⟨(List.mem_cons_of_mem _ (List.mem_append_right _ (List.mem_append_left _ h9))), gd_c_m_isMat w9 h9⟩)) rfl rfl rfl kSX13_isMat ⟨Nat.le_of_ble_eq_true rfl, Nat.le_of_ble_eq_true rfl⟩) (preS_p (As := [.int x]) (hP.sub (ws' := []) [] rfl) hB) rfl rfl hl.1 rfl (lv_room (Nat.le_of_ble_eq_true rfl)) dX13_event_1 ⟨Nat.le_of_ble_eq_true rfl, Nat.le_of_ble_eq_true rfl⟩)) (fun r_1 hr_1 => ?_)
  by_cases c_2 : x < 0
  · have hr_1 : r_1 = 0 := hr_1.trans (by rw [if_pos (show x < 0 ∨ 4 ≤ x from (Or.inl c_2))])
    subst hr_1
    refine lv_if_eq (tgt := 33) hx hb dX13_event_4 (by decide) (fun _ => ?_) (fun c9 => absurd (by decide) c9)
    refine lv_bipush (v := (-2)) hx hb dX13_event_33 (by decide) ?_
    exact W.iret (v := (-2)) hx hb hr (fun t ht hW => ⟨_, rfl, rfl, ht⟩) (fun q h => absurd h List.not_mem_nil) dX13_event_35
  by_cases c_3 : 4 ≤ x
  · have hr_1 : r_1 = 0 := hr_1.trans (by rw [if_pos (show x < 0 ∨ 4 ≤ x from (Or.inr c_3))])
    subst hr_1
    refine lv_if_eq (tgt := 33) hx hb dX13_event_4 (by decide) (fun _ => ?_) (fun c9 => absurd (by decide) c9)
    refine lv_bipush (v := (-2)) hx hb dX13_event_33 (by decide) ?_
    exact W.iret (v := (-2)) hx hb hr (fun t ht hW => ⟨_, rfl, rfl, ht⟩) (fun q h => absurd h List.not_mem_nil) dX13_event_35
  have hr_1 : r_1 = 1 := hr_1.trans (by rw [if_neg (show ¬ (x < 0 ∨ 4 ≤ x) from (not_or.mpr ⟨c_2, c_3⟩))])
  subst hr_1
  refine lv_if_eq (tgt := 33) hx hb dX13_event_4 (by decide) (fun c9 => absurd c9 (by decide)) (fun _ => ?_)
  refine lv_iload_n hx hb dX13_event_7 rfl (lv_at hl 2 rfl) ?_
  refine lv_i2l (v := y.toInt64) hx hb dX13_event_8 rfl ?_
  refine lv_lconst (v := 0) hx hb dX13_event_9 (by decide) ?_
  refine lv_lconst (v := 1) hx hb dX13_event_10 (by decide) ?_
  refine vp_callSi (va_Run.run (va_runS (As := [.long y.toInt64, .long 0, .long 1]) (rest := []) ⟨hx, hb, hml, hown, hts⟩ (c_in_0_1 l G y) (va_cwS 3 hts (gdS (List.mem_cons_of_mem _ (List.mem_append_left _ (List.mem_of_getElem? (i := 3) rfl))) (List.mem_cons_of_mem _ (List.mem_append_left _ (List.mem_of_getElem? (i := 4) rfl))) (List.mem_cons_of_mem _ (List.mem_append_left _ (List.mem_of_getElem? (i := 2) rfl))) (fun w9 h9 => ⟨(List.mem_cons_of_mem _ (List.mem_append_right _ (List.mem_append_right _ (List.mem_append_left _ h9)))), gd_c_in_0_1 w9 h9⟩)) rfl rfl rfl kSX13_in ⟨Nat.le_of_ble_eq_true rfl, Nat.le_of_ble_eq_true rfl⟩) (preS_p (As := [.long y.toInt64, .long 0, .long 1]) (hP.sub (ws' := []) [] rfl) hB) rfl rfl hl.1 rfl (lv_room (Nat.le_of_ble_eq_true rfl)) dX13_event_11 ⟨Nat.le_of_ble_eq_true rfl, Nat.le_of_ble_eq_true rfl⟩)) (fun r_4 hr_4 => ?_)
  by_cases c_5 : y = 0
  · have hr_4 : r_4 = 1 := hr_4.trans (by rw [if_pos (show y = 0 ∨ y = 1 from (Or.inl c_5))])
    subst hr_4
    refine lv_if_eq (tgt := 33) hx hb dX13_event_14 (by decide) (fun c9 => absurd c9 (by decide)) (fun _ => ?_)
    refine lv_iload_n hx hb dX13_event_17 rfl (lv_at hl 3 rfl) ?_
    refine lv_i2l (v := z.toInt64) hx hb dX13_event_18 rfl ?_
    refine lv_lconst (v := 0) hx hb dX13_event_19 (by decide) ?_
    refine lv_aload_n hx hb dX13_event_20 rfl (lv_at hl 0 rfl) ?_
    refine va_get (D := gD G) (ci := 14) (v := .int 0) (C := RX13) (T := TX13) (N := 72) hx hb hts (fun _ h9 => (List.mem_cons_of_mem _ (List.mem_append_right _ (List.mem_append_right _ (List.mem_append_right _ (List.mem_append_left _ h9)))))) hown hK hP 0 rfl rfl 29 (by decide) (hts (.fieldLink RX13 186 "JudoHallModel" "signs" "I") (List.mem_cons_of_mem _ (List.mem_append_left _ (List.mem_of_getElem? (i := 5) rfl)))) (fun _ h9 => h9) rfl dX13_event_21 ?_
    refine lv_i2l (v := 0) hx hb dX13_event_24 (by decide) ?_
    refine lv_lconst (v := 1) hx hb dX13_event_25 (by decide) ?_
    refine lv_lsub hx hb dX13_event_26 ?_
    refine gx_tl (y := (-1)) (by decide) ?_
    refine vp_callSi (va_Run.run (va_runS (As := [.long z.toInt64, .long 0, .long (-1)]) (rest := []) ⟨hx, hb, hml, hown, hts⟩ (c_in_0_m1 l G z) (va_cwS 3 hts (gdS (List.mem_cons_of_mem _ (List.mem_append_left _ (List.mem_of_getElem? (i := 3) rfl))) (List.mem_cons_of_mem _ (List.mem_append_left _ (List.mem_of_getElem? (i := 4) rfl))) (List.mem_cons_of_mem _ (List.mem_append_left _ (List.mem_of_getElem? (i := 2) rfl))) (fun w9 h9 => ⟨(List.mem_cons_of_mem _ (List.mem_append_right _ (List.mem_append_right _ (List.mem_append_right _ (List.mem_append_right _ (List.mem_append_left _ h9)))))), gd_c_in_0_m1 w9 h9⟩)) rfl rfl rfl kSX13_in ⟨Nat.le_of_ble_eq_true rfl, Nat.le_of_ble_eq_true rfl⟩) (preS_p (As := [.long z.toInt64, .long 0, .long (-1)]) (hP.sub (ws' := []) [] rfl) hB) rfl rfl hl.1 rfl (lv_room (Nat.le_of_ble_eq_true rfl)) dX13_event_27 ⟨Nat.le_of_ble_eq_true rfl, Nat.le_of_ble_eq_true rfl⟩)) (fun r_6 hr_6 => ?_)
    subst hr_6
    refine lv_if_ne (tgt := 36) hx hb dX13_event_30 (by decide) (fun c9 => absurd (by decide) c9) (fun _ => ?_)
    refine lv_bipush (v := (-2)) hx hb dX13_event_33 (by decide) ?_
    exact W.iret (v := (-2)) hx hb hr (fun t ht hW => ⟨_, rfl, rfl, ht⟩) (fun q h => absurd h List.not_mem_nil) dX13_event_35
  by_cases c_7 : y = 1
  · have hr_4 : r_4 = 1 := hr_4.trans (by rw [if_pos (show y = 0 ∨ y = 1 from (Or.inr c_7))])
    subst hr_4
    refine lv_if_eq (tgt := 33) hx hb dX13_event_14 (by decide) (fun c9 => absurd c9 (by decide)) (fun _ => ?_)
    refine lv_iload_n hx hb dX13_event_17 rfl (lv_at hl 3 rfl) ?_
    refine lv_i2l (v := z.toInt64) hx hb dX13_event_18 rfl ?_
    refine lv_lconst (v := 0) hx hb dX13_event_19 (by decide) ?_
    refine lv_aload_n hx hb dX13_event_20 rfl (lv_at hl 0 rfl) ?_
    refine va_get (D := gD G) (ci := 14) (v := .int 0) (C := RX13) (T := TX13) (N := 72) hx hb hts (fun _ h9 => (List.mem_cons_of_mem _ (List.mem_append_right _ (List.mem_append_right _ (List.mem_append_right _ (List.mem_append_left _ h9)))))) hown hK hP 0 rfl rfl 29 (by decide) (hts (.fieldLink RX13 186 "JudoHallModel" "signs" "I") (List.mem_cons_of_mem _ (List.mem_append_left _ (List.mem_of_getElem? (i := 5) rfl)))) (fun _ h9 => h9) rfl dX13_event_21 ?_
    refine lv_i2l (v := 0) hx hb dX13_event_24 (by decide) ?_
    refine lv_lconst (v := 1) hx hb dX13_event_25 (by decide) ?_
    refine lv_lsub hx hb dX13_event_26 ?_
    refine gx_tl (y := (-1)) (by decide) ?_
    refine vp_callSi (va_Run.run (va_runS (As := [.long z.toInt64, .long 0, .long (-1)]) (rest := []) ⟨hx, hb, hml, hown, hts⟩ (c_in_0_m1 l G z) (va_cwS 3 hts (gdS (List.mem_cons_of_mem _ (List.mem_append_left _ (List.mem_of_getElem? (i := 3) rfl))) (List.mem_cons_of_mem _ (List.mem_append_left _ (List.mem_of_getElem? (i := 4) rfl))) (List.mem_cons_of_mem _ (List.mem_append_left _ (List.mem_of_getElem? (i := 2) rfl))) (fun w9 h9 => ⟨(List.mem_cons_of_mem _ (List.mem_append_right _ (List.mem_append_right _ (List.mem_append_right _ (List.mem_append_right _ (List.mem_append_left _ h9)))))), gd_c_in_0_m1 w9 h9⟩)) rfl rfl rfl kSX13_in ⟨Nat.le_of_ble_eq_true rfl, Nat.le_of_ble_eq_true rfl⟩) (preS_p (As := [.long z.toInt64, .long 0, .long (-1)]) (hP.sub (ws' := []) [] rfl) hB) rfl rfl hl.1 rfl (lv_room (Nat.le_of_ble_eq_true rfl)) dX13_event_27 ⟨Nat.le_of_ble_eq_true rfl, Nat.le_of_ble_eq_true rfl⟩)) (fun r_8 hr_8 => ?_)
    subst hr_8
    refine lv_if_ne (tgt := 36) hx hb dX13_event_30 (by decide) (fun c9 => absurd (by decide) c9) (fun _ => ?_)
    refine lv_bipush (v := (-2)) hx hb dX13_event_33 (by decide) ?_
    exact W.iret (v := (-2)) hx hb hr (fun t ht hW => ⟨_, rfl, rfl, ht⟩) (fun q h => absurd h List.not_mem_nil) dX13_event_35
  have hr_4 : r_4 = 0 := hr_4.trans (by rw [if_neg (show ¬ (y = 0 ∨ y = 1) from (not_or.mpr ⟨c_5, c_7⟩))])
  subst hr_4
  refine lv_if_eq (tgt := 33) hx hb dX13_event_14 (by decide) (fun _ => ?_) (fun c9 => absurd (by decide) c9)
  refine lv_bipush (v := (-2)) hx hb dX13_event_33 (by decide) ?_
  exact W.iret (v := (-2)) hx hb hr (fun t ht hW => ⟨_, rfl, rfl, ht⟩) (fun q h => absurd h List.not_mem_nil) dX13_event_35

def wo_m_tick : List Cond := [.methodLink RX13 524 yX13_isMat, .static yX13_isMat, .initialized RX13, .constantLong RX13 537 (9999), .methodLink RX13 203 yX13_in, .static yX13_in, .fieldLink RX13 67 "JudoHallModel" "on" "[I"]
def wq_m_tick : List Cond := .code yX13_tick cX13_tick 3 (some .int) :: (wo_m_tick ++ (wq_c_m_isMat ++ (wq_c_in_1_9999 ++ (wsX130 ++ []))))
theorem gd_m_tick : ∀ w ∈ wq_m_tick, Gd w := List.forall_mem_cons.mpr ⟨Or.inl rfl, List.forall_mem_append.mpr ⟨gdl wo_m_tick (by decide +kernel), (List.forall_mem_append.mpr ⟨gd_c_m_isMat, (List.forall_mem_append.mpr ⟨gd_c_in_1_9999, (List.forall_mem_append.mpr ⟨gd_wsX130, (fun _ h => absurd h List.not_mem_nil)⟩)⟩)⟩)⟩⟩
theorem in_m_tick : ∀ w ∈ wq_m_tick, w ∈ lw_tbl := List.forall_mem_cons.mpr ⟨List.mem_of_getElem? (i := 2258) (by decide +kernel), List.forall_mem_append.mpr ⟨inT wo_m_tick [2244, 2245, 171, 2259, 2023, 2024, 1640] (by decide +kernel), (List.forall_mem_append.mpr ⟨in_c_m_isMat, (List.forall_mem_append.mpr ⟨in_c_in_1_9999, (List.forall_mem_append.mpr ⟨in_wsX130, (fun _ h => absurd h List.not_mem_nil)⟩)⟩)⟩)⟩⟩
set_option maxHeartbeats 4000000 in
set_option maxRecDepth 100000 in
theorem m_tick (l : Launch) (G : gG) (mo : Nat) (Q : Nat → Nat) (x : Int32) (y : Int32) : Met l yX13_tick wq_m_tick ({ frames := 2, cells := 0, slots := 0, locals := 45 }) (va_Pc [.ref mo, .int x, .int y] (pP G [(mo, .inr (14, [.ref (Q 0), .ref (Q 1), .int 0, .int 0, .int 10, .ref (Q 5), .ref (Q 6), .ref (Q 7), .ref (Q 8), .ref (Q 9), .ref (Q 10), .ref (Q 11), .ref (Q 12), .ref (Q 13), .ref (Q 14), .ref (Q 15), .ref (Q 16), .ref (Q 17), .ref (Q 18), .ref (Q 19), .ref (Q 20), .ref (Q 21), .ref (Q 22), .ref (Q 23), .ref (Q 24), .ref (Q 25), .ref (Q 26), .int 0, .int 0, .int 0, .int 0, .int 0, .ref (Q 32), .ref (Q 33), .ref (Q 34), .ref (Q 35), .ref (Q 36), .ref (Q 37), .ref (Q 38), .ref (Q 39), .ref (Q 40), .ref (Q 40), .int 0, .int 0, .int 0, .int 0, .int 0, .int 0, .int 0, .int 0, .int (-1), .int 0, .ref (Q 52), .int 0, .ref (Q 54), .int 0, .ref (Q 56), .ref (Q 57), .ref (Q 58), .ref (Q 59), .ref (Q 60), .ref (Q 61), .ref (Q 62), .ref (Q 63), .ref (Q 64), .ref (Q 65), .ref (Q 66), .ref (Q 67), .ref (Q 68), .int 0, .ref (Q 70), .ref (Q 71)])), (Q 22, .inl (gI G, 4, .inl moOn))])) (vp_Si (fun r : Int32 => r = if x < 0 ∨ 4 ≤ x ∨ y < 1 ∨ 9999 < y then (-2) else (-3))) 0 0 (fun _ => False) := by
  refine Met.ofW (cc := cX13_tick) (maxL := 3) (ret := (some .int)) (by decide) rfl ?_
  intro p e s m args below meth c s₁ B hml hv
  obtain ⟨rfl, hP, hB⟩ := hv
  have hx := B.exec
  have hb := B.bytes
  have hr := B.returns
  have hts := atoms_spec (ws := wq_m_tick) B.pre
  have hown : s.vm.findClass RX13 = some m.cls := findClass_of_methodNamed B.named
  have hlocks := B.notSynchronized
  have hK := hB.1
  have hP : va_P (gD G) vwCl [(mo, .inr (14, [.ref (Q 0), .ref (Q 1), .int 0, .int 0, .int 10, .ref (Q 5), .ref (Q 6), .ref (Q 7), .ref (Q 8), .ref (Q 9), .ref (Q 10), .ref (Q 11), .ref (Q 12), .ref (Q 13), .ref (Q 14), .ref (Q 15), .ref (Q 16), .ref (Q 17), .ref (Q 18), .ref (Q 19), .ref (Q 20), .ref (Q 21), .ref (Q 22), .ref (Q 23), .ref (Q 24), .ref (Q 25), .ref (Q 26), .int 0, .int 0, .int 0, .int 0, .int 0, .ref (Q 32), .ref (Q 33), .ref (Q 34), .ref (Q 35), .ref (Q 36), .ref (Q 37), .ref (Q 38), .ref (Q 39), .ref (Q 40), .ref (Q 40), .int 0, .int 0, .int 0, .int 0, .int 0, .int 0, .int 0, .int 0, .int (-1), .int 0, .ref (Q 52), .int 0, .ref (Q 54), .int 0, .ref (Q 56), .ref (Q 57), .ref (Q 58), .ref (Q 59), .ref (Q 60), .ref (Q 61), .ref (Q 62), .ref (Q 63), .ref (Q 64), .ref (Q 65), .ref (Q 66), .ref (Q 67), .ref (Q 68), .int 0, .ref (Q 70), .ref (Q 71)])), (Q 22, .inl (gI G, 4, .inl moOn))] s.heap := hP
  have hl := lv_entry ([.ref mo, .int x, .int y]) (n := 3) (Nat.le_of_ble_eq_true rfl)
  rw [lg_entry_eq]
  generalize (lg_sl ([.ref mo, .int x, .int y]) ++ List.replicate (3 - (lg_sl ([.ref mo, .int x, .int y])).length) Slot.unset).toArray = ls at hl ⊢
  have hl : lv_has ls 3 [(0, .ref mo), (1, .int x), (2, .int y)] := hl
  refine lv_iload_n hx hb dX13_tick_0 rfl (lv_at hl 1 rfl) ?_
  refine vp_callSi (va_Run.run (va_runS (As := [.int x]) (rest := []) ⟨hx, hb, hml, hown, hts⟩ (c_m_isMat l G x) (va_cwS 1 hts (gdS (List.mem_cons_of_mem _ (List.mem_append_left _ (List.mem_of_getElem? (i := 0) rfl))) (List.mem_cons_of_mem _ (List.mem_append_left _ (List.mem_of_getElem? (i := 1) rfl))) (List.mem_cons_of_mem _ (List.mem_append_left _ (List.mem_of_getElem? (i := 2) rfl))) (fun w9 h9 => ⟨(List.mem_cons_of_mem _ (List.mem_append_right _ (List.mem_append_left _ h9))), gd_c_m_isMat w9 h9⟩)) rfl rfl rfl kSX13_isMat ⟨Nat.le_of_ble_eq_true rfl, Nat.le_of_ble_eq_true rfl⟩) (preS_p (As := [.int x]) (hP.sub (ws' := []) [] rfl) hB) rfl rfl hl.1 rfl (lv_room (Nat.le_of_ble_eq_true rfl)) dX13_tick_1 ⟨Nat.le_of_ble_eq_true rfl, Nat.le_of_ble_eq_true rfl⟩)) (fun r_1 hr_1 => ?_)
  by_cases c_2 : x < 0
  · have hr_1 : r_1 = 0 := hr_1.trans (by rw [if_pos (show x < 0 ∨ 4 ≤ x from (Or.inl c_2))])
    subst hr_1
    refine lv_if_eq (tgt := 19) hx hb dX13_tick_4 (by decide) (fun _ => ?_) (fun c9 => absurd (by decide) c9)
    refine lv_bipush (v := (-2)) hx hb dX13_tick_19 (by decide) ?_
    exact W.iret (v := (-2)) hx hb hr (fun t ht hW => ⟨_, rfl, by rw [if_pos (show x < 0 ∨ 4 ≤ x ∨ y < 1 ∨ 9999 < y from (Or.inl c_2))], ht⟩) (fun q h => absurd h List.not_mem_nil) dX13_tick_21
  by_cases c_3 : 4 ≤ x
  · have hr_1 : r_1 = 0 := hr_1.trans (by rw [if_pos (show x < 0 ∨ 4 ≤ x from (Or.inr c_3))])
    subst hr_1
    refine lv_if_eq (tgt := 19) hx hb dX13_tick_4 (by decide) (fun _ => ?_) (fun c9 => absurd (by decide) c9)
    refine lv_bipush (v := (-2)) hx hb dX13_tick_19 (by decide) ?_
    exact W.iret (v := (-2)) hx hb hr (fun t ht hW => ⟨_, rfl, by rw [if_pos (show x < 0 ∨ 4 ≤ x ∨ y < 1 ∨ 9999 < y from (Or.inr (Or.inl c_3)))], ht⟩) (fun q h => absurd h List.not_mem_nil) dX13_tick_21
  have hr_1 : r_1 = 1 := hr_1.trans (by rw [if_neg (show ¬ (x < 0 ∨ 4 ≤ x) from (not_or.mpr ⟨c_2, c_3⟩))])
  subst hr_1
  refine lv_if_eq (tgt := 19) hx hb dX13_tick_4 (by decide) (fun c9 => absurd c9 (by decide)) (fun _ => ?_)
  refine lv_iload_n hx hb dX13_tick_7 rfl (lv_at hl 2 rfl) ?_
  refine lv_i2l (v := y.toInt64) hx hb dX13_tick_8 rfl ?_
  refine lv_lconst (v := 1) hx hb dX13_tick_9 (by decide) ?_
  refine lv_ldc2 (v := 9999) hx hb hown (hts (.constantLong RX13 537 (9999)) (List.mem_cons_of_mem _ (List.mem_append_left _ (List.mem_of_getElem? (i := 3) rfl)))) dX13_tick_10 ?_
  refine vp_callSi (va_Run.run (va_runS (As := [.long y.toInt64, .long 1, .long 9999]) (rest := []) ⟨hx, hb, hml, hown, hts⟩ (c_in_1_9999 l G y) (va_cwS 3 hts (gdS (List.mem_cons_of_mem _ (List.mem_append_left _ (List.mem_of_getElem? (i := 4) rfl))) (List.mem_cons_of_mem _ (List.mem_append_left _ (List.mem_of_getElem? (i := 5) rfl))) (List.mem_cons_of_mem _ (List.mem_append_left _ (List.mem_of_getElem? (i := 2) rfl))) (fun w9 h9 => ⟨(List.mem_cons_of_mem _ (List.mem_append_right _ (List.mem_append_right _ (List.mem_append_left _ h9)))), gd_c_in_1_9999 w9 h9⟩)) rfl rfl rfl kSX13_in ⟨Nat.le_of_ble_eq_true rfl, Nat.le_of_ble_eq_true rfl⟩) (preS_p (As := [.long y.toInt64, .long 1, .long 9999]) (hP.sub (ws' := []) [] rfl) hB) rfl rfl hl.1 rfl (lv_room (Nat.le_of_ble_eq_true rfl)) dX13_tick_13 ⟨Nat.le_of_ble_eq_true rfl, Nat.le_of_ble_eq_true rfl⟩)) (fun r_4 hr_4 => ?_)
  by_cases c_5 : y < 1
  · have hr_4 : r_4 = 0 := hr_4.trans (by rw [if_pos (show y < 1 ∨ 9999 < y from (Or.inl c_5))])
    subst hr_4
    refine lv_if_ne (tgt := 22) hx hb dX13_tick_16 (by decide) (fun c9 => absurd (by decide) c9) (fun _ => ?_)
    refine lv_bipush (v := (-2)) hx hb dX13_tick_19 (by decide) ?_
    exact W.iret (v := (-2)) hx hb hr (fun t ht hW => ⟨_, rfl, by rw [if_pos (show x < 0 ∨ 4 ≤ x ∨ y < 1 ∨ 9999 < y from (Or.inr (Or.inr (Or.inl c_5))))], ht⟩) (fun q h => absurd h List.not_mem_nil) dX13_tick_21
  by_cases c_6 : 9999 < y
  · have hr_4 : r_4 = 0 := hr_4.trans (by rw [if_pos (show y < 1 ∨ 9999 < y from (Or.inr c_6))])
    subst hr_4
    refine lv_if_ne (tgt := 22) hx hb dX13_tick_16 (by decide) (fun c9 => absurd (by decide) c9) (fun _ => ?_)
    refine lv_bipush (v := (-2)) hx hb dX13_tick_19 (by decide) ?_
    exact W.iret (v := (-2)) hx hb hr (fun t ht hW => ⟨_, rfl, by rw [if_pos (show x < 0 ∨ 4 ≤ x ∨ y < 1 ∨ 9999 < y from (Or.inr (Or.inr (Or.inr c_6))))], ht⟩) (fun q h => absurd h List.not_mem_nil) dX13_tick_21
  have hr_4 : r_4 = 1 := hr_4.trans (by rw [if_neg (show ¬ (y < 1 ∨ 9999 < y) from (not_or.mpr ⟨c_5, c_6⟩))])
  subst hr_4
  refine lv_if_ne (tgt := 22) hx hb dX13_tick_16 (by decide) (fun _ => ?_) (fun c9 => absurd c9 (by decide))
  refine lv_aload_n hx hb dX13_tick_22 rfl (lv_at hl 0 rfl) ?_
  refine va_get (D := gD G) (ci := 14) (v := .ref (Q 22)) (C := RX13) (T := TX13) (N := 72) hx hb hts (fun _ h9 => (List.mem_cons_of_mem _ (List.mem_append_right _ (List.mem_append_right _ (List.mem_append_right _ (List.mem_append_left _ h9)))))) hown hK hP 0 rfl rfl 22 (by decide) (hts (.fieldLink RX13 67 "JudoHallModel" "on" "[I") (List.mem_cons_of_mem _ (List.mem_append_left _ (List.mem_of_getElem? (i := 6) rfl)))) (fun _ h9 => h9) rfl dX13_tick_23 ?_
  refine lv_iload_n hx hb dX13_tick_26 rfl (lv_at hl 1 rfl) ?_
  refine va_iald (D := gD G) hx hb hK hP 1 0 rfl rfl (gx_ixk (k := 4) (by decide) (by decide) c_2 c_3) dX13_tick_27 ?_
  refine gx_ti (y := (-1)) (moOn_at c_2 c_3) ?_
  refine lv_iconst (v := (-1)) hx hb dX13_tick_28 (by decide) ?_
  refine lv_icmp_eq (tgt := 41) hx hb dX13_tick_29 (by decide) (fun _ => ?_) (fun c9 => absurd (by decide) c9)
  refine lv_bipush (v := (-3)) hx hb dX13_tick_41 (by decide) ?_
  exact W.iret (v := (-3)) hx hb hr (fun t ht hW => ⟨_, rfl, by rw [if_neg (show ¬ (x < 0 ∨ 4 ≤ x ∨ y < 1 ∨ 9999 < y) from (not_or.mpr ⟨c_2, (not_or.mpr ⟨c_3, (not_or.mpr ⟨c_5, c_6⟩)⟩)⟩))], ht⟩) (fun q h => absurd h List.not_mem_nil) dX13_tick_43

def wo_m_decide : List Cond := [.methodLink RX13 524 yX13_isMat, .static yX13_isMat, .initialized RX13, .methodLink RX13 203 yX13_in, .static yX13_in, .fieldLink RX13 67 "JudoHallModel" "on" "[I"]
def wq_m_decide : List Cond := .code yX13_decide cX13_decide 3 (some .int) :: (wo_m_decide ++ (wq_c_m_isMat ++ (wq_c_in_0_1 ++ (wsX130 ++ []))))
theorem gd_m_decide : ∀ w ∈ wq_m_decide, Gd w := List.forall_mem_cons.mpr ⟨Or.inl rfl, List.forall_mem_append.mpr ⟨gdl wo_m_decide (by decide +kernel), (List.forall_mem_append.mpr ⟨gd_c_m_isMat, (List.forall_mem_append.mpr ⟨gd_c_in_0_1, (List.forall_mem_append.mpr ⟨gd_wsX130, (fun _ h => absurd h List.not_mem_nil)⟩)⟩)⟩)⟩⟩
theorem in_m_decide : ∀ w ∈ wq_m_decide, w ∈ lw_tbl := List.forall_mem_cons.mpr ⟨List.mem_of_getElem? (i := 2263) (by decide +kernel), List.forall_mem_append.mpr ⟨inT wo_m_decide [2244, 2245, 171, 2023, 2024, 1640] (by decide +kernel), (List.forall_mem_append.mpr ⟨in_c_m_isMat, (List.forall_mem_append.mpr ⟨in_c_in_0_1, (List.forall_mem_append.mpr ⟨in_wsX130, (fun _ h => absurd h List.not_mem_nil)⟩)⟩)⟩)⟩⟩
set_option maxHeartbeats 4000000 in
set_option maxRecDepth 100000 in
theorem m_decide (l : Launch) (G : gG) (mo : Nat) (Q : Nat → Nat) (x : Int32) (y : Int32) : Met l yX13_decide wq_m_decide ({ frames := 2, cells := 0, slots := 0, locals := 45 }) (va_Pc [.ref mo, .int x, .int y] (pP G [(mo, .inr (14, [.ref (Q 0), .ref (Q 1), .int 0, .int 0, .int 10, .ref (Q 5), .ref (Q 6), .ref (Q 7), .ref (Q 8), .ref (Q 9), .ref (Q 10), .ref (Q 11), .ref (Q 12), .ref (Q 13), .ref (Q 14), .ref (Q 15), .ref (Q 16), .ref (Q 17), .ref (Q 18), .ref (Q 19), .ref (Q 20), .ref (Q 21), .ref (Q 22), .ref (Q 23), .ref (Q 24), .ref (Q 25), .ref (Q 26), .int 0, .int 0, .int 0, .int 0, .int 0, .ref (Q 32), .ref (Q 33), .ref (Q 34), .ref (Q 35), .ref (Q 36), .ref (Q 37), .ref (Q 38), .ref (Q 39), .ref (Q 40), .ref (Q 40), .int 0, .int 0, .int 0, .int 0, .int 0, .int 0, .int 0, .int 0, .int (-1), .int 0, .ref (Q 52), .int 0, .ref (Q 54), .int 0, .ref (Q 56), .ref (Q 57), .ref (Q 58), .ref (Q 59), .ref (Q 60), .ref (Q 61), .ref (Q 62), .ref (Q 63), .ref (Q 64), .ref (Q 65), .ref (Q 66), .ref (Q 67), .ref (Q 68), .int 0, .ref (Q 70), .ref (Q 71)])), (Q 22, .inl (gI G, 4, .inl moOn))])) (vp_Si (fun r : Int32 => r = if x < 0 ∨ 4 ≤ x then (-2) else if y = 0 ∨ y = 1 then (-3) else (-2))) 0 0 (fun _ => False) := by
  refine Met.ofW (cc := cX13_decide) (maxL := 3) (ret := (some .int)) (by decide) rfl ?_
  intro p e s m args below meth c s₁ B hml hv
  obtain ⟨rfl, hP, hB⟩ := hv
  have hx := B.exec
  have hb := B.bytes
  have hr := B.returns
  have hts := atoms_spec (ws := wq_m_decide) B.pre
  have hown : s.vm.findClass RX13 = some m.cls := findClass_of_methodNamed B.named
  have hlocks := B.notSynchronized
  have hK := hB.1
  have hP : va_P (gD G) vwCl [(mo, .inr (14, [.ref (Q 0), .ref (Q 1), .int 0, .int 0, .int 10, .ref (Q 5), .ref (Q 6), .ref (Q 7), .ref (Q 8), .ref (Q 9), .ref (Q 10), .ref (Q 11), .ref (Q 12), .ref (Q 13), .ref (Q 14), .ref (Q 15), .ref (Q 16), .ref (Q 17), .ref (Q 18), .ref (Q 19), .ref (Q 20), .ref (Q 21), .ref (Q 22), .ref (Q 23), .ref (Q 24), .ref (Q 25), .ref (Q 26), .int 0, .int 0, .int 0, .int 0, .int 0, .ref (Q 32), .ref (Q 33), .ref (Q 34), .ref (Q 35), .ref (Q 36), .ref (Q 37), .ref (Q 38), .ref (Q 39), .ref (Q 40), .ref (Q 40), .int 0, .int 0, .int 0, .int 0, .int 0, .int 0, .int 0, .int 0, .int (-1), .int 0, .ref (Q 52), .int 0, .ref (Q 54), .int 0, .ref (Q 56), .ref (Q 57), .ref (Q 58), .ref (Q 59), .ref (Q 60), .ref (Q 61), .ref (Q 62), .ref (Q 63), .ref (Q 64), .ref (Q 65), .ref (Q 66), .ref (Q 67), .ref (Q 68), .int 0, .ref (Q 70), .ref (Q 71)])), (Q 22, .inl (gI G, 4, .inl moOn))] s.heap := hP
  have hl := lv_entry ([.ref mo, .int x, .int y]) (n := 3) (Nat.le_of_ble_eq_true rfl)
  rw [lg_entry_eq]
  generalize (lg_sl ([.ref mo, .int x, .int y]) ++ List.replicate (3 - (lg_sl ([.ref mo, .int x, .int y])).length) Slot.unset).toArray = ls at hl ⊢
  have hl : lv_has ls 3 [(0, .ref mo), (1, .int x), (2, .int y)] := hl
  refine lv_iload_n hx hb dX13_decide_0 rfl (lv_at hl 1 rfl) ?_
  refine vp_callSi (va_Run.run (va_runS (As := [.int x]) (rest := []) ⟨hx, hb, hml, hown, hts⟩ (c_m_isMat l G x) (va_cwS 1 hts (gdS (List.mem_cons_of_mem _ (List.mem_append_left _ (List.mem_of_getElem? (i := 0) rfl))) (List.mem_cons_of_mem _ (List.mem_append_left _ (List.mem_of_getElem? (i := 1) rfl))) (List.mem_cons_of_mem _ (List.mem_append_left _ (List.mem_of_getElem? (i := 2) rfl))) (fun w9 h9 => ⟨(List.mem_cons_of_mem _ (List.mem_append_right _ (List.mem_append_left _ h9))), gd_c_m_isMat w9 h9⟩)) rfl rfl rfl kSX13_isMat ⟨Nat.le_of_ble_eq_true rfl, Nat.le_of_ble_eq_true rfl⟩) (preS_p (As := [.int x]) (hP.sub (ws' := []) [] rfl) hB) rfl rfl hl.1 rfl (lv_room (Nat.le_of_ble_eq_true rfl)) dX13_decide_1 ⟨Nat.le_of_ble_eq_true rfl, Nat.le_of_ble_eq_true rfl⟩)) (fun r_1 hr_1 => ?_)
  by_cases c_2 : x < 0
  · have hr_1 : r_1 = 0 := hr_1.trans (by rw [if_pos (show x < 0 ∨ 4 ≤ x from (Or.inl c_2))])
    subst hr_1
    refine lv_if_eq (tgt := 17) hx hb dX13_decide_4 (by decide) (fun _ => ?_) (fun c9 => absurd (by decide) c9)
    refine lv_bipush (v := (-2)) hx hb dX13_decide_17 (by decide) ?_
    exact W.iret (v := (-2)) hx hb hr (fun t ht hW => ⟨_, rfl, by rw [if_pos (show x < 0 ∨ 4 ≤ x from (Or.inl c_2))], ht⟩) (fun q h => absurd h List.not_mem_nil) dX13_decide_19
  by_cases c_3 : 4 ≤ x
  · have hr_1 : r_1 = 0 := hr_1.trans (by rw [if_pos (show x < 0 ∨ 4 ≤ x from (Or.inr c_3))])
    subst hr_1
    refine lv_if_eq (tgt := 17) hx hb dX13_decide_4 (by decide) (fun _ => ?_) (fun c9 => absurd (by decide) c9)
    refine lv_bipush (v := (-2)) hx hb dX13_decide_17 (by decide) ?_
    exact W.iret (v := (-2)) hx hb hr (fun t ht hW => ⟨_, rfl, by rw [if_pos (show x < 0 ∨ 4 ≤ x from (Or.inr c_3))], ht⟩) (fun q h => absurd h List.not_mem_nil) dX13_decide_19
  have hr_1 : r_1 = 1 := hr_1.trans (by rw [if_neg (show ¬ (x < 0 ∨ 4 ≤ x) from (not_or.mpr ⟨c_2, c_3⟩))])
  subst hr_1
  refine lv_if_eq (tgt := 17) hx hb dX13_decide_4 (by decide) (fun c9 => absurd c9 (by decide)) (fun _ => ?_)
  refine lv_iload_n hx hb dX13_decide_7 rfl (lv_at hl 2 rfl) ?_
  refine lv_i2l (v := y.toInt64) hx hb dX13_decide_8 rfl ?_
  refine lv_lconst (v := 0) hx hb dX13_decide_9 (by decide) ?_
  refine lv_lconst (v := 1) hx hb dX13_decide_10 (by decide) ?_
  refine vp_callSi (va_Run.run (va_runS (As := [.long y.toInt64, .long 0, .long 1]) (rest := []) ⟨hx, hb, hml, hown, hts⟩ (c_in_0_1 l G y) (va_cwS 3 hts (gdS (List.mem_cons_of_mem _ (List.mem_append_left _ (List.mem_of_getElem? (i := 3) rfl))) (List.mem_cons_of_mem _ (List.mem_append_left _ (List.mem_of_getElem? (i := 4) rfl))) (List.mem_cons_of_mem _ (List.mem_append_left _ (List.mem_of_getElem? (i := 2) rfl))) (fun w9 h9 => ⟨(List.mem_cons_of_mem _ (List.mem_append_right _ (List.mem_append_right _ (List.mem_append_left _ h9)))), gd_c_in_0_1 w9 h9⟩)) rfl rfl rfl kSX13_in ⟨Nat.le_of_ble_eq_true rfl, Nat.le_of_ble_eq_true rfl⟩) (preS_p (As := [.long y.toInt64, .long 0, .long 1]) (hP.sub (ws' := []) [] rfl) hB) rfl rfl hl.1 rfl (lv_room (Nat.le_of_ble_eq_true rfl)) dX13_decide_11 ⟨Nat.le_of_ble_eq_true rfl, Nat.le_of_ble_eq_true rfl⟩)) (fun r_4 hr_4 => ?_)
  by_cases c_5 : y = 0
  · have hr_4 : r_4 = 1 := hr_4.trans (by rw [if_pos (show y = 0 ∨ y = 1 from (Or.inl c_5))])
    subst hr_4
    refine lv_if_ne (tgt := 20) hx hb dX13_decide_14 (by decide) (fun _ => ?_) (fun c9 => absurd c9 (by decide))
    refine lv_aload_n hx hb dX13_decide_20 rfl (lv_at hl 0 rfl) ?_
    refine va_get (D := gD G) (ci := 14) (v := .ref (Q 22)) (C := RX13) (T := TX13) (N := 72) hx hb hts (fun _ h9 => (List.mem_cons_of_mem _ (List.mem_append_right _ (List.mem_append_right _ (List.mem_append_right _ (List.mem_append_left _ h9)))))) hown hK hP 0 rfl rfl 22 (by decide) (hts (.fieldLink RX13 67 "JudoHallModel" "on" "[I") (List.mem_cons_of_mem _ (List.mem_append_left _ (List.mem_of_getElem? (i := 5) rfl)))) (fun _ h9 => h9) rfl dX13_decide_21 ?_
    refine lv_iload_n hx hb dX13_decide_24 rfl (lv_at hl 1 rfl) ?_
    refine va_iald (D := gD G) hx hb hK hP 1 0 rfl rfl (gx_ixk (k := 4) (by decide) (by decide) c_2 c_3) dX13_decide_25 ?_
    refine gx_ti (y := (-1)) (moOn_at c_2 c_3) ?_
    refine lv_iconst (v := (-1)) hx hb dX13_decide_26 (by decide) ?_
    refine lv_icmp_eq (tgt := 39) hx hb dX13_decide_27 (by decide) (fun _ => ?_) (fun c9 => absurd (by decide) c9)
    refine lv_bipush (v := (-3)) hx hb dX13_decide_39 (by decide) ?_
    refine lv_goto (tgt := 53) hx hb dX13_decide_41 (by decide) ?_
    exact W.iret (v := (-3)) hx hb hr (fun t ht hW => ⟨_, rfl, by rw [if_neg (show ¬ (x < 0 ∨ 4 ≤ x) from (not_or.mpr ⟨c_2, c_3⟩)), if_pos (show y = 0 ∨ y = 1 from (Or.inl c_5))], ht⟩) (fun q h => absurd h List.not_mem_nil) dX13_decide_53
  by_cases c_6 : y = 1
  · have hr_4 : r_4 = 1 := hr_4.trans (by rw [if_pos (show y = 0 ∨ y = 1 from (Or.inr c_6))])
    subst hr_4
    refine lv_if_ne (tgt := 20) hx hb dX13_decide_14 (by decide) (fun _ => ?_) (fun c9 => absurd c9 (by decide))
    refine lv_aload_n hx hb dX13_decide_20 rfl (lv_at hl 0 rfl) ?_
    refine va_get (D := gD G) (ci := 14) (v := .ref (Q 22)) (C := RX13) (T := TX13) (N := 72) hx hb hts (fun _ h9 => (List.mem_cons_of_mem _ (List.mem_append_right _ (List.mem_append_right _ (List.mem_append_right _ (List.mem_append_left _ h9)))))) hown hK hP 0 rfl rfl 22 (by decide) (hts (.fieldLink RX13 67 "JudoHallModel" "on" "[I") (List.mem_cons_of_mem _ (List.mem_append_left _ (List.mem_of_getElem? (i := 5) rfl)))) (fun _ h9 => h9) rfl dX13_decide_21 ?_
    refine lv_iload_n hx hb dX13_decide_24 rfl (lv_at hl 1 rfl) ?_
    refine va_iald (D := gD G) hx hb hK hP 1 0 rfl rfl (gx_ixk (k := 4) (by decide) (by decide) c_2 c_3) dX13_decide_25 ?_
    refine gx_ti (y := (-1)) (moOn_at c_2 c_3) ?_
    refine lv_iconst (v := (-1)) hx hb dX13_decide_26 (by decide) ?_
    refine lv_icmp_eq (tgt := 39) hx hb dX13_decide_27 (by decide) (fun _ => ?_) (fun c9 => absurd (by decide) c9)
    refine lv_bipush (v := (-3)) hx hb dX13_decide_39 (by decide) ?_
    refine lv_goto (tgt := 53) hx hb dX13_decide_41 (by decide) ?_
    exact W.iret (v := (-3)) hx hb hr (fun t ht hW => ⟨_, rfl, by rw [if_neg (show ¬ (x < 0 ∨ 4 ≤ x) from (not_or.mpr ⟨c_2, c_3⟩)), if_pos (show y = 0 ∨ y = 1 from (Or.inr c_6))], ht⟩) (fun q h => absurd h List.not_mem_nil) dX13_decide_53
  have hr_4 : r_4 = 0 := hr_4.trans (by rw [if_neg (show ¬ (y = 0 ∨ y = 1) from (not_or.mpr ⟨c_5, c_6⟩))])
  subst hr_4
  refine lv_if_ne (tgt := 20) hx hb dX13_decide_14 (by decide) (fun c9 => absurd (by decide) c9) (fun _ => ?_)
  refine lv_bipush (v := (-2)) hx hb dX13_decide_17 (by decide) ?_
  exact W.iret (v := (-2)) hx hb hr (fun t ht hW => ⟨_, rfl, by rw [if_neg (show ¬ (x < 0 ∨ 4 ≤ x) from (not_or.mpr ⟨c_2, c_3⟩)), if_neg (show ¬ (y = 0 ∨ y = 1) from (not_or.mpr ⟨c_5, c_6⟩))], ht⟩) (fun q h => absurd h List.not_mem_nil) dX13_decide_19

def wo_m_mat : List Cond := [.methodLink RX13 524 yX13_isMat, .static yX13_isMat, .initialized RX13, .fieldLink RX13 67 "JudoHallModel" "on" "[I"]
def wq_m_mat : List Cond := .code yX13_mat cX13_mat 3 (some .int) :: (wo_m_mat ++ (wq_c_m_isMat ++ (wsX130 ++ [])))
theorem gd_m_mat : ∀ w ∈ wq_m_mat, Gd w := List.forall_mem_cons.mpr ⟨Or.inl rfl, List.forall_mem_append.mpr ⟨gdl wo_m_mat (by decide +kernel), (List.forall_mem_append.mpr ⟨gd_c_m_isMat, (List.forall_mem_append.mpr ⟨gd_wsX130, (fun _ h => absurd h List.not_mem_nil)⟩)⟩)⟩⟩
theorem in_m_mat : ∀ w ∈ wq_m_mat, w ∈ lw_tbl := List.forall_mem_cons.mpr ⟨List.mem_of_getElem? (i := 2267) (by decide +kernel), List.forall_mem_append.mpr ⟨inT wo_m_mat [2244, 2245, 171, 1640] (by decide +kernel), (List.forall_mem_append.mpr ⟨in_c_m_isMat, (List.forall_mem_append.mpr ⟨in_wsX130, (fun _ h => absurd h List.not_mem_nil)⟩)⟩)⟩⟩
set_option maxHeartbeats 4000000 in
set_option maxRecDepth 100000 in
theorem m_mat (l : Launch) (G : gG) (mo : Nat) (Q : Nat → Nat) (x : Int32) (y : Int32) : Met l yX13_mat wq_m_mat ({ frames := 2, cells := 0, slots := 0, locals := 45 }) (va_Pc [.ref mo, .int x, .int y] (pP G [(mo, .inr (14, [.ref (Q 0), .ref (Q 1), .int 0, .int 0, .int 10, .ref (Q 5), .ref (Q 6), .ref (Q 7), .ref (Q 8), .ref (Q 9), .ref (Q 10), .ref (Q 11), .ref (Q 12), .ref (Q 13), .ref (Q 14), .ref (Q 15), .ref (Q 16), .ref (Q 17), .ref (Q 18), .ref (Q 19), .ref (Q 20), .ref (Q 21), .ref (Q 22), .ref (Q 23), .ref (Q 24), .ref (Q 25), .ref (Q 26), .int 0, .int 0, .int 0, .int 0, .int 0, .ref (Q 32), .ref (Q 33), .ref (Q 34), .ref (Q 35), .ref (Q 36), .ref (Q 37), .ref (Q 38), .ref (Q 39), .ref (Q 40), .ref (Q 40), .int 0, .int 0, .int 0, .int 0, .int 0, .int 0, .int 0, .int 0, .int (-1), .int 0, .ref (Q 52), .int 0, .ref (Q 54), .int 0, .ref (Q 56), .ref (Q 57), .ref (Q 58), .ref (Q 59), .ref (Q 60), .ref (Q 61), .ref (Q 62), .ref (Q 63), .ref (Q 64), .ref (Q 65), .ref (Q 66), .ref (Q 67), .ref (Q 68), .int 0, .ref (Q 70), .ref (Q 71)])), (Q 22, .inl (gI G, 4, .inl moOn))])) (vp_Si (fun r : Int32 => r = (-1))) 0 0 (fun _ => False) := by
  refine Met.ofW (cc := cX13_mat) (maxL := 3) (ret := (some .int)) (by decide) rfl ?_
  intro p e s m args below meth c s₁ B hml hv
  obtain ⟨rfl, hP, hB⟩ := hv
  have hx := B.exec
  have hb := B.bytes
  have hr := B.returns
  have hts := atoms_spec (ws := wq_m_mat) B.pre
  have hown : s.vm.findClass RX13 = some m.cls := findClass_of_methodNamed B.named
  have hlocks := B.notSynchronized
  have hK := hB.1
  have hP : va_P (gD G) vwCl [(mo, .inr (14, [.ref (Q 0), .ref (Q 1), .int 0, .int 0, .int 10, .ref (Q 5), .ref (Q 6), .ref (Q 7), .ref (Q 8), .ref (Q 9), .ref (Q 10), .ref (Q 11), .ref (Q 12), .ref (Q 13), .ref (Q 14), .ref (Q 15), .ref (Q 16), .ref (Q 17), .ref (Q 18), .ref (Q 19), .ref (Q 20), .ref (Q 21), .ref (Q 22), .ref (Q 23), .ref (Q 24), .ref (Q 25), .ref (Q 26), .int 0, .int 0, .int 0, .int 0, .int 0, .ref (Q 32), .ref (Q 33), .ref (Q 34), .ref (Q 35), .ref (Q 36), .ref (Q 37), .ref (Q 38), .ref (Q 39), .ref (Q 40), .ref (Q 40), .int 0, .int 0, .int 0, .int 0, .int 0, .int 0, .int 0, .int 0, .int (-1), .int 0, .ref (Q 52), .int 0, .ref (Q 54), .int 0, .ref (Q 56), .ref (Q 57), .ref (Q 58), .ref (Q 59), .ref (Q 60), .ref (Q 61), .ref (Q 62), .ref (Q 63), .ref (Q 64), .ref (Q 65), .ref (Q 66), .ref (Q 67), .ref (Q 68), .int 0, .ref (Q 70), .ref (Q 71)])), (Q 22, .inl (gI G, 4, .inl moOn))] s.heap := hP
  have hl := lv_entry ([.ref mo, .int x, .int y]) (n := 3) (Nat.le_of_ble_eq_true rfl)
  rw [lg_entry_eq]
  generalize (lg_sl ([.ref mo, .int x, .int y]) ++ List.replicate (3 - (lg_sl ([.ref mo, .int x, .int y])).length) Slot.unset).toArray = ls at hl ⊢
  have hl : lv_has ls 3 [(0, .ref mo), (1, .int x), (2, .int y)] := hl
  refine lv_iload_n hx hb dX13_mat_0 rfl (lv_at hl 1 rfl) ?_
  refine vp_callSi (va_Run.run (va_runS (As := [.int x]) (rest := []) ⟨hx, hb, hml, hown, hts⟩ (c_m_isMat l G x) (va_cwS 1 hts (gdS (List.mem_cons_of_mem _ (List.mem_append_left _ (List.mem_of_getElem? (i := 0) rfl))) (List.mem_cons_of_mem _ (List.mem_append_left _ (List.mem_of_getElem? (i := 1) rfl))) (List.mem_cons_of_mem _ (List.mem_append_left _ (List.mem_of_getElem? (i := 2) rfl))) (fun w9 h9 => ⟨(List.mem_cons_of_mem _ (List.mem_append_right _ (List.mem_append_left _ h9))), gd_c_m_isMat w9 h9⟩)) rfl rfl rfl kSX13_isMat ⟨Nat.le_of_ble_eq_true rfl, Nat.le_of_ble_eq_true rfl⟩) (preS_p (As := [.int x]) (hP.sub (ws' := []) [] rfl) hB) rfl rfl hl.1 rfl (lv_room (Nat.le_of_ble_eq_true rfl)) dX13_mat_1 ⟨Nat.le_of_ble_eq_true rfl, Nat.le_of_ble_eq_true rfl⟩)) (fun r_1 hr_1 => ?_)
  by_cases c_2 : x < 0
  · have hr_1 : r_1 = 0 := hr_1.trans (by rw [if_pos (show x < 0 ∨ 4 ≤ x from (Or.inl c_2))])
    subst hr_1
    refine lv_if_eq (tgt := 17) hx hb dX13_mat_4 (by decide) (fun _ => ?_) (fun c9 => absurd (by decide) c9)
    refine lv_iconst (v := (-1)) hx hb dX13_mat_17 (by decide) ?_
    exact W.iret (v := (-1)) hx hb hr (fun t ht hW => ⟨_, rfl, rfl, ht⟩) (fun q h => absurd h List.not_mem_nil) dX13_mat_18
  by_cases c_3 : 4 ≤ x
  · have hr_1 : r_1 = 0 := hr_1.trans (by rw [if_pos (show x < 0 ∨ 4 ≤ x from (Or.inr c_3))])
    subst hr_1
    refine lv_if_eq (tgt := 17) hx hb dX13_mat_4 (by decide) (fun _ => ?_) (fun c9 => absurd (by decide) c9)
    refine lv_iconst (v := (-1)) hx hb dX13_mat_17 (by decide) ?_
    exact W.iret (v := (-1)) hx hb hr (fun t ht hW => ⟨_, rfl, rfl, ht⟩) (fun q h => absurd h List.not_mem_nil) dX13_mat_18
  have hr_1 : r_1 = 1 := hr_1.trans (by rw [if_neg (show ¬ (x < 0 ∨ 4 ≤ x) from (not_or.mpr ⟨c_2, c_3⟩))])
  subst hr_1
  refine lv_if_eq (tgt := 17) hx hb dX13_mat_4 (by decide) (fun c9 => absurd c9 (by decide)) (fun _ => ?_)
  refine lv_aload_n hx hb dX13_mat_7 rfl (lv_at hl 0 rfl) ?_
  refine va_get (D := gD G) (ci := 14) (v := .ref (Q 22)) (C := RX13) (T := TX13) (N := 72) hx hb hts (fun _ h9 => (List.mem_cons_of_mem _ (List.mem_append_right _ (List.mem_append_right _ (List.mem_append_left _ h9))))) hown hK hP 0 rfl rfl 22 (by decide) (hts (.fieldLink RX13 67 "JudoHallModel" "on" "[I") (List.mem_cons_of_mem _ (List.mem_append_left _ (List.mem_of_getElem? (i := 3) rfl)))) (fun _ h9 => h9) rfl dX13_mat_8 ?_
  refine lv_iload_n hx hb dX13_mat_11 rfl (lv_at hl 1 rfl) ?_
  refine va_iald (D := gD G) hx hb hK hP 1 0 rfl rfl (gx_ixk (k := 4) (by decide) (by decide) c_2 c_3) dX13_mat_12 ?_
  refine gx_ti (y := (-1)) (moOn_at c_2 c_3) ?_
  refine lv_iconst (v := (-1)) hx hb dX13_mat_13 (by decide) ?_
  refine lv_icmp_ne (tgt := 19) hx hb dX13_mat_14 (by decide) (fun c9 => absurd (by decide) c9) (fun _ => ?_)
  refine lv_iconst (v := (-1)) hx hb dX13_mat_17 (by decide) ?_
  exact W.iret (v := (-1)) hx hb hr (fun t ht hW => ⟨_, rfl, rfl, ht⟩) (fun q h => absurd h List.not_mem_nil) dX13_mat_18

def wo_m_strike : List Cond := [.methodLink RX13 508 yX13_isFight, .instanceMethod yX13_isFight, .selects RX13 yX13_isFight yX13_isFight, .initialized RX13]
def wq_m_strike : List Cond := .code yX13_strike cX13_strike 3 (some .int) :: (wo_m_strike ++ (wq_c_m_isFight ++ []))
theorem gd_m_strike : ∀ w ∈ wq_m_strike, Gd w := List.forall_mem_cons.mpr ⟨Or.inl rfl, List.forall_mem_append.mpr ⟨gdl wo_m_strike (by decide +kernel), (List.forall_mem_append.mpr ⟨gd_c_m_isFight, (fun _ h => absurd h List.not_mem_nil)⟩)⟩⟩
theorem in_m_strike : ∀ w ∈ wq_m_strike, w ∈ lw_tbl := List.forall_mem_cons.mpr ⟨List.mem_of_getElem? (i := 2275) (by decide +kernel), List.forall_mem_append.mpr ⟨inT wo_m_strike [2221, 2223, 140, 171] (by decide +kernel), (List.forall_mem_append.mpr ⟨in_c_m_isFight, (fun _ h => absurd h List.not_mem_nil)⟩)⟩⟩
set_option maxHeartbeats 4000000 in
set_option maxRecDepth 100000 in
theorem m_strike (l : Launch) (G : gG) (mo : Nat) (Q : Nat → Nat) (x : Int32) (y : Int32) : Met l yX13_strike wq_m_strike ({ frames := 3, cells := 0, slots := 0, locals := 67 }) (va_Pc [.ref mo, .int x, .int y] (pP G [(mo, .inr (14, [.ref (Q 0), .ref (Q 1), .int 0, .int 0, .int 10, .ref (Q 5), .ref (Q 6), .ref (Q 7), .ref (Q 8), .ref (Q 9), .ref (Q 10), .ref (Q 11), .ref (Q 12), .ref (Q 13), .ref (Q 14), .ref (Q 15), .ref (Q 16), .ref (Q 17), .ref (Q 18), .ref (Q 19), .ref (Q 20), .ref (Q 21), .ref (Q 22), .ref (Q 23), .ref (Q 24), .ref (Q 25), .ref (Q 26), .int 0, .int 0, .int 0, .int 0, .int 0, .ref (Q 32), .ref (Q 33), .ref (Q 34), .ref (Q 35), .ref (Q 36), .ref (Q 37), .ref (Q 38), .ref (Q 39), .ref (Q 40), .ref (Q 40), .int 0, .int 0, .int 0, .int 0, .int 0, .int 0, .int 0, .int 0, .int (-1), .int 0, .ref (Q 52), .int 0, .ref (Q 54), .int 0, .ref (Q 56), .ref (Q 57), .ref (Q 58), .ref (Q 59), .ref (Q 60), .ref (Q 61), .ref (Q 62), .ref (Q 63), .ref (Q 64), .ref (Q 65), .ref (Q 66), .ref (Q 67), .ref (Q 68), .int 0, .ref (Q 70), .ref (Q 71)])), (Q 12, .inl (gI G, 4, .inl moDr)), (Q 13, .inl (gI G, 4, .inl (fun _ => 0)))])) (vp_Si (fun r : Int32 => r = (-2))) 0 0 (fun _ => False) := by
  refine Met.ofW (cc := cX13_strike) (maxL := 3) (ret := (some .int)) (by decide) rfl ?_
  intro p e s m args below meth c s₁ B hml hv
  obtain ⟨rfl, hP, hB⟩ := hv
  have hx := B.exec
  have hb := B.bytes
  have hr := B.returns
  have hts := atoms_spec (ws := wq_m_strike) B.pre
  have hown : s.vm.findClass RX13 = some m.cls := findClass_of_methodNamed B.named
  have hlocks := B.notSynchronized
  have hK := hB.1
  have hP : va_P (gD G) vwCl [(mo, .inr (14, [.ref (Q 0), .ref (Q 1), .int 0, .int 0, .int 10, .ref (Q 5), .ref (Q 6), .ref (Q 7), .ref (Q 8), .ref (Q 9), .ref (Q 10), .ref (Q 11), .ref (Q 12), .ref (Q 13), .ref (Q 14), .ref (Q 15), .ref (Q 16), .ref (Q 17), .ref (Q 18), .ref (Q 19), .ref (Q 20), .ref (Q 21), .ref (Q 22), .ref (Q 23), .ref (Q 24), .ref (Q 25), .ref (Q 26), .int 0, .int 0, .int 0, .int 0, .int 0, .ref (Q 32), .ref (Q 33), .ref (Q 34), .ref (Q 35), .ref (Q 36), .ref (Q 37), .ref (Q 38), .ref (Q 39), .ref (Q 40), .ref (Q 40), .int 0, .int 0, .int 0, .int 0, .int 0, .int 0, .int 0, .int 0, .int (-1), .int 0, .ref (Q 52), .int 0, .ref (Q 54), .int 0, .ref (Q 56), .ref (Q 57), .ref (Q 58), .ref (Q 59), .ref (Q 60), .ref (Q 61), .ref (Q 62), .ref (Q 63), .ref (Q 64), .ref (Q 65), .ref (Q 66), .ref (Q 67), .ref (Q 68), .int 0, .ref (Q 70), .ref (Q 71)])), (Q 12, .inl (gI G, 4, .inl moDr)), (Q 13, .inl (gI G, 4, .inl (fun _ => 0)))] s.heap := hP
  have hl := lv_entry ([.ref mo, .int x, .int y]) (n := 3) (Nat.le_of_ble_eq_true rfl)
  rw [lg_entry_eq]
  generalize (lg_sl ([.ref mo, .int x, .int y]) ++ List.replicate (3 - (lg_sl ([.ref mo, .int x, .int y])).length) Slot.unset).toArray = ls at hl ⊢
  have hl : lv_has ls 3 [(0, .ref mo), (1, .int x), (2, .int y)] := hl
  refine lv_aload_n hx hb dX13_strike_0 rfl (lv_at hl 0 rfl) ?_
  refine lv_iload_n hx hb dX13_strike_1 rfl (lv_at hl 1 rfl) ?_
  refine lv_iload_n hx hb dX13_strike_2 rfl (lv_at hl 2 rfl) ?_
  refine vp_callSi (va_Run.run (va_runV (As := [.int x, .int y]) (rest := []) ⟨hx, hb, hml, hown, hts⟩ (c_m_isFight l G mo Q x y) (cwV 2 hts (gdV (List.mem_cons_of_mem _ (List.mem_append_left _ (List.mem_of_getElem? (i := 0) rfl))) (List.mem_cons_of_mem _ (List.mem_append_left _ (List.mem_of_getElem? (i := 1) rfl))) (List.mem_cons_of_mem _ (List.mem_append_left _ (List.mem_of_getElem? (i := 2) rfl))) (List.mem_cons_of_mem _ (List.mem_append_left _ (List.mem_of_getElem? (i := 3) rfl))) (fun w9 h9 => ⟨(List.mem_cons_of_mem _ (List.mem_append_right _ (List.mem_append_left _ h9))), gd_c_m_isFight w9 h9⟩)) rfl rfl rfl kVX13_isFight ⟨Nat.le_of_ble_eq_true rfl, Nat.le_of_ble_eq_true rfl⟩) (preV_p (As := [.int x, .int y]) (hP.sub (ws' := [(mo, .inr (14, [.ref (Q 0), .ref (Q 1), .int 0, .int 0, .int 10, .ref (Q 5), .ref (Q 6), .ref (Q 7), .ref (Q 8), .ref (Q 9), .ref (Q 10), .ref (Q 11), .ref (Q 12), .ref (Q 13), .ref (Q 14), .ref (Q 15), .ref (Q 16), .ref (Q 17), .ref (Q 18), .ref (Q 19), .ref (Q 20), .ref (Q 21), .ref (Q 22), .ref (Q 23), .ref (Q 24), .ref (Q 25), .ref (Q 26), .int 0, .int 0, .int 0, .int 0, .int 0, .ref (Q 32), .ref (Q 33), .ref (Q 34), .ref (Q 35), .ref (Q 36), .ref (Q 37), .ref (Q 38), .ref (Q 39), .ref (Q 40), .ref (Q 40), .int 0, .int 0, .int 0, .int 0, .int 0, .int 0, .int 0, .int 0, .int (-1), .int 0, .ref (Q 52), .int 0, .ref (Q 54), .int 0, .ref (Q 56), .ref (Q 57), .ref (Q 58), .ref (Q 59), .ref (Q 60), .ref (Q 61), .ref (Q 62), .ref (Q 63), .ref (Q 64), .ref (Q 65), .ref (Q 66), .ref (Q 67), .ref (Q 68), .int 0, .ref (Q 70), .ref (Q 71)])), (Q 12, .inl (gI G, 4, .inl moDr)), (Q 13, .inl (gI G, 4, .inl (fun _ => 0)))]) [0, 1, 2] rfl) hB rfl rfl) rfl rfl hl.1 rfl (lv_room (Nat.le_of_ble_eq_true rfl)) dX13_strike_3 ⟨Nat.le_of_ble_eq_true rfl, Nat.le_of_ble_eq_true rfl⟩)) (fun r_1 hr_1 => ?_)
  subst hr_1
  refine lv_if_ne (tgt := 14) hx hb dX13_strike_6 (by decide) (fun c9 => absurd (by decide) c9) (fun _ => ?_)
  refine lv_bipush (v := (-2)) hx hb dX13_strike_9 (by decide) ?_
  refine lv_goto (tgt := 43) hx hb dX13_strike_11 (by decide) ?_
  exact W.iret (v := (-2)) hx hb hr (fun t ht hW => ⟨_, rfl, rfl, ht⟩) (fun q h => absurd h List.not_mem_nil) dX13_strike_43

def wo_m_medal : List Cond := [.methodLink RX13 214 yX13_isClass, .static yX13_isClass, .initialized RX13, .fieldLink RX13 37 "JudoHallModel" "drawn" "[I"]
def wq_m_medal : List Cond := .code yX13_medal cX13_medal 4 (some .int) :: (wo_m_medal ++ (wq_c_m_isClass ++ (wsX130 ++ [])))
theorem gd_m_medal : ∀ w ∈ wq_m_medal, Gd w := List.forall_mem_cons.mpr ⟨Or.inl rfl, List.forall_mem_append.mpr ⟨gdl wo_m_medal (by decide +kernel), (List.forall_mem_append.mpr ⟨gd_c_m_isClass, (List.forall_mem_append.mpr ⟨gd_wsX130, (fun _ h => absurd h List.not_mem_nil)⟩)⟩)⟩⟩
theorem in_m_medal : ∀ w ∈ wq_m_medal, w ∈ lw_tbl := List.forall_mem_cons.mpr ⟨List.mem_of_getElem? (i := 2279) (by decide +kernel), List.forall_mem_append.mpr ⟨inT wo_m_medal [2174, 2175, 171, 1630] (by decide +kernel), (List.forall_mem_append.mpr ⟨in_c_m_isClass, (List.forall_mem_append.mpr ⟨in_wsX130, (fun _ h => absurd h List.not_mem_nil)⟩)⟩)⟩⟩
set_option maxHeartbeats 4000000 in
set_option maxRecDepth 100000 in
theorem m_medal (l : Launch) (G : gG) (mo : Nat) (Q : Nat → Nat) (x : Int32) (y : Int32) : Met l yX13_medal wq_m_medal ({ frames := 2, cells := 0, slots := 0, locals := 45 }) (va_Pc [.ref mo, .int x, .int y] (pP G [(mo, .inr (14, [.ref (Q 0), .ref (Q 1), .int 0, .int 0, .int 10, .ref (Q 5), .ref (Q 6), .ref (Q 7), .ref (Q 8), .ref (Q 9), .ref (Q 10), .ref (Q 11), .ref (Q 12), .ref (Q 13), .ref (Q 14), .ref (Q 15), .ref (Q 16), .ref (Q 17), .ref (Q 18), .ref (Q 19), .ref (Q 20), .ref (Q 21), .ref (Q 22), .ref (Q 23), .ref (Q 24), .ref (Q 25), .ref (Q 26), .int 0, .int 0, .int 0, .int 0, .int 0, .ref (Q 32), .ref (Q 33), .ref (Q 34), .ref (Q 35), .ref (Q 36), .ref (Q 37), .ref (Q 38), .ref (Q 39), .ref (Q 40), .ref (Q 40), .int 0, .int 0, .int 0, .int 0, .int 0, .int 0, .int 0, .int 0, .int (-1), .int 0, .ref (Q 52), .int 0, .ref (Q 54), .int 0, .ref (Q 56), .ref (Q 57), .ref (Q 58), .ref (Q 59), .ref (Q 60), .ref (Q 61), .ref (Q 62), .ref (Q 63), .ref (Q 64), .ref (Q 65), .ref (Q 66), .ref (Q 67), .ref (Q 68), .int 0, .ref (Q 70), .ref (Q 71)])), (Q 12, .inl (gI G, 4, .inl moDr)), (Q 13, .inl (gI G, 4, .inl (fun _ => 0)))])) (vp_Si (fun r : Int32 => r = (-1))) 0 0 (fun _ => False) := by
  refine Met.ofW (cc := cX13_medal) (maxL := 4) (ret := (some .int)) (by decide) rfl ?_
  intro p e s m args below meth c s₁ B hml hv
  obtain ⟨rfl, hP, hB⟩ := hv
  have hx := B.exec
  have hb := B.bytes
  have hr := B.returns
  have hts := atoms_spec (ws := wq_m_medal) B.pre
  have hown : s.vm.findClass RX13 = some m.cls := findClass_of_methodNamed B.named
  have hlocks := B.notSynchronized
  have hK := hB.1
  have hP : va_P (gD G) vwCl [(mo, .inr (14, [.ref (Q 0), .ref (Q 1), .int 0, .int 0, .int 10, .ref (Q 5), .ref (Q 6), .ref (Q 7), .ref (Q 8), .ref (Q 9), .ref (Q 10), .ref (Q 11), .ref (Q 12), .ref (Q 13), .ref (Q 14), .ref (Q 15), .ref (Q 16), .ref (Q 17), .ref (Q 18), .ref (Q 19), .ref (Q 20), .ref (Q 21), .ref (Q 22), .ref (Q 23), .ref (Q 24), .ref (Q 25), .ref (Q 26), .int 0, .int 0, .int 0, .int 0, .int 0, .ref (Q 32), .ref (Q 33), .ref (Q 34), .ref (Q 35), .ref (Q 36), .ref (Q 37), .ref (Q 38), .ref (Q 39), .ref (Q 40), .ref (Q 40), .int 0, .int 0, .int 0, .int 0, .int 0, .int 0, .int 0, .int 0, .int (-1), .int 0, .ref (Q 52), .int 0, .ref (Q 54), .int 0, .ref (Q 56), .ref (Q 57), .ref (Q 58), .ref (Q 59), .ref (Q 60), .ref (Q 61), .ref (Q 62), .ref (Q 63), .ref (Q 64), .ref (Q 65), .ref (Q 66), .ref (Q 67), .ref (Q 68), .int 0, .ref (Q 70), .ref (Q 71)])), (Q 12, .inl (gI G, 4, .inl moDr)), (Q 13, .inl (gI G, 4, .inl (fun _ => 0)))] s.heap := hP
  have hl := lv_entry ([.ref mo, .int x, .int y]) (n := 4) (Nat.le_of_ble_eq_true rfl)
  rw [lg_entry_eq]
  generalize (lg_sl ([.ref mo, .int x, .int y]) ++ List.replicate (4 - (lg_sl ([.ref mo, .int x, .int y])).length) Slot.unset).toArray = ls at hl ⊢
  have hl : lv_has ls 4 [(0, .ref mo), (1, .int x), (2, .int y)] := hl
  refine lv_iload_n hx hb dX13_medal_0 rfl (lv_at hl 1 rfl) ?_
  refine vp_callSi (va_Run.run (va_runS (As := [.int x]) (rest := []) ⟨hx, hb, hml, hown, hts⟩ (c_m_isClass l G x) (va_cwS 1 hts (gdS (List.mem_cons_of_mem _ (List.mem_append_left _ (List.mem_of_getElem? (i := 0) rfl))) (List.mem_cons_of_mem _ (List.mem_append_left _ (List.mem_of_getElem? (i := 1) rfl))) (List.mem_cons_of_mem _ (List.mem_append_left _ (List.mem_of_getElem? (i := 2) rfl))) (fun w9 h9 => ⟨(List.mem_cons_of_mem _ (List.mem_append_right _ (List.mem_append_left _ h9))), gd_c_m_isClass w9 h9⟩)) rfl rfl rfl kSX13_isClass ⟨Nat.le_of_ble_eq_true rfl, Nat.le_of_ble_eq_true rfl⟩) (preS_p (As := [.int x]) (hP.sub (ws' := []) [] rfl) hB) rfl rfl hl.1 rfl (lv_room (Nat.le_of_ble_eq_true rfl)) dX13_medal_1 ⟨Nat.le_of_ble_eq_true rfl, Nat.le_of_ble_eq_true rfl⟩)) (fun r_1 hr_1 => ?_)
  by_cases c_2 : x < 0
  · have hr_1 : r_1 = 0 := hr_1.trans (by rw [if_pos (show x < 0 ∨ 4 ≤ x from (Or.inl c_2))])
    subst hr_1
    refine lv_if_eq (tgt := 20) hx hb dX13_medal_4 (by decide) (fun _ => ?_) (fun c9 => absurd (by decide) c9)
    refine lv_iconst (v := (-1)) hx hb dX13_medal_20 (by decide) ?_
    exact W.iret (v := (-1)) hx hb hr (fun t ht hW => ⟨_, rfl, rfl, ht⟩) (fun q h => absurd h List.not_mem_nil) dX13_medal_21
  by_cases c_3 : 4 ≤ x
  · have hr_1 : r_1 = 0 := hr_1.trans (by rw [if_pos (show x < 0 ∨ 4 ≤ x from (Or.inr c_3))])
    subst hr_1
    refine lv_if_eq (tgt := 20) hx hb dX13_medal_4 (by decide) (fun _ => ?_) (fun c9 => absurd (by decide) c9)
    refine lv_iconst (v := (-1)) hx hb dX13_medal_20 (by decide) ?_
    exact W.iret (v := (-1)) hx hb hr (fun t ht hW => ⟨_, rfl, rfl, ht⟩) (fun q h => absurd h List.not_mem_nil) dX13_medal_21
  have hr_1 : r_1 = 1 := hr_1.trans (by rw [if_neg (show ¬ (x < 0 ∨ 4 ≤ x) from (not_or.mpr ⟨c_2, c_3⟩))])
  subst hr_1
  refine lv_if_eq (tgt := 20) hx hb dX13_medal_4 (by decide) (fun c9 => absurd c9 (by decide)) (fun _ => ?_)
  refine lv_aload_n hx hb dX13_medal_7 rfl (lv_at hl 0 rfl) ?_
  refine va_get (D := gD G) (ci := 14) (v := .ref (Q 12)) (C := RX13) (T := TX13) (N := 72) hx hb hts (fun _ h9 => (List.mem_cons_of_mem _ (List.mem_append_right _ (List.mem_append_right _ (List.mem_append_left _ h9))))) hown hK hP 0 rfl rfl 12 (by decide) (hts (.fieldLink RX13 37 "JudoHallModel" "drawn" "[I") (List.mem_cons_of_mem _ (List.mem_append_left _ (List.mem_of_getElem? (i := 3) rfl)))) (fun _ h9 => h9) rfl dX13_medal_8 ?_
  refine lv_iload_n hx hb dX13_medal_11 rfl (lv_at hl 1 rfl) ?_
  refine va_iald (D := gD G) hx hb hK hP 1 0 rfl rfl (gx_ixk (k := 4) (by decide) (by decide) c_2 c_3) dX13_medal_12 ?_
  refine gx_ti (y := 0) (moDr_at _) ?_
  refine lv_if_eq (tgt := 20) hx hb dX13_medal_13 (by decide) (fun _ => ?_) (fun c9 => absurd (by decide) c9)
  refine lv_iconst (v := (-1)) hx hb dX13_medal_20 (by decide) ?_
  exact W.iret (v := (-1)) hx hb hr (fun t ht hW => ⟨_, rfl, rfl, ht⟩) (fun q h => absurd h List.not_mem_nil) dX13_medal_21

def wo_m_planned : List Cond := [.methodLink RX13 508 yX13_isFight, .instanceMethod yX13_isFight, .selects RX13 yX13_isFight yX13_isFight, .initialized RX13]
def wq_m_planned : List Cond := .code yX13_planned cX13_planned 4 (some .int) :: (wo_m_planned ++ (wq_c_m_isFight ++ []))
theorem gd_m_planned : ∀ w ∈ wq_m_planned, Gd w := List.forall_mem_cons.mpr ⟨Or.inl rfl, List.forall_mem_append.mpr ⟨gdl wo_m_planned (by decide +kernel), (List.forall_mem_append.mpr ⟨gd_c_m_isFight, (fun _ h => absurd h List.not_mem_nil)⟩)⟩⟩
theorem in_m_planned : ∀ w ∈ wq_m_planned, w ∈ lw_tbl := List.forall_mem_cons.mpr ⟨List.mem_of_getElem? (i := 2331) (by decide +kernel), List.forall_mem_append.mpr ⟨inT wo_m_planned [2221, 2223, 140, 171] (by decide +kernel), (List.forall_mem_append.mpr ⟨in_c_m_isFight, (fun _ h => absurd h List.not_mem_nil)⟩)⟩⟩
set_option maxHeartbeats 4000000 in
set_option maxRecDepth 100000 in
theorem m_planned (l : Launch) (G : gG) (mo : Nat) (Q : Nat → Nat) (x : Int32) (y : Int32) (z : Int32) : Met l yX13_planned wq_m_planned ({ frames := 3, cells := 0, slots := 0, locals := 67 }) (va_Pc [.ref mo, .int x, .int y, .int z] (pP G [(mo, .inr (14, [.ref (Q 0), .ref (Q 1), .int 0, .int 0, .int 10, .ref (Q 5), .ref (Q 6), .ref (Q 7), .ref (Q 8), .ref (Q 9), .ref (Q 10), .ref (Q 11), .ref (Q 12), .ref (Q 13), .ref (Q 14), .ref (Q 15), .ref (Q 16), .ref (Q 17), .ref (Q 18), .ref (Q 19), .ref (Q 20), .ref (Q 21), .ref (Q 22), .ref (Q 23), .ref (Q 24), .ref (Q 25), .ref (Q 26), .int 0, .int 0, .int 0, .int 0, .int 0, .ref (Q 32), .ref (Q 33), .ref (Q 34), .ref (Q 35), .ref (Q 36), .ref (Q 37), .ref (Q 38), .ref (Q 39), .ref (Q 40), .ref (Q 40), .int 0, .int 0, .int 0, .int 0, .int 0, .int 0, .int 0, .int 0, .int (-1), .int 0, .ref (Q 52), .int 0, .ref (Q 54), .int 0, .ref (Q 56), .ref (Q 57), .ref (Q 58), .ref (Q 59), .ref (Q 60), .ref (Q 61), .ref (Q 62), .ref (Q 63), .ref (Q 64), .ref (Q 65), .ref (Q 66), .ref (Q 67), .ref (Q 68), .int 0, .ref (Q 70), .ref (Q 71)])), (Q 12, .inl (gI G, 4, .inl moDr)), (Q 13, .inl (gI G, 4, .inl (fun _ => 0)))])) (vp_Si (fun r : Int32 => r = (-1))) 0 0 (fun _ => False) := by
  refine Met.ofW (cc := cX13_planned) (maxL := 4) (ret := (some .int)) (by decide) rfl ?_
  intro p e s m args below meth c s₁ B hml hv
  obtain ⟨rfl, hP, hB⟩ := hv
  have hx := B.exec
  have hb := B.bytes
  have hr := B.returns
  have hts := atoms_spec (ws := wq_m_planned) B.pre
  have hown : s.vm.findClass RX13 = some m.cls := findClass_of_methodNamed B.named
  have hlocks := B.notSynchronized
  have hK := hB.1
  have hP : va_P (gD G) vwCl [(mo, .inr (14, [.ref (Q 0), .ref (Q 1), .int 0, .int 0, .int 10, .ref (Q 5), .ref (Q 6), .ref (Q 7), .ref (Q 8), .ref (Q 9), .ref (Q 10), .ref (Q 11), .ref (Q 12), .ref (Q 13), .ref (Q 14), .ref (Q 15), .ref (Q 16), .ref (Q 17), .ref (Q 18), .ref (Q 19), .ref (Q 20), .ref (Q 21), .ref (Q 22), .ref (Q 23), .ref (Q 24), .ref (Q 25), .ref (Q 26), .int 0, .int 0, .int 0, .int 0, .int 0, .ref (Q 32), .ref (Q 33), .ref (Q 34), .ref (Q 35), .ref (Q 36), .ref (Q 37), .ref (Q 38), .ref (Q 39), .ref (Q 40), .ref (Q 40), .int 0, .int 0, .int 0, .int 0, .int 0, .int 0, .int 0, .int 0, .int (-1), .int 0, .ref (Q 52), .int 0, .ref (Q 54), .int 0, .ref (Q 56), .ref (Q 57), .ref (Q 58), .ref (Q 59), .ref (Q 60), .ref (Q 61), .ref (Q 62), .ref (Q 63), .ref (Q 64), .ref (Q 65), .ref (Q 66), .ref (Q 67), .ref (Q 68), .int 0, .ref (Q 70), .ref (Q 71)])), (Q 12, .inl (gI G, 4, .inl moDr)), (Q 13, .inl (gI G, 4, .inl (fun _ => 0)))] s.heap := hP
  have hl := lv_entry ([.ref mo, .int x, .int y, .int z]) (n := 4) (Nat.le_of_ble_eq_true rfl)
  rw [lg_entry_eq]
  generalize (lg_sl ([.ref mo, .int x, .int y, .int z]) ++ List.replicate (4 - (lg_sl ([.ref mo, .int x, .int y, .int z])).length) Slot.unset).toArray = ls at hl ⊢
  have hl : lv_has ls 4 [(0, .ref mo), (1, .int x), (2, .int y), (3, .int z)] := hl
  refine lv_aload_n hx hb dX13_planned_0 rfl (lv_at hl 0 rfl) ?_
  refine lv_iload_n hx hb dX13_planned_1 rfl (lv_at hl 1 rfl) ?_
  refine lv_iload_n hx hb dX13_planned_2 rfl (lv_at hl 2 rfl) ?_
  refine vp_callSi (va_Run.run (va_runV (As := [.int x, .int y]) (rest := []) ⟨hx, hb, hml, hown, hts⟩ (c_m_isFight l G mo Q x y) (cwV 2 hts (gdV (List.mem_cons_of_mem _ (List.mem_append_left _ (List.mem_of_getElem? (i := 0) rfl))) (List.mem_cons_of_mem _ (List.mem_append_left _ (List.mem_of_getElem? (i := 1) rfl))) (List.mem_cons_of_mem _ (List.mem_append_left _ (List.mem_of_getElem? (i := 2) rfl))) (List.mem_cons_of_mem _ (List.mem_append_left _ (List.mem_of_getElem? (i := 3) rfl))) (fun w9 h9 => ⟨(List.mem_cons_of_mem _ (List.mem_append_right _ (List.mem_append_left _ h9))), gd_c_m_isFight w9 h9⟩)) rfl rfl rfl kVX13_isFight ⟨Nat.le_of_ble_eq_true rfl, Nat.le_of_ble_eq_true rfl⟩) (preV_p (As := [.int x, .int y]) (hP.sub (ws' := [(mo, .inr (14, [.ref (Q 0), .ref (Q 1), .int 0, .int 0, .int 10, .ref (Q 5), .ref (Q 6), .ref (Q 7), .ref (Q 8), .ref (Q 9), .ref (Q 10), .ref (Q 11), .ref (Q 12), .ref (Q 13), .ref (Q 14), .ref (Q 15), .ref (Q 16), .ref (Q 17), .ref (Q 18), .ref (Q 19), .ref (Q 20), .ref (Q 21), .ref (Q 22), .ref (Q 23), .ref (Q 24), .ref (Q 25), .ref (Q 26), .int 0, .int 0, .int 0, .int 0, .int 0, .ref (Q 32), .ref (Q 33), .ref (Q 34), .ref (Q 35), .ref (Q 36), .ref (Q 37), .ref (Q 38), .ref (Q 39), .ref (Q 40), .ref (Q 40), .int 0, .int 0, .int 0, .int 0, .int 0, .int 0, .int 0, .int 0, .int (-1), .int 0, .ref (Q 52), .int 0, .ref (Q 54), .int 0, .ref (Q 56), .ref (Q 57), .ref (Q 58), .ref (Q 59), .ref (Q 60), .ref (Q 61), .ref (Q 62), .ref (Q 63), .ref (Q 64), .ref (Q 65), .ref (Q 66), .ref (Q 67), .ref (Q 68), .int 0, .ref (Q 70), .ref (Q 71)])), (Q 12, .inl (gI G, 4, .inl moDr)), (Q 13, .inl (gI G, 4, .inl (fun _ => 0)))]) [0, 1, 2] rfl) hB rfl rfl) rfl rfl hl.1 rfl (lv_room (Nat.le_of_ble_eq_true rfl)) dX13_planned_3 ⟨Nat.le_of_ble_eq_true rfl, Nat.le_of_ble_eq_true rfl⟩)) (fun r_1 hr_1 => ?_)
  subst hr_1
  refine lv_if_eq (tgt := 26) hx hb dX13_planned_6 (by decide) (fun _ => ?_) (fun c9 => absurd (by decide) c9)
  refine lv_iconst (v := (-1)) hx hb dX13_planned_26 (by decide) ?_
  exact W.iret (v := (-1)) hx hb hr (fun t ht hW => ⟨_, rfl, rfl, ht⟩) (fun q h => absurd h List.not_mem_nil) dX13_planned_27

def wo_m_undo : List Cond := [.fieldLink RX13 418 "JudoHallModel" "entries" "I"]
def wq_m_undo : List Cond := .code yX13_undo cX13_undo 3 (some .int) :: (wo_m_undo ++ (wsX130 ++ []))
theorem gd_m_undo : ∀ w ∈ wq_m_undo, Gd w := List.forall_mem_cons.mpr ⟨Or.inl rfl, List.forall_mem_append.mpr ⟨gdl wo_m_undo (by decide +kernel), (List.forall_mem_append.mpr ⟨gd_wsX130, (fun _ h => absurd h List.not_mem_nil)⟩)⟩⟩
theorem in_m_undo : ∀ w ∈ wq_m_undo, w ∈ lw_tbl := List.forall_mem_cons.mpr ⟨List.mem_of_getElem? (i := 1838) (by decide +kernel), List.forall_mem_append.mpr ⟨inT wo_m_undo [1671] (by decide +kernel), (List.forall_mem_append.mpr ⟨in_wsX130, (fun _ h => absurd h List.not_mem_nil)⟩)⟩⟩
set_option maxHeartbeats 4000000 in
set_option maxRecDepth 100000 in
theorem m_undo (l : Launch) (G : gG) (mo : Nat) (Q : Nat → Nat) : Met l yX13_undo wq_m_undo ({ frames := 0, cells := 0, slots := 0, locals := 0 }) (va_Pc [.ref mo] (pP G [(mo, .inr (14, [.ref (Q 0), .ref (Q 1), .int 0, .int 0, .int 10, .ref (Q 5), .ref (Q 6), .ref (Q 7), .ref (Q 8), .ref (Q 9), .ref (Q 10), .ref (Q 11), .ref (Q 12), .ref (Q 13), .ref (Q 14), .ref (Q 15), .ref (Q 16), .ref (Q 17), .ref (Q 18), .ref (Q 19), .ref (Q 20), .ref (Q 21), .ref (Q 22), .ref (Q 23), .ref (Q 24), .ref (Q 25), .ref (Q 26), .int 0, .int 0, .int 0, .int 0, .int 0, .ref (Q 32), .ref (Q 33), .ref (Q 34), .ref (Q 35), .ref (Q 36), .ref (Q 37), .ref (Q 38), .ref (Q 39), .ref (Q 40), .ref (Q 40), .int 0, .int 0, .int 0, .int 0, .int 0, .int 0, .int 0, .int 0, .int (-1), .int 0, .ref (Q 52), .int 0, .ref (Q 54), .int 0, .ref (Q 56), .ref (Q 57), .ref (Q 58), .ref (Q 59), .ref (Q 60), .ref (Q 61), .ref (Q 62), .ref (Q 63), .ref (Q 64), .ref (Q 65), .ref (Q 66), .ref (Q 67), .ref (Q 68), .int 0, .ref (Q 70), .ref (Q 71)]))])) (vp_Si (fun r : Int32 => r = (-1))) 0 0 (fun _ => False) := by
  refine Met.ofW (cc := cX13_undo) (maxL := 3) (ret := (some .int)) (by decide) rfl ?_
  intro p e s m args below meth c s₁ B hml hv
  obtain ⟨rfl, hP, hB⟩ := hv
  have hx := B.exec
  have hb := B.bytes
  have hr := B.returns
  have hts := atoms_spec (ws := wq_m_undo) B.pre
  have hown : s.vm.findClass RX13 = some m.cls := findClass_of_methodNamed B.named
  have hlocks := B.notSynchronized
  have hK := hB.1
  have hP : va_P (gD G) vwCl [(mo, .inr (14, [.ref (Q 0), .ref (Q 1), .int 0, .int 0, .int 10, .ref (Q 5), .ref (Q 6), .ref (Q 7), .ref (Q 8), .ref (Q 9), .ref (Q 10), .ref (Q 11), .ref (Q 12), .ref (Q 13), .ref (Q 14), .ref (Q 15), .ref (Q 16), .ref (Q 17), .ref (Q 18), .ref (Q 19), .ref (Q 20), .ref (Q 21), .ref (Q 22), .ref (Q 23), .ref (Q 24), .ref (Q 25), .ref (Q 26), .int 0, .int 0, .int 0, .int 0, .int 0, .ref (Q 32), .ref (Q 33), .ref (Q 34), .ref (Q 35), .ref (Q 36), .ref (Q 37), .ref (Q 38), .ref (Q 39), .ref (Q 40), .ref (Q 40), .int 0, .int 0, .int 0, .int 0, .int 0, .int 0, .int 0, .int 0, .int (-1), .int 0, .ref (Q 52), .int 0, .ref (Q 54), .int 0, .ref (Q 56), .ref (Q 57), .ref (Q 58), .ref (Q 59), .ref (Q 60), .ref (Q 61), .ref (Q 62), .ref (Q 63), .ref (Q 64), .ref (Q 65), .ref (Q 66), .ref (Q 67), .ref (Q 68), .int 0, .ref (Q 70), .ref (Q 71)]))] s.heap := hP
  have hl := lv_entry ([.ref mo]) (n := 3) (Nat.le_of_ble_eq_true rfl)
  rw [lg_entry_eq]
  generalize (lg_sl ([.ref mo]) ++ List.replicate (3 - (lg_sl ([.ref mo])).length) Slot.unset).toArray = ls at hl ⊢
  have hl : lv_has ls 3 [(0, .ref mo)] := hl
  refine lv_aload_n hx hb dX13_undo_0 rfl (lv_at hl 0 rfl) ?_
  refine va_get (D := gD G) (ci := 14) (v := .int 0) (C := RX13) (T := TX13) (N := 72) hx hb hts (fun _ h9 => (List.mem_cons_of_mem _ (List.mem_append_right _ (List.mem_append_left _ h9)))) hown hK hP 0 rfl rfl 53 (by decide) (hts (.fieldLink RX13 418 "JudoHallModel" "entries" "I") (List.mem_cons_of_mem _ (List.mem_append_left _ (List.mem_of_getElem? (i := 0) rfl)))) (fun _ h9 => h9) rfl dX13_undo_1 ?_
  refine lv_if_ne (tgt := 9) hx hb dX13_undo_4 (by decide) (fun c9 => absurd (by decide) c9) (fun _ => ?_)
  refine lv_iconst (v := (-1)) hx hb dX13_undo_7 (by decide) ?_
  exact W.iret (v := (-1)) hx hb hr (fun t ht hW => ⟨_, rfl, rfl, ht⟩) (fun q h => absurd h List.not_mem_nil) dX13_undo_8

def wo_m_count : List Cond := [.fieldLink RX13 176 "JudoHallModel" "fighters" "I", .fieldLink RX13 179 "JudoHallModel" "minute" "I", .fieldLink RX13 182 "JudoHallModel" "restMinutes" "I", .fieldLink RX13 186 "JudoHallModel" "signs" "I", .fieldLink RX13 189 "JudoHallModel" "lines" "I", .fieldLink RX13 192 "JudoHallModel" "parts" "I", .fieldLink RX13 67 "JudoHallModel" "on" "[I", .fieldLink RX13 418 "JudoHallModel" "entries" "I", .fieldLink RX13 457 "JudoHallModel" "taped" "I"]
def wq_m_count : List Cond := .code yX13_count cX13_count 4 (some .int) :: (wo_m_count ++ (wsX130 ++ []))
theorem gd_m_count : ∀ w ∈ wq_m_count, Gd w := List.forall_mem_cons.mpr ⟨Or.inl rfl, List.forall_mem_append.mpr ⟨gdl wo_m_count (by decide +kernel), (List.forall_mem_append.mpr ⟨gd_wsX130, (fun _ h => absurd h List.not_mem_nil)⟩)⟩⟩
theorem in_m_count : ∀ w ∈ wq_m_count, w ∈ lw_tbl := List.forall_mem_cons.mpr ⟨List.mem_of_getElem? (i := 2335) (by decide +kernel), List.forall_mem_append.mpr ⟨inT wo_m_count [1620, 1621, 1622, 1647, 1648, 1649, 1640, 1671, 1660] (by decide +kernel), (List.forall_mem_append.mpr ⟨in_wsX130, (fun _ h => absurd h List.not_mem_nil)⟩)⟩⟩
set_option maxHeartbeats 4000000 in
set_option maxRecDepth 100000 in
theorem m_count (l : Launch) (G : gG) (mo : Nat) (Q : Nat → Nat) (x : Int32) : Met l yX13_count wq_m_count ({ frames := 0, cells := 0, slots := 0, locals := 0 }) (va_Pc [.ref mo, .int x] (pP G [(mo, .inr (14, [.ref (Q 0), .ref (Q 1), .int 0, .int 0, .int 10, .ref (Q 5), .ref (Q 6), .ref (Q 7), .ref (Q 8), .ref (Q 9), .ref (Q 10), .ref (Q 11), .ref (Q 12), .ref (Q 13), .ref (Q 14), .ref (Q 15), .ref (Q 16), .ref (Q 17), .ref (Q 18), .ref (Q 19), .ref (Q 20), .ref (Q 21), .ref (Q 22), .ref (Q 23), .ref (Q 24), .ref (Q 25), .ref (Q 26), .int 0, .int 0, .int 0, .int 0, .int 0, .ref (Q 32), .ref (Q 33), .ref (Q 34), .ref (Q 35), .ref (Q 36), .ref (Q 37), .ref (Q 38), .ref (Q 39), .ref (Q 40), .ref (Q 40), .int 0, .int 0, .int 0, .int 0, .int 0, .int 0, .int 0, .int 0, .int (-1), .int 0, .ref (Q 52), .int 0, .ref (Q 54), .int 0, .ref (Q 56), .ref (Q 57), .ref (Q 58), .ref (Q 59), .ref (Q 60), .ref (Q 61), .ref (Q 62), .ref (Q 63), .ref (Q 64), .ref (Q 65), .ref (Q 66), .ref (Q 67), .ref (Q 68), .int 0, .ref (Q 70), .ref (Q 71)])), (Q 22, .inl (gI G, 4, .inl moOn))])) (vp_Si (fun r : Int32 => r = if x < 0 ∨ 9 ≤ x then (-1) else if x = 2 then 10 else 0)) 0 0 (fun _ => False) := by
  refine Met.ofW (cc := cX13_count) (maxL := 4) (ret := (some .int)) (by decide) rfl ?_
  intro p e s m args below meth c s₁ B hml hv
  obtain ⟨rfl, hP, hB⟩ := hv
  have hx := B.exec
  have hb := B.bytes
  have hr := B.returns
  have hts := atoms_spec (ws := wq_m_count) B.pre
  have hown : s.vm.findClass RX13 = some m.cls := findClass_of_methodNamed B.named
  have hlocks := B.notSynchronized
  have hK := hB.1
  have hP : va_P (gD G) vwCl [(mo, .inr (14, [.ref (Q 0), .ref (Q 1), .int 0, .int 0, .int 10, .ref (Q 5), .ref (Q 6), .ref (Q 7), .ref (Q 8), .ref (Q 9), .ref (Q 10), .ref (Q 11), .ref (Q 12), .ref (Q 13), .ref (Q 14), .ref (Q 15), .ref (Q 16), .ref (Q 17), .ref (Q 18), .ref (Q 19), .ref (Q 20), .ref (Q 21), .ref (Q 22), .ref (Q 23), .ref (Q 24), .ref (Q 25), .ref (Q 26), .int 0, .int 0, .int 0, .int 0, .int 0, .ref (Q 32), .ref (Q 33), .ref (Q 34), .ref (Q 35), .ref (Q 36), .ref (Q 37), .ref (Q 38), .ref (Q 39), .ref (Q 40), .ref (Q 40), .int 0, .int 0, .int 0, .int 0, .int 0, .int 0, .int 0, .int 0, .int (-1), .int 0, .ref (Q 52), .int 0, .ref (Q 54), .int 0, .ref (Q 56), .ref (Q 57), .ref (Q 58), .ref (Q 59), .ref (Q 60), .ref (Q 61), .ref (Q 62), .ref (Q 63), .ref (Q 64), .ref (Q 65), .ref (Q 66), .ref (Q 67), .ref (Q 68), .int 0, .ref (Q 70), .ref (Q 71)])), (Q 22, .inl (gI G, 4, .inl moOn))] s.heap := hP
  have hl := lv_entry ([.ref mo, .int x]) (n := 4) (Nat.le_of_ble_eq_true rfl)
  rw [lg_entry_eq]
  generalize (lg_sl ([.ref mo, .int x]) ++ List.replicate (4 - (lg_sl ([.ref mo, .int x])).length) Slot.unset).toArray = ls at hl ⊢
  have hl : lv_has ls 4 [(0, .ref mo), (1, .int x)] := hl
  refine lv_iconst (v := 0) hx hb dX13_count_0 (by decide) ?_
  refine lv_istore_n (lv' := [(2, .int 0), (0, .ref mo), (1, .int x)]) hx hb dX13_count_1 rfl hl (by decide) rfl (fun ls hl => ?_)
  refine lv_iload_n hx hb dX13_count_2 rfl (lv_at hl 2 rfl) ?_
  by_cases c_1 : x < 0
  · refine lv_tableOut (tgt := 125) hx hb dX13_count_3 (Or.inl (gx_n0 c_1)) (by decide) ?_
    refine lv_iconst (v := (-1)) hx hb dX13_count_125 (by decide) ?_
    exact W.iret (v := (-1)) hx hb hr (fun t ht hW => ⟨_, rfl, by rw [if_pos (show x < 0 ∨ 9 ≤ x from (Or.inl c_1))], ht⟩) (fun q h => absurd h List.not_mem_nil) dX13_count_126
  by_cases c_2 : 9 ≤ x
  · refine lv_tableOut (tgt := 125) hx hb dX13_count_3 (Or.inr (gx_nh (k := 9) (by decide) c_2)) (by decide) ?_
    refine lv_iconst (v := (-1)) hx hb dX13_count_125 (by decide) ?_
    exact W.iret (v := (-1)) hx hb hr (fun t ht hW => ⟨_, rfl, by rw [if_pos (show x < 0 ∨ 9 ≤ x from (Or.inr c_2))], ht⟩) (fun q h => absurd h List.not_mem_nil) dX13_count_126
  rcases gx_c9 c_1 c_2 with c_3 | c_4 | c_5 | c_6 | c_7 | c_8 | c_9 | c_10 | c_11
  · refine lv_tableIn (off := 49) (tgt := 52) hx hb dX13_count_3 (by rw [c_3]; decide) (by rw [c_3]; decide) (by rw [c_3]; rfl) (by decide) ?_
    refine lv_aload_n hx hb dX13_count_52 rfl (lv_at hl 1 rfl) ?_
    refine va_get (D := gD G) (ci := 14) (v := .int 0) (C := RX13) (T := TX13) (N := 72) hx hb hts (fun _ h9 => (List.mem_cons_of_mem _ (List.mem_append_right _ (List.mem_append_left _ h9)))) hown hK hP 0 rfl rfl 2 (by decide) (hts (.fieldLink RX13 176 "JudoHallModel" "fighters" "I") (List.mem_cons_of_mem _ (List.mem_append_left _ (List.mem_of_getElem? (i := 0) rfl)))) (fun _ h9 => h9) rfl dX13_count_53 ?_
    exact W.iret (v := 0) hx hb hr (fun t ht hW => ⟨_, rfl, by rw [if_neg (show ¬ (x < 0 ∨ 9 ≤ x) from (not_or.mpr ⟨c_1, c_2⟩)), if_neg (show ¬ (x = 2) from (by rw [c_3]; decide))], ht⟩) (fun q h => absurd h List.not_mem_nil) dX13_count_56
  · refine lv_tableIn (off := 54) (tgt := 57) hx hb dX13_count_3 (by rw [c_4]; decide) (by rw [c_4]; decide) (by rw [c_4]; rfl) (by decide) ?_
    refine lv_aload_n hx hb dX13_count_57 rfl (lv_at hl 1 rfl) ?_
    refine va_get (D := gD G) (ci := 14) (v := .int 0) (C := RX13) (T := TX13) (N := 72) hx hb hts (fun _ h9 => (List.mem_cons_of_mem _ (List.mem_append_right _ (List.mem_append_left _ h9)))) hown hK hP 0 rfl rfl 3 (by decide) (hts (.fieldLink RX13 179 "JudoHallModel" "minute" "I") (List.mem_cons_of_mem _ (List.mem_append_left _ (List.mem_of_getElem? (i := 1) rfl)))) (fun _ h9 => h9) rfl dX13_count_58 ?_
    exact W.iret (v := 0) hx hb hr (fun t ht hW => ⟨_, rfl, by rw [if_neg (show ¬ (x < 0 ∨ 9 ≤ x) from (not_or.mpr ⟨c_1, c_2⟩)), if_neg (show ¬ (x = 2) from (by rw [c_4]; decide))], ht⟩) (fun q h => absurd h List.not_mem_nil) dX13_count_61
  · refine lv_tableIn (off := 59) (tgt := 62) hx hb dX13_count_3 (by rw [c_5]; decide) (by rw [c_5]; decide) (by rw [c_5]; rfl) (by decide) ?_
    refine lv_aload_n hx hb dX13_count_62 rfl (lv_at hl 1 rfl) ?_
    refine va_get (D := gD G) (ci := 14) (v := .int 10) (C := RX13) (T := TX13) (N := 72) hx hb hts (fun _ h9 => (List.mem_cons_of_mem _ (List.mem_append_right _ (List.mem_append_left _ h9)))) hown hK hP 0 rfl rfl 4 (by decide) (hts (.fieldLink RX13 182 "JudoHallModel" "restMinutes" "I") (List.mem_cons_of_mem _ (List.mem_append_left _ (List.mem_of_getElem? (i := 2) rfl)))) (fun _ h9 => h9) rfl dX13_count_63 ?_
    exact W.iret (v := 10) hx hb hr (fun t ht hW => ⟨_, rfl, by rw [if_neg (show ¬ (x < 0 ∨ 9 ≤ x) from (not_or.mpr ⟨c_1, c_2⟩)), if_pos (show x = 2 from c_5)], ht⟩) (fun q h => absurd h List.not_mem_nil) dX13_count_66
  · refine lv_tableIn (off := 64) (tgt := 67) hx hb dX13_count_3 (by rw [c_6]; decide) (by rw [c_6]; decide) (by rw [c_6]; rfl) (by decide) ?_
    refine lv_aload_n hx hb dX13_count_67 rfl (lv_at hl 1 rfl) ?_
    refine va_get (D := gD G) (ci := 14) (v := .int 0) (C := RX13) (T := TX13) (N := 72) hx hb hts (fun _ h9 => (List.mem_cons_of_mem _ (List.mem_append_right _ (List.mem_append_left _ h9)))) hown hK hP 0 rfl rfl 29 (by decide) (hts (.fieldLink RX13 186 "JudoHallModel" "signs" "I") (List.mem_cons_of_mem _ (List.mem_append_left _ (List.mem_of_getElem? (i := 3) rfl)))) (fun _ h9 => h9) rfl dX13_count_68 ?_
    exact W.iret (v := 0) hx hb hr (fun t ht hW => ⟨_, rfl, by rw [if_neg (show ¬ (x < 0 ∨ 9 ≤ x) from (not_or.mpr ⟨c_1, c_2⟩)), if_neg (show ¬ (x = 2) from (by rw [c_6]; decide))], ht⟩) (fun q h => absurd h List.not_mem_nil) dX13_count_71
  · refine lv_tableIn (off := 69) (tgt := 72) hx hb dX13_count_3 (by rw [c_7]; decide) (by rw [c_7]; decide) (by rw [c_7]; rfl) (by decide) ?_
    refine lv_aload_n hx hb dX13_count_72 rfl (lv_at hl 1 rfl) ?_
    refine va_get (D := gD G) (ci := 14) (v := .int 0) (C := RX13) (T := TX13) (N := 72) hx hb hts (fun _ h9 => (List.mem_cons_of_mem _ (List.mem_append_right _ (List.mem_append_left _ h9)))) hown hK hP 0 rfl rfl 30 (by decide) (hts (.fieldLink RX13 189 "JudoHallModel" "lines" "I") (List.mem_cons_of_mem _ (List.mem_append_left _ (List.mem_of_getElem? (i := 4) rfl)))) (fun _ h9 => h9) rfl dX13_count_73 ?_
    exact W.iret (v := 0) hx hb hr (fun t ht hW => ⟨_, rfl, by rw [if_neg (show ¬ (x < 0 ∨ 9 ≤ x) from (not_or.mpr ⟨c_1, c_2⟩)), if_neg (show ¬ (x = 2) from (by rw [c_7]; decide))], ht⟩) (fun q h => absurd h List.not_mem_nil) dX13_count_76
  · refine lv_tableIn (off := 74) (tgt := 77) hx hb dX13_count_3 (by rw [c_8]; decide) (by rw [c_8]; decide) (by rw [c_8]; rfl) (by decide) ?_
    refine lv_aload_n hx hb dX13_count_77 rfl (lv_at hl 1 rfl) ?_
    refine va_get (D := gD G) (ci := 14) (v := .int 0) (C := RX13) (T := TX13) (N := 72) hx hb hts (fun _ h9 => (List.mem_cons_of_mem _ (List.mem_append_right _ (List.mem_append_left _ h9)))) hown hK hP 0 rfl rfl 31 (by decide) (hts (.fieldLink RX13 192 "JudoHallModel" "parts" "I") (List.mem_cons_of_mem _ (List.mem_append_left _ (List.mem_of_getElem? (i := 5) rfl)))) (fun _ h9 => h9) rfl dX13_count_78 ?_
    exact W.iret (v := 0) hx hb hr (fun t ht hW => ⟨_, rfl, by rw [if_neg (show ¬ (x < 0 ∨ 9 ≤ x) from (not_or.mpr ⟨c_1, c_2⟩)), if_neg (show ¬ (x = 2) from (by rw [c_8]; decide))], ht⟩) (fun q h => absurd h List.not_mem_nil) dX13_count_81
  · refine lv_tableIn (off := 79) (tgt := 82) hx hb dX13_count_3 (by rw [c_9]; decide) (by rw [c_9]; decide) (by rw [c_9]; rfl) (by decide) ?_
    refine lv_iconst (v := 0) hx hb dX13_count_82 (by decide) ?_
    refine lv_istore_n (lv' := [(3, .int 0), (2, .int 0), (0, .ref mo), (1, .int x)]) hx hb dX13_count_83 rfl hl (by decide) rfl (fun ls hl => ?_)
    refine lv_iload_n hx hb dX13_count_84 rfl (lv_at hl 0 rfl) ?_
    refine lv_iconst (v := 4) hx hb dX13_count_85 (by decide) ?_
    refine lv_icmp_ge (tgt := 113) hx hb dX13_count_86 (by decide) (fun c9 => absurd c9 (by decide)) (fun _ => ?_)
    refine lv_iload_n hx hb dX13_count_89 rfl (lv_at hl 1 rfl) ?_
    refine lv_aload_n hx hb dX13_count_90 rfl (lv_at hl 2 rfl) ?_
    refine va_get (D := gD G) (ci := 14) (v := .ref (Q 22)) (C := RX13) (T := TX13) (N := 72) hx hb hts (fun _ h9 => (List.mem_cons_of_mem _ (List.mem_append_right _ (List.mem_append_left _ h9)))) hown hK hP 0 rfl rfl 22 (by decide) (hts (.fieldLink RX13 67 "JudoHallModel" "on" "[I") (List.mem_cons_of_mem _ (List.mem_append_left _ (List.mem_of_getElem? (i := 6) rfl)))) (fun _ h9 => h9) rfl dX13_count_91 ?_
    refine lv_iload_n hx hb dX13_count_94 rfl (lv_at hl 0 rfl) ?_
    refine va_iald (D := gD G) hx hb hK hP 1 0 rfl rfl (gx_in (by decide)) dX13_count_95 ?_
    refine gx_ti (y := (-1)) (by decide +kernel) ?_
    refine lv_iconst (v := (-1)) hx hb dX13_count_96 (by decide) ?_
    refine lv_icmp_eq (tgt := 104) hx hb dX13_count_97 (by decide) (fun _ => ?_) (fun c9 => absurd (by decide) c9)
    refine lv_iconst (v := 0) hx hb dX13_count_104 (by decide) ?_
    refine lv_iadd hx hb dX13_count_105 ?_
    refine gx_ti (y := 0) (by decide) ?_
    refine lv_istore_n (lv' := [(2, .int 0), (3, .int 0), (0, .ref mo), (1, .int x)]) hx hb dX13_count_106 rfl hl (by decide) rfl (fun ls hl => ?_)
    refine lv_iinc (v := 1) (lv' := [(3, .int 1), (2, .int 0), (0, .ref mo), (1, .int x)]) hx hb dX13_count_107 hl (k := 1) rfl (by decide) (by decide) rfl (fun ls hl => ?_)
    refine lv_goto (tgt := 84) hx hb dX13_count_110 (by decide) ?_
    refine lv_iload_n hx hb dX13_count_84 rfl (lv_at hl 0 rfl) ?_
    refine lv_iconst (v := 4) hx hb dX13_count_85 (by decide) ?_
    refine lv_icmp_ge (tgt := 113) hx hb dX13_count_86 (by decide) (fun c9 => absurd c9 (by decide)) (fun _ => ?_)
    refine lv_iload_n hx hb dX13_count_89 rfl (lv_at hl 1 rfl) ?_
    refine lv_aload_n hx hb dX13_count_90 rfl (lv_at hl 2 rfl) ?_
    refine va_get (D := gD G) (ci := 14) (v := .ref (Q 22)) (C := RX13) (T := TX13) (N := 72) hx hb hts (fun _ h9 => (List.mem_cons_of_mem _ (List.mem_append_right _ (List.mem_append_left _ h9)))) hown hK hP 0 rfl rfl 22 (by decide) (hts (.fieldLink RX13 67 "JudoHallModel" "on" "[I") (List.mem_cons_of_mem _ (List.mem_append_left _ (List.mem_of_getElem? (i := 6) rfl)))) (fun _ h9 => h9) rfl dX13_count_91 ?_
    refine lv_iload_n hx hb dX13_count_94 rfl (lv_at hl 0 rfl) ?_
    refine va_iald (D := gD G) hx hb hK hP 1 0 rfl rfl (gx_in (by decide)) dX13_count_95 ?_
    refine gx_ti (y := (-1)) (by decide +kernel) ?_
    refine lv_iconst (v := (-1)) hx hb dX13_count_96 (by decide) ?_
    refine lv_icmp_eq (tgt := 104) hx hb dX13_count_97 (by decide) (fun _ => ?_) (fun c9 => absurd (by decide) c9)
    refine lv_iconst (v := 0) hx hb dX13_count_104 (by decide) ?_
    refine lv_iadd hx hb dX13_count_105 ?_
    refine gx_ti (y := 0) (by decide) ?_
    refine lv_istore_n (lv' := [(2, .int 0), (3, .int 1), (0, .ref mo), (1, .int x)]) hx hb dX13_count_106 rfl hl (by decide) rfl (fun ls hl => ?_)
    refine lv_iinc (v := 2) (lv' := [(3, .int 2), (2, .int 0), (0, .ref mo), (1, .int x)]) hx hb dX13_count_107 hl (k := 1) rfl (by decide) (by decide) rfl (fun ls hl => ?_)
    refine lv_goto (tgt := 84) hx hb dX13_count_110 (by decide) ?_
    refine lv_iload_n hx hb dX13_count_84 rfl (lv_at hl 0 rfl) ?_
    refine lv_iconst (v := 4) hx hb dX13_count_85 (by decide) ?_
    refine lv_icmp_ge (tgt := 113) hx hb dX13_count_86 (by decide) (fun c9 => absurd c9 (by decide)) (fun _ => ?_)
    refine lv_iload_n hx hb dX13_count_89 rfl (lv_at hl 1 rfl) ?_
    refine lv_aload_n hx hb dX13_count_90 rfl (lv_at hl 2 rfl) ?_
    refine va_get (D := gD G) (ci := 14) (v := .ref (Q 22)) (C := RX13) (T := TX13) (N := 72) hx hb hts (fun _ h9 => (List.mem_cons_of_mem _ (List.mem_append_right _ (List.mem_append_left _ h9)))) hown hK hP 0 rfl rfl 22 (by decide) (hts (.fieldLink RX13 67 "JudoHallModel" "on" "[I") (List.mem_cons_of_mem _ (List.mem_append_left _ (List.mem_of_getElem? (i := 6) rfl)))) (fun _ h9 => h9) rfl dX13_count_91 ?_
    refine lv_iload_n hx hb dX13_count_94 rfl (lv_at hl 0 rfl) ?_
    refine va_iald (D := gD G) hx hb hK hP 1 0 rfl rfl (gx_in (by decide)) dX13_count_95 ?_
    refine gx_ti (y := (-1)) (by decide +kernel) ?_
    refine lv_iconst (v := (-1)) hx hb dX13_count_96 (by decide) ?_
    refine lv_icmp_eq (tgt := 104) hx hb dX13_count_97 (by decide) (fun _ => ?_) (fun c9 => absurd (by decide) c9)
    refine lv_iconst (v := 0) hx hb dX13_count_104 (by decide) ?_
    refine lv_iadd hx hb dX13_count_105 ?_
    refine gx_ti (y := 0) (by decide) ?_
    refine lv_istore_n (lv' := [(2, .int 0), (3, .int 2), (0, .ref mo), (1, .int x)]) hx hb dX13_count_106 rfl hl (by decide) rfl (fun ls hl => ?_)
    refine lv_iinc (v := 3) (lv' := [(3, .int 3), (2, .int 0), (0, .ref mo), (1, .int x)]) hx hb dX13_count_107 hl (k := 1) rfl (by decide) (by decide) rfl (fun ls hl => ?_)
    refine lv_goto (tgt := 84) hx hb dX13_count_110 (by decide) ?_
    refine lv_iload_n hx hb dX13_count_84 rfl (lv_at hl 0 rfl) ?_
    refine lv_iconst (v := 4) hx hb dX13_count_85 (by decide) ?_
    refine lv_icmp_ge (tgt := 113) hx hb dX13_count_86 (by decide) (fun c9 => absurd c9 (by decide)) (fun _ => ?_)
    refine lv_iload_n hx hb dX13_count_89 rfl (lv_at hl 1 rfl) ?_
    refine lv_aload_n hx hb dX13_count_90 rfl (lv_at hl 2 rfl) ?_
    refine va_get (D := gD G) (ci := 14) (v := .ref (Q 22)) (C := RX13) (T := TX13) (N := 72) hx hb hts (fun _ h9 => (List.mem_cons_of_mem _ (List.mem_append_right _ (List.mem_append_left _ h9)))) hown hK hP 0 rfl rfl 22 (by decide) (hts (.fieldLink RX13 67 "JudoHallModel" "on" "[I") (List.mem_cons_of_mem _ (List.mem_append_left _ (List.mem_of_getElem? (i := 6) rfl)))) (fun _ h9 => h9) rfl dX13_count_91 ?_
    refine lv_iload_n hx hb dX13_count_94 rfl (lv_at hl 0 rfl) ?_
    refine va_iald (D := gD G) hx hb hK hP 1 0 rfl rfl (gx_in (by decide)) dX13_count_95 ?_
    refine gx_ti (y := (-1)) (by decide +kernel) ?_
    refine lv_iconst (v := (-1)) hx hb dX13_count_96 (by decide) ?_
    refine lv_icmp_eq (tgt := 104) hx hb dX13_count_97 (by decide) (fun _ => ?_) (fun c9 => absurd (by decide) c9)
    refine lv_iconst (v := 0) hx hb dX13_count_104 (by decide) ?_
    refine lv_iadd hx hb dX13_count_105 ?_
    refine gx_ti (y := 0) (by decide) ?_
    refine lv_istore_n (lv' := [(2, .int 0), (3, .int 3), (0, .ref mo), (1, .int x)]) hx hb dX13_count_106 rfl hl (by decide) rfl (fun ls hl => ?_)
    refine lv_iinc (v := 4) (lv' := [(3, .int 4), (2, .int 0), (0, .ref mo), (1, .int x)]) hx hb dX13_count_107 hl (k := 1) rfl (by decide) (by decide) rfl (fun ls hl => ?_)
    refine lv_goto (tgt := 84) hx hb dX13_count_110 (by decide) ?_
    refine lv_iload_n hx hb dX13_count_84 rfl (lv_at hl 0 rfl) ?_
    refine lv_iconst (v := 4) hx hb dX13_count_85 (by decide) ?_
    refine lv_icmp_ge (tgt := 113) hx hb dX13_count_86 (by decide) (fun _ => ?_) (fun c9 => absurd (by decide) c9)
    refine lv_iload_n hx hb dX13_count_113 rfl (lv_at hl 1 rfl) ?_
    exact W.iret (v := 0) hx hb hr (fun t ht hW => ⟨_, rfl, by rw [if_neg (show ¬ (x < 0 ∨ 9 ≤ x) from (not_or.mpr ⟨c_1, c_2⟩)), if_neg (show ¬ (x = 2) from (by rw [c_9]; decide))], ht⟩) (fun q h => absurd h List.not_mem_nil) dX13_count_114
  · refine lv_tableIn (off := 112) (tgt := 115) hx hb dX13_count_3 (by rw [c_10]; decide) (by rw [c_10]; decide) (by rw [c_10]; rfl) (by decide) ?_
    refine lv_aload_n hx hb dX13_count_115 rfl (lv_at hl 1 rfl) ?_
    refine va_get (D := gD G) (ci := 14) (v := .int 0) (C := RX13) (T := TX13) (N := 72) hx hb hts (fun _ h9 => (List.mem_cons_of_mem _ (List.mem_append_right _ (List.mem_append_left _ h9)))) hown hK hP 0 rfl rfl 53 (by decide) (hts (.fieldLink RX13 418 "JudoHallModel" "entries" "I") (List.mem_cons_of_mem _ (List.mem_append_left _ (List.mem_of_getElem? (i := 7) rfl)))) (fun _ h9 => h9) rfl dX13_count_116 ?_
    exact W.iret (v := 0) hx hb hr (fun t ht hW => ⟨_, rfl, by rw [if_neg (show ¬ (x < 0 ∨ 9 ≤ x) from (not_or.mpr ⟨c_1, c_2⟩)), if_neg (show ¬ (x = 2) from (by rw [c_10]; decide))], ht⟩) (fun q h => absurd h List.not_mem_nil) dX13_count_119
  · refine lv_tableIn (off := 117) (tgt := 120) hx hb dX13_count_3 (by rw [c_11]; decide) (by rw [c_11]; decide) (by rw [c_11]; rfl) (by decide) ?_
    refine lv_aload_n hx hb dX13_count_120 rfl (lv_at hl 1 rfl) ?_
    refine va_get (D := gD G) (ci := 14) (v := .int 0) (C := RX13) (T := TX13) (N := 72) hx hb hts (fun _ h9 => (List.mem_cons_of_mem _ (List.mem_append_right _ (List.mem_append_left _ h9)))) hown hK hP 0 rfl rfl 42 (by decide) (hts (.fieldLink RX13 457 "JudoHallModel" "taped" "I") (List.mem_cons_of_mem _ (List.mem_append_left _ (List.mem_of_getElem? (i := 8) rfl)))) (fun _ h9 => h9) rfl dX13_count_121 ?_
    exact W.iret (v := 0) hx hb hr (fun t ht hW => ⟨_, rfl, by rw [if_neg (show ¬ (x < 0 ∨ 9 ≤ x) from (not_or.mpr ⟨c_1, c_2⟩)), if_neg (show ¬ (x = 2) from (by rw [c_11]; decide))], ht⟩) (fun q h => absurd h List.not_mem_nil) dX13_count_124
