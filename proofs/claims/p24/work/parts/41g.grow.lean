theorem ngr_ne {a b : Nat} (h : a < b) (hb : b < 2 ^ 31) : ¬ nI b = nI a := fun e => by
  have h1 := congrArg Int32.toNatClampNeg e
  rw [nI_clamp hb, nI_clamp (by omega)] at h1
  omega
theorem ngr_min {a b : Nat} (h : a < b) (hb : b < 2 ^ 31) : (if nI b < nI a then nI b else nI a) = nI a := if_neg (fun z => by
  have := (nI_ltI hb (by omega)).mp z
  omega)
theorem ngr_max {a b : Nat} (ha : a < 2 ^ 31) (hb : b < 2 ^ 31) : (if nI a < nI b then nI b else nI a) = nI (max a b) := by
  by_cases h : a < b
  · rw [if_pos (nI_lt h hb), Nat.max_eq_right (by omega)]
  · rw [if_neg (fun z => h ((nI_ltI ha hb).mp z)), Nat.max_eq_left (by omega)]
theorem ngr_two (n : Nat) : (2 : Int32) * nI n = nI (2 * n) := by
  have h : (2 : Int32) = nI 2 := rfl
  rw [h]
  exact (Int32.ofNat_mul 2 n).symm
theorem ngr_one (n : Nat) : nI n + 1 = nI (n + 1) := nI_add n 1
def wo_c_copyOf : List Cond := [.arrayClass .int, .methodLink RJ7 304 Lib.Math.min.name, .static Lib.Math.min.name, .initialized RJ9, .code Lib.Math.min.name Lib.Math.min.code 2 (some .int), .methodLink RJ7 150 arraycopyName, .static arraycopyName, .native arraycopyName, .initialized RJ10]
def wq_c_copyOf : List Cond := .code yJ7_copyOf_59c91 cJ7_copyOf_59c91 3 (some (.array .int)) :: (wo_c_copyOf ++ [])
theorem gd_c_copyOf : ∀ w ∈ wq_c_copyOf, Gd w := List.forall_mem_cons.mpr ⟨Or.inl rfl, List.forall_mem_append.mpr ⟨gdl wo_c_copyOf (by decide +kernel), (fun _ h => absurd h List.not_mem_nil)⟩⟩
theorem in_c_copyOf : ∀ w ∈ wq_c_copyOf, w ∈ lw_tbl := List.forall_mem_cons.mpr ⟨List.mem_of_getElem? (i := 954) (by decide +kernel), List.forall_mem_append.mpr ⟨inT wo_c_copyOf [213, 935, 936, 157, 937, 938, 939, 940, 181] (by decide +kernel), (fun _ h => absurd h List.not_mem_nil)⟩⟩
set_option maxHeartbeats 4000000 in
set_option maxRecDepth 100000 in
theorem c_copyOf (l : Launch) (G : gG) (a0 n : Nat) (f : Nat → Int32) (k sz : Nat) (hn : n < k) (hk : k ≤ 16777216) : Met l yJ7_copyOf_59c91 wq_c_copyOf ({ frames := 1, cells := 1, slots := k, locals := 40 }) (va_Pc [.ref a0, .int (nI k)] (mP G [(a0, .inl (gI G, n, .inl f))] sz)) (va_Qr (fun _ : Unit => True) (fun (_ : Unit) (q : Nat) (t : State) => va_P (gD G) vwCl [(a0, .inl (gI G, n, .inl f)), (q, .inl (gI G, k, .inl (va_cpy f (fun _ => 0) 0 0 n)))] t.heap ∧ va_D (va_A [(a0, .inl (gI G, n, .inl f))] sz) [(a0, .inl (gI G, n, .inl f)), (q, .inl (gI G, k, .inl (va_cpy f (fun _ => 0) 0 0 n)))]) (va_A [(a0, .inl (gI G, n, .inl f))] sz)) 1 k (va_A [(a0, .inl (gI G, n, .inl f))] sz) := by
  refine Met.ofW (cc := cJ7_copyOf_59c91) (maxL := 3) (ret := (some (.array .int))) (by decide) rfl ?_
  intro p e s m args below meth c s₁ B hml hv
  obtain ⟨rfl, hsz, hP, hB, hD0⟩ := hv
  have hx := B.exec
  have hb := B.bytes
  have hr := B.returns
  have hts := atoms_spec (ws := wq_c_copyOf) B.pre
  have hown : s.vm.findClass RJ7 = some m.cls := findClass_of_methodNamed B.named
  have hlocks := B.notSynchronized
  have hK := hB.1
  subst hsz
  have hD := hD0.self (sz := s.heap.size)
  have hA : ∀ q : Nat, s.heap.size ≤ q → va_A [(a0, .inl (gI G, n, .inl f))] s.heap.size q := fun q h => Or.inr h
  generalize va_A [(a0, .inl (gI G, n, .inl f))] s.heap.size = A at hD hA ⊢
  have hS : va_S A s.heap s.heap [] := va_S.rf
  have hl := lv_entry ([.ref a0, .int (nI k)]) (n := 3) (Nat.le_of_ble_eq_true rfl)
  rw [lg_entry_eq]
  generalize (lg_sl ([.ref a0, .int (nI k)]) ++ List.replicate (3 - (lg_sl ([.ref a0, .int (nI k)])).length) Slot.unset).toArray = ls at hl ⊢
  have hl : lv_has ls 3 [(0, .ref a0), (1, .int (nI k))] := hl
  refine lv_iload_n hx hb dJ7_copyOf_59c91_0 rfl (lv_at hl 1 rfl) ?_
  refine lv_aload_n hx hb dJ7_copyOf_59c91_1 rfl (lv_at hl 0 rfl) ?_
  refine va_alen (D := gD G) (v := nI n) hx hb hK hP 0 0 rfl rfl rfl dJ7_copyOf_59c91_2 ?_
  refine lv_icmp_ne (tgt := 14) hx hb dJ7_copyOf_59c91_3 (by decide) (fun _ => ?_) (fun c9 => absurd c9 (ngr_ne hn (by omega)))
  refine lv_iload_n hx hb dJ7_copyOf_59c91_14 rfl (lv_at hl 1 rfl) ?_
  refine va_newa (atype := .int) (D := gD G) (ty := .int) (a0 := (k, .inl (fun _ => 0))) hx hb (hts (.arrayClass .int) (List.mem_cons_of_mem _ (List.mem_append_left _ (List.mem_of_getElem? (i := 0) rfl)))) rfl hK hP hD hS hA (fun _ => rfl) (nI_pos (by omega)) (nI_clamp (by omega)) (by show k * 4 ≤ 536870912; omega) (Nat.le_of_ble_eq_true rfl) (by show 0 + k ≤ k; omega) dJ7_copyOf_59c91_15 (fun q cA H hK9 hP hD hS => ?_)
  have e9 : cA = gI G := ky_I hK9
  subst e9
  refine lv_astore_n (lv' := [(2, .ref q), (0, .ref a0), (1, .int (nI k))]) hx hb dJ7_copyOf_59c91_17 rfl hl (by decide) rfl (fun ls hl => ?_)
  refine lv_aload_n hx hb dJ7_copyOf_59c91_18 rfl (lv_at hl 1 rfl) ?_
  refine lv_iconst (v := 0) hx hb dJ7_copyOf_59c91_19 (by decide) ?_
  refine lv_aload_n hx hb dJ7_copyOf_59c91_20 rfl (lv_at hl 0 rfl) ?_
  refine lv_iconst (v := 0) hx hb dJ7_copyOf_59c91_21 (by decide) ?_
  refine lv_aload_n hx hb dJ7_copyOf_59c91_22 rfl (lv_at hl 1 rfl) ?_
  refine va_alen (D := gD G) (v := nI n) hx hb hK hP 0 0 rfl rfl rfl dJ7_copyOf_59c91_23 ?_
  refine lv_iload_n hx hb dJ7_copyOf_59c91_24 rfl (lv_at hl 2 rfl) ?_
  refine va_mmin hx hb (hml.trans hl.1.symm) hown (hts _ (List.mem_cons_of_mem _ (List.mem_append_left _ (List.mem_of_getElem? (i := 1) rfl)))) (hts _ (List.mem_cons_of_mem _ (List.mem_append_left _ (List.mem_of_getElem? (i := 2) rfl)))) (hts _ (List.mem_cons_of_mem _ (List.mem_append_left _ (List.mem_of_getElem? (i := 3) rfl)))) (hts _ (List.mem_cons_of_mem _ (List.mem_append_left _ (List.mem_of_getElem? (i := 4) rfl)))) (Nat.le_of_ble_eq_true rfl) (Nat.le_of_ble_eq_true rfl) (Nat.le_of_ble_eq_true rfl) (by show 0 + k ≤ k; omega) dJ7_copyOf_59c91_25 ?_
  refine gx_ti (ngr_min hn (by omega)) ?_
  refine va_copyi (D := gD G) hx hb (hml.trans hl.1.symm) hown (hts _ (List.mem_cons_of_mem _ (List.mem_append_left _ (List.mem_of_getElem? (i := 5) rfl)))) (hts _ (List.mem_cons_of_mem _ (List.mem_append_left _ (List.mem_of_getElem? (i := 7) rfl)))) (hts _ (List.mem_cons_of_mem _ (List.mem_append_left _ (List.mem_of_getElem? (i := 6) rfl)))) (hts _ (List.mem_cons_of_mem _ (List.mem_append_left _ (List.mem_of_getElem? (i := 8) rfl)))) hK hP hD hS 0 1 0 0 (a0 := a0) (ty := .int) (f := f) (g := fun _ => 0) (n0 := n) (n1 := k) rfl rfl rfl rfl rfl (by decide) (by decide) (nI_pos (by omega)) (by rw [nI_clamp (by omega)]; show 0 + n ≤ n; omega) (by rw [nI_clamp (by omega)]; show 0 + n ≤ k; omega) (fun _ _ => rfl) (Nat.le_of_ble_eq_true rfl) (Nat.le_of_ble_eq_true rfl) dJ7_copyOf_59c91_28 (fun H locs hP hD hS => ?_)
  rw [nI_clamp (show n < 2 ^ 31 by omega)] at hP hD
  refine lv_aload_n hx hb dJ7_copyOf_59c91_31 rfl (lv_at hl 0 rfl) ?_
  refine W.widen (k := 1) (n := k) (Nat.le_of_ble_eq_true rfl) (by show 0 + k ≤ k; omega) ?_
  exact W.aret (v := .ref q) hx hb hr (Or.inr ⟨_, rfl⟩) (Or.inr ⟨_, rfl⟩) (fun t ht hW => ⟨⟨(), q, rfl, trivial, by rw [ht]; exact hP, hD⟩, hS.F ht⟩) hS.2.2 dJ7_copyOf_59c91_32
def wo_c_Row_roomx : List Cond := [.fieldLink RX9 15 "JudoHall$Row" "cells" "[I"]
def wq_c_Row_roomx : List Cond := .code yX9_makeRoomFor cX9_makeRoomFor 2 none :: (wo_c_Row_roomx ++ (wsX90 ++ []))
theorem gd_c_Row_roomx : ∀ w ∈ wq_c_Row_roomx, Gd w := List.forall_mem_cons.mpr ⟨Or.inl rfl, List.forall_mem_append.mpr ⟨gdl wo_c_Row_roomx (by decide +kernel), (List.forall_mem_append.mpr ⟨gd_wsX90, (fun _ h => absurd h List.not_mem_nil)⟩)⟩⟩
theorem in_c_Row_roomx : ∀ w ∈ wq_c_Row_roomx, w ∈ lw_tbl := List.forall_mem_cons.mpr ⟨List.mem_of_getElem? (i := 951) (by decide +kernel), List.forall_mem_append.mpr ⟨inT wo_c_Row_roomx [209] (by decide +kernel), (List.forall_mem_append.mpr ⟨in_wsX90, (fun _ h => absurd h List.not_mem_nil)⟩)⟩⟩
set_option maxHeartbeats 4000000 in
theorem c_Row_roomx (l : Launch) (G : gG) (h0 : Nat) (a0 : Nat) (n : Nat) (f : Nat → Int32) (x : Int32) (hn : n < 2 ^ 31) (hk : x < nI n) : Met l yX9_makeRoomFor wq_c_Row_roomx ({ frames := 0, cells := 0, slots := 0, locals := 0 }) (va_Pc [.ref h0, .int x] (pP G [(h0, .inr (10, [.ref a0])), (a0, .inl (gI G, n, .inl f))])) (va_Sv (fun _ => True)) 0 0 (fun _ => False) := by
  refine Met.ofW (cc := cX9_makeRoomFor) (maxL := 2) (ret := none) (by decide) rfl ?_
  intro p e s m args below meth c s₁ B hml hv
  obtain ⟨rfl, hP, hB⟩ := hv
  have hx := B.exec
  have hb := B.bytes
  have hr := B.returns
  have hts := atoms_spec (ws := wq_c_Row_roomx) B.pre
  have hown : s.vm.findClass RX9 = some m.cls := findClass_of_methodNamed B.named
  have hlocks := B.notSynchronized
  have hK := hB.1
  have hP : va_P (gD G) vwCl [(h0, .inr (10, [.ref a0])), (a0, .inl (gI G, n, .inl f))] s.heap := hP
  have hl := lv_entry ([.ref h0, .int x]) (n := 2) (Nat.le_of_ble_eq_true rfl)
  rw [lg_entry_eq]
  generalize (lg_sl ([.ref h0, .int x]) ++ List.replicate (2 - (lg_sl ([.ref h0, .int x])).length) Slot.unset).toArray = ls at hl ⊢
  have hl : lv_has ls 2 [(0, .ref h0), (1, .int x)] := hl
  refine lv_iload_n hx hb dX9_makeRoomFor_0 rfl (lv_at hl 1 rfl) ?_
  refine lv_aload_n hx hb dX9_makeRoomFor_1 rfl (lv_at hl 0 rfl) ?_
  refine va_get (D := gD G) (ci := 10) (v := .ref a0) (C := RX9) (T := TX9) (N := 1) hx hb hts (fun _ h9 => (List.mem_cons_of_mem _ (List.mem_append_right _ (List.mem_append_left _ h9)))) hown hK hP 0 rfl rfl 0 (by decide) (hts (.fieldLink RX9 15 "JudoHall$Row" "cells" "[I") (List.mem_cons_of_mem _ (List.mem_append_left _ (List.mem_of_getElem? (i := 0) rfl)))) (fun _ h9 => h9) rfl dX9_makeRoomFor_2 ?_
  refine va_alen (D := gD G) (v := (nI n)) hx hb hK hP 1 0 rfl rfl (rfl) dX9_makeRoomFor_5 ?_
  refine lv_icmp_lt (tgt := 33) hx hb dX9_makeRoomFor_6 (by decide) (fun _ => ?_) (fun c9 => absurd hk c9)
  exact W.vret hx hb hr (fun t ht hW => ⟨rfl, trivial, ht⟩) (fun q h => absurd h List.not_mem_nil) dX9_makeRoomFor_33
def wo_c_Row_grow : List Cond := [.fieldLink RX9 15 "JudoHall$Row" "cells" "[I", .methodLink RX9 9 Lib.Math.max.name, .static Lib.Math.max.name, .initialized RJ9, .code Lib.Math.max.name Lib.Math.max.code 2 (some .int), .methodLink RX9 27 yJ7_copyOf_59c91, .static yJ7_copyOf_59c91, .initialized RJ7]
def wq_c_Row_grow : List Cond := .code yX9_makeRoomFor cX9_makeRoomFor 2 none :: (wo_c_Row_grow ++ (wsX90 ++ (wq_c_copyOf ++ [])))
theorem gd_c_Row_grow : ∀ w ∈ wq_c_Row_grow, Gd w := List.forall_mem_cons.mpr ⟨Or.inl rfl, List.forall_mem_append.mpr ⟨gdl wo_c_Row_grow (by decide +kernel), (List.forall_mem_append.mpr ⟨gd_wsX90, (List.forall_mem_append.mpr ⟨gd_c_copyOf, (fun _ h => absurd h List.not_mem_nil)⟩)⟩)⟩⟩
theorem in_c_Row_grow : ∀ w ∈ wq_c_Row_grow, w ∈ lw_tbl := List.forall_mem_cons.mpr ⟨List.mem_of_getElem? (i := 951) (by decide +kernel), List.forall_mem_append.mpr ⟨inT wo_c_Row_grow [209, 203, 204, 157, 205, 952, 953, 158] (by decide +kernel), (List.forall_mem_append.mpr ⟨in_wsX90, (List.forall_mem_append.mpr ⟨in_c_copyOf, (fun _ h => absurd h List.not_mem_nil)⟩)⟩)⟩⟩
set_option maxHeartbeats 4000000 in
set_option maxRecDepth 100000 in
theorem c_Row_grow (l : Launch) (G : gG) (h0 a0 n : Nat) (f : Nat → Int32) (j k sz : Nat) (hj : n ≤ j) (hke : max (j + 1) (2 * n) = k) (hk : k ≤ 16777216) : Met l yX9_makeRoomFor wq_c_Row_grow ({ frames := 2, cells := 1, slots := k, locals := 64 }) (va_Pc [.ref h0, .int (nI j)] (mP G [(h0, .inr (10, [.ref a0])), (a0, .inl (gI G, n, .inl f))] sz)) (va_Qv (fun _ : Unit => True) (fun (_ : Unit) (t : State) => ∃ q : Nat, va_P (gD G) vwCl [(h0, .inr (10, [.ref q])), (q, .inl (gI G, k, .inl (va_cpy f (fun _ => 0) 0 0 n)))] t.heap ∧ va_D (va_A [(h0, .inr (10, [.ref a0])), (a0, .inl (gI G, n, .inl f))] sz) [(h0, .inr (10, [.ref q])), (q, .inl (gI G, k, .inl (va_cpy f (fun _ => 0) 0 0 n)))]) (va_A [(h0, .inr (10, [.ref a0])), (a0, .inl (gI G, n, .inl f))] sz)) 1 k (va_A [(h0, .inr (10, [.ref a0])), (a0, .inl (gI G, n, .inl f))] sz) := by
  have hjk : j + 1 ≤ k := by rw [← hke]; exact Nat.le_max_left _ _
  have hnk : 2 * n ≤ k := by rw [← hke]; exact Nat.le_max_right _ _
  refine Met.ofW (cc := cX9_makeRoomFor) (maxL := 2) (ret := none) (by decide) rfl ?_
  intro p e s m args below meth c s₁ B hml hv
  obtain ⟨rfl, hsz, hP, hB, hD0⟩ := hv
  have hx := B.exec
  have hb := B.bytes
  have hr := B.returns
  have hts := atoms_spec (ws := wq_c_Row_grow) B.pre
  have hown : s.vm.findClass RX9 = some m.cls := findClass_of_methodNamed B.named
  have hlocks := B.notSynchronized
  have hK := hB.1
  subst hsz
  have hD := hD0.self (sz := s.heap.size)
  have hA : ∀ q : Nat, s.heap.size ≤ q → va_A [(h0, .inr (10, [.ref a0])), (a0, .inl (gI G, n, .inl f))] s.heap.size q := fun q h => Or.inr h
  generalize va_A [(h0, .inr (10, [.ref a0])), (a0, .inl (gI G, n, .inl f))] s.heap.size = A at hD hA ⊢
  have hS : va_S A s.heap s.heap [] := va_S.rf
  have hl := lv_entry ([.ref h0, .int (nI j)]) (n := 2) (Nat.le_of_ble_eq_true rfl)
  rw [lg_entry_eq]
  generalize (lg_sl ([.ref h0, .int (nI j)]) ++ List.replicate (2 - (lg_sl ([.ref h0, .int (nI j)])).length) Slot.unset).toArray = ls at hl ⊢
  have hl : lv_has ls 2 [(0, .ref h0), (1, .int (nI j))] := hl
  refine lv_iload_n hx hb dX9_makeRoomFor_0 rfl (lv_at hl 1 rfl) ?_
  refine lv_aload_n hx hb dX9_makeRoomFor_1 rfl (lv_at hl 0 rfl) ?_
  refine va_get (D := gD G) (ci := 10) (v := .ref a0) (C := RX9) (T := TX9) (N := 1) hx hb hts (fun _ h9 => (List.mem_cons_of_mem _ (List.mem_append_right _ (List.mem_append_left _ h9)))) hown hK hP 0 rfl rfl 0 (by decide) (hts (.fieldLink RX9 15 "JudoHall$Row" "cells" "[I") (List.mem_cons_of_mem _ (List.mem_append_left _ (List.mem_of_getElem? (i := 0) rfl)))) (fun _ h9 => h9) rfl dX9_makeRoomFor_2 ?_
  refine va_alen (D := gD G) (v := (nI n)) hx hb hK hP 1 0 rfl rfl rfl dX9_makeRoomFor_5 ?_
  refine lv_icmp_lt (tgt := 33) hx hb dX9_makeRoomFor_6 (by decide) (fun c9 => absurd ((nI_ltI (by omega) (by omega)).mp c9) (by omega)) (fun _ => ?_)
  refine lv_aload_n hx hb dX9_makeRoomFor_9 rfl (lv_at hl 0 rfl) ?_
  refine lv_aload_n hx hb dX9_makeRoomFor_10 rfl (lv_at hl 0 rfl) ?_
  refine va_get (D := gD G) (ci := 10) (v := .ref a0) (C := RX9) (T := TX9) (N := 1) hx hb hts (fun _ h9 => (List.mem_cons_of_mem _ (List.mem_append_right _ (List.mem_append_left _ h9)))) hown hK hP 0 rfl rfl 0 (by decide) (hts (.fieldLink RX9 15 "JudoHall$Row" "cells" "[I") (List.mem_cons_of_mem _ (List.mem_append_left _ (List.mem_of_getElem? (i := 0) rfl)))) (fun _ h9 => h9) rfl dX9_makeRoomFor_11 ?_
  refine lv_iload_n hx hb dX9_makeRoomFor_14 rfl (lv_at hl 1 rfl) ?_
  refine lv_iconst (v := 1) hx hb dX9_makeRoomFor_15 (by decide) ?_
  refine lv_iadd hx hb dX9_makeRoomFor_16 ?_
  refine gx_ti (ngr_one j) ?_
  refine lv_iconst (v := 2) hx hb dX9_makeRoomFor_17 (by decide) ?_
  refine lv_aload_n hx hb dX9_makeRoomFor_18 rfl (lv_at hl 0 rfl) ?_
  refine va_get (D := gD G) (ci := 10) (v := .ref a0) (C := RX9) (T := TX9) (N := 1) hx hb hts (fun _ h9 => (List.mem_cons_of_mem _ (List.mem_append_right _ (List.mem_append_left _ h9)))) hown hK hP 0 rfl rfl 0 (by decide) (hts (.fieldLink RX9 15 "JudoHall$Row" "cells" "[I") (List.mem_cons_of_mem _ (List.mem_append_left _ (List.mem_of_getElem? (i := 0) rfl)))) (fun _ h9 => h9) rfl dX9_makeRoomFor_19 ?_
  refine va_alen (D := gD G) (v := (nI n)) hx hb hK hP 1 0 rfl rfl rfl dX9_makeRoomFor_22 ?_
  refine lv_imul hx hb dX9_makeRoomFor_23 ?_
  refine gx_ti (ngr_two n) ?_
  refine va_mmax hx hb (hml.trans hl.1.symm) hown (hts _ (List.mem_cons_of_mem _ (List.mem_append_left _ (List.mem_of_getElem? (i := 1) rfl)))) (hts _ (List.mem_cons_of_mem _ (List.mem_append_left _ (List.mem_of_getElem? (i := 2) rfl)))) (hts _ (List.mem_cons_of_mem _ (List.mem_append_left _ (List.mem_of_getElem? (i := 3) rfl)))) (hts _ (List.mem_cons_of_mem _ (List.mem_append_left _ (List.mem_of_getElem? (i := 4) rfl)))) (Nat.le_of_ble_eq_true rfl) (Nat.le_of_ble_eq_true rfl) (Nat.zero_le _) (Nat.zero_le _) dX9_makeRoomFor_24 ?_
  refine gx_ti (ngr_max (by omega) (by omega)) ?_
  rw [hke]
  have hPc := hP.sub (ws' := [(a0, .inl (gI G, n, .inl f))]) [1] rfl
  have hDc := hD.sub (ws' := [(a0, .inl (gI G, n, .inl f))]) [1] (by decide) rfl
  have hFc := va_free (wc := [(a0, .inl (gI G, n, .inl f))]) hD hS hA [1] rfl
  refine va_callr (va_runS (As := [.ref a0, .int (nI k)]) (rest := [.ref h0]) ⟨hx, hb, hml, hown, hts⟩ (c_copyOf l G a0 n f k s.heap.size (by omega) hk) (va_cwS 2 hts (gdS (List.mem_cons_of_mem _ (List.mem_append_left _ (List.mem_of_getElem? (i := 5) rfl))) (List.mem_cons_of_mem _ (List.mem_append_left _ (List.mem_of_getElem? (i := 6) rfl))) (List.mem_cons_of_mem _ (List.mem_append_left _ (List.mem_of_getElem? (i := 7) rfl))) (fun w9 h9 => ⟨(List.mem_cons_of_mem _ (List.mem_append_right _ (List.mem_append_right _ (List.mem_append_left _ h9)))), gd_c_copyOf w9 h9⟩)) rfl rfl rfl kSJ7_copyOf_59c91 ⟨Nat.le_of_ble_eq_true rfl, Nat.le_of_ble_eq_true rfl⟩) (preS_m (As := [.ref a0, .int (nI k)]) hPc hB hDc) rfl rfl hl.1 rfl (lv_room (Nat.le_of_ble_eq_true rfl)) dX9_makeRoomFor_27 ⟨Nat.le_refl _, by show 0 + k ≤ k; omega⟩) hS (fun q _ h => hFc q h) hFc (fun u q t H1 locs ht hvm hw hB1 hz1 hk1 hS => ?_)
  obtain ⟨hP1, hD1⟩ := hB1
  rw [ht] at hP1
  obtain ⟨hP, hD⟩ := va_join (wr := [(h0, .inr (10, [.ref a0]))]) (w1 := [(a0, .inl (gI G, n, .inl f)), (q, .inl (gI G, k, .inl (va_cpy f (fun _ => 0) 0 0 n)))]) hP hD [1] [0] rfl rfl (by decide) (by decide) hk1 hFc hP1 hD1
  refine W.eq (g2 := F0 m 30 ls [.ref q, .ref h0]) rfl ?_
  refine va_put (D := gD G) (ci := 10) (v := .ref q) (ty := tyX9 0) (C := RX9) (T := TX9) (N := 1) hx hb hts (fun _ h9 => (List.mem_cons_of_mem _ (List.mem_append_right _ (List.mem_append_left _ h9)))) tyX9 tyX9_ok nmX9 hown hK hP hD hS 0 rfl rfl 0 (by decide) (hts (.fieldLink RX9 15 "JudoHall$Row" "cells" "[I") (List.mem_cons_of_mem _ (List.mem_append_left _ (List.mem_of_getElem? (i := 0) rfl)))) (fun _ h9 => h9) rfl (tyX9_ok 0 (by decide)) rfl rfl (Nat.le_of_ble_eq_true rfl) dX9_makeRoomFor_30 (fun H locs hP hD hS => ?_)
  have hP9 := hP.sub (ws' := [(h0, .inr (10, [.ref q])), (q, .inl (gI G, k, .inl (va_cpy f (fun _ => 0) 0 0 n)))]) [0, 2] rfl
  have hD9 := hD.sub (ws' := [(h0, .inr (10, [.ref q])), (q, .inl (gI G, k, .inl (va_cpy f (fun _ => 0) 0 0 n)))]) [0, 2] (by decide) rfl
  refine W.widen (k := 1) (n := k) (Nat.le_refl _) (by show 0 + k ≤ k; omega) ?_
  exact W.vret hx hb hr (fun t ht hW => ⟨⟨(), rfl, trivial, q, by rw [ht]; exact hP9, hD9⟩, hS.F ht⟩) hS.2.2 dX9_makeRoomFor_33

