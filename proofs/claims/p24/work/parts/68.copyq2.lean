theorem dJ7_copyOf_1904c_0 : decode cJ7_copyOf_1904c 0 = .ok (.aload_n 0, 1) := by decide +kernel
theorem dJ7_copyOf_1904c_1 : decode cJ7_copyOf_1904c 1 = .ok (.iload_n 1, 1) := by decide +kernel
theorem dJ7_copyOf_1904c_2 : decode cJ7_copyOf_1904c 2 = .ok (.aload_n 0, 1) := by decide +kernel
theorem dJ7_copyOf_1904c_3 : decode cJ7_copyOf_1904c 3 = .ok (.invokevirtual 86, 3) := by decide +kernel
theorem dJ7_copyOf_1904c_6 : decode cJ7_copyOf_1904c 6 = .ok (.invokestatic 300, 3) := by decide +kernel
theorem dJ7_copyOf_1904c_9 : decode cJ7_copyOf_1904c 9 = .ok (.areturn, 1) := by decide +kernel
theorem kSJ7_copyOf_1904c : yJ7_copyOf_1904c.cls ≠ "java/lang/invoke/MethodHandle" ∧ yJ7_copyOf_1904c.cls ≠ "java/lang/invoke/VarHandle" ∧ (parseMethodDescriptor yJ7_copyOf_1904c.desc).map (fun d => d.parameters.length) = some 2 := by decide +kernel
def wo_a_copy2 : List Cond := [.methodLink RJ7 86 ⟨"java/lang/Object", "getClass" , "()Ljava/lang/Class;" ⟩, .selects "[Ljava/lang/Object;" ⟨"java/lang/Object", "getClass" , "()Ljava/lang/Class;" ⟩ ⟨"java/lang/Object", "getClass" , "()Ljava/lang/Class;" ⟩, .instanceMethod ⟨"java/lang/Object", "getClass" , "()Ljava/lang/Class;" ⟩, .native ⟨"java/lang/Object", "getClass" , "()Ljava/lang/Class;" ⟩, .methodLink RJ7 300 yJ7_copyOf_6403c, .static yJ7_copyOf_6403c, .initialized RJ7]
def wq_a_copy2 : List Cond := .code yJ7_copyOf_1904c cJ7_copyOf_1904c 2 (some (.array (.object "java/lang/Object"))) :: (wo_a_copy2 ++ (wq_a_copy3 ++ []))
theorem gd_a_copy2 : ∀ w ∈ wq_a_copy2, Gd w := List.forall_mem_cons.mpr ⟨Or.inl rfl, List.forall_mem_append.mpr ⟨gdl wo_a_copy2 (by decide +kernel), (List.forall_mem_append.mpr ⟨gd_a_copy3, (fun _ h => absurd h List.not_mem_nil)⟩)⟩⟩
theorem in_a_copy2 : ∀ w ∈ wq_a_copy2, w ∈ lw_tbl := List.forall_mem_cons.mpr ⟨List.mem_of_getElem? (i := 909) (by decide +kernel), List.forall_mem_append.mpr ⟨inT wo_a_copy2 [910, 2355, 911, 928, 929, 930, 158] (by decide +kernel), (List.forall_mem_append.mpr ⟨in_a_copy3, (fun _ h => absurd h List.not_mem_nil)⟩)⟩⟩
set_option maxHeartbeats 4000000 in
theorem a_copy2 (l : Launch) (G : gG) (g : ClassId) (mi a0 n : Nat) (f : Nat → Option Nat) (k sz : Nat) (hn : n < k) (hk : k ≤ 16777216) : Met l yJ7_copyOf_1904c wq_a_copy2 { frames := 2, cells := 1, slots := k, locals := 63 } (va_Pc [.ref a0, .int (nI k)] (oP G g mi f n [(a0, .inl (g, n, .inr (.inr (.inr (.inr f)))))] sz)) (va_Qr (fun _ : Unit => True) (fun (_ : Unit) (q : Nat) (t : State) => va_P (gD G) vwCl [(a0, .inl (g, n, .inr (.inr (.inr (.inr f))))), (q, .inl (g, k, .inr (.inr (.inr (.inr (va_cpy f (fun _ => none) 0 0 n))))))] t.heap ∧ va_D (va_A [(a0, .inl (g, n, .inr (.inr (.inr (.inr f)))))] sz) [(a0, .inl (g, n, .inr (.inr (.inr (.inr f))))), (q, .inl (g, k, .inr (.inr (.inr (.inr (va_cpy f (fun _ => none) 0 0 n))))))]) (va_A [(a0, .inl (g, n, .inr (.inr (.inr (.inr f)))))] sz)) 1 k (va_A [(a0, .inl (g, n, .inr (.inr (.inr (.inr f)))))] sz) := by
  refine Met.ofW (cc := cJ7_copyOf_1904c) (maxL := 2) (ret := (some (.array (.object "java/lang/Object")))) (by decide) rfl ?_
  intro p e s m args below meth c s₁ B hml hv
  obtain ⟨rfl, rfl, hP, hB, hD0, hO⟩ := hv
  have hx := B.exec
  have hb := B.bytes
  have hr := B.returns
  have hlocks := B.notSynchronized
  have hts := atoms_spec (ws := wq_a_copy2) B.pre
  have hown : s.vm.findClass RJ7 = some m.cls := findClass_of_methodNamed B.named
  have hS : va_S (va_A [(a0, .inl (g, n, .inr (.inr (.inr (.inr f)))))] s.heap.size) s.heap s.heap [] := va_S.rf
  have hl := lv_entry ([.ref a0, .int (nI k)]) (n := 2) (Nat.le_of_ble_eq_true rfl)
  rw [lg_entry_eq]
  generalize (lg_sl ([.ref a0, .int (nI k)]) ++ List.replicate (2 - (lg_sl ([.ref a0, .int (nI k)])).length) Slot.unset).toArray = ls at hl ⊢
  have hl : lv_has ls 2 [(0, .ref a0), (1, .int (nI k))] := hl
  refine lv_aload_n hx hb dJ7_copyOf_1904c_0 rfl (lv_at hl 0 rfl) ?_
  refine lv_iload_n hx hb dJ7_copyOf_1904c_1 rfl (lv_at hl 1 rfl) ?_
  refine lv_aload_n hx hb dJ7_copyOf_1904c_2 rfl (lv_at hl 0 rfl) ?_
  obtain ⟨_, _, _, _, _, hfc⟩ := hO.1.2
  refine va_getC (C := "[Ljava/lang/Object;") hx hb (hml.trans hl.1.symm) hown (hts _ (List.mem_cons_of_mem _ (List.mem_append_left _ (List.mem_of_getElem? (i := 0) rfl)))) (va_Dc.use hO.2.2.2.2.1) (hts _ (List.mem_cons_of_mem _ (List.mem_append_left _ (List.mem_of_getElem? (i := 1) rfl)))) (hts _ (List.mem_cons_of_mem _ (List.mem_append_left _ (List.mem_of_getElem? (i := 2) rfl)))) (hts _ (List.mem_cons_of_mem _ (List.mem_append_left _ (List.mem_of_getElem? (i := 3) rfl)))) hO.2.1 ⟨_, hP 0 _ rfl, rfl, hfc⟩ (Nat.le_of_ble_eq_true rfl) (Nat.le_of_ble_eq_true rfl) dJ7_copyOf_1904c_3 ?_
  refine va_callr (va_runS (As := [.ref a0, .int (nI k), .ref mi]) (rest := []) ⟨hx, hb, hml, hown, hts⟩ (a_copy3 l G g mi a0 n f k s.heap.size hn hk) (va_cwS 3 hts (gdS (List.mem_cons_of_mem _ (List.mem_append_left _ (List.mem_of_getElem? (i := 4) rfl))) (List.mem_cons_of_mem _ (List.mem_append_left _ (List.mem_of_getElem? (i := 5) rfl))) (List.mem_cons_of_mem _ (List.mem_append_left _ (List.mem_of_getElem? (i := 6) rfl))) (fun w9 h9 => ⟨(List.mem_cons_of_mem _ (List.mem_append_right _ (List.mem_append_left _ h9))), gd_a_copy3 w9 h9⟩)) rfl rfl rfl kSJ7_copyOf_6403c ⟨Nat.le_of_ble_eq_true rfl, Nat.le_of_ble_eq_true rfl⟩) ⟨oP.blind, fun U hU hW => ⟨rfl, by rw [hU], by rw [hU]; exact hP, hB.moved hW, hD0, by rw [hU]; exact hO.moved hW⟩⟩ rfl rfl hl.1 rfl (lv_room (Nat.le_of_ble_eq_true rfl)) dJ7_copyOf_1904c_6 ⟨Nat.le_of_ble_eq_true rfl, by show 0 + k ≤ k; omega⟩) hS (fun z _ h => h) (fun z h => h) (fun u2 q t H1 locs ht hvm hw hB1 hz1 hk1 hS => ?_)
  obtain ⟨hP1, hD1⟩ := hB1
  rw [ht] at hP1
  refine W.eq (g2 := F0 m 9 ls [.ref q]) rfl ?_
  refine W.widen (k := 1) (n := k) (Nat.le_of_ble_eq_true rfl) (by show 0 + k ≤ k; omega) ?_
  exact W.aret (v := .ref q) hx hb hr (Or.inr ⟨_, rfl⟩) (Or.inr ⟨_, rfl⟩) (fun t ht hW => ⟨⟨(), q, rfl, trivial, by rw [ht]; exact hP1, hD1⟩, hS.F ht⟩) hS.2.2 dJ7_copyOf_1904c_9

