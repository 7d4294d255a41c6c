theorem dJx4a65c_grow_92f84_0 : decode cJx4a65c_grow_92f84 0 = .ok (.aload_n 0, 1) := by decide +kernel
theorem dJx4a65c_grow_92f84_1 : decode cJx4a65c_grow_92f84 1 = .ok (.getfield 9, 3) := by decide +kernel
theorem dJx4a65c_grow_92f84_4 : decode cJx4a65c_grow_92f84 4 = .ok (.arraylength, 1) := by decide +kernel
theorem dJx4a65c_grow_92f84_5 : decode cJx4a65c_grow_92f84 5 = .ok (.istore_n 2, 1) := by decide +kernel
theorem dJx4a65c_grow_92f84_6 : decode cJx4a65c_grow_92f84 6 = .ok (.iload_n 2, 1) := by decide +kernel
theorem dJx4a65c_grow_92f84_7 : decode cJx4a65c_grow_92f84 7 = .ok (.ifCond .gt 13, 3) := by decide +kernel
theorem dJx4a65c_grow_92f84_10 : decode cJx4a65c_grow_92f84 10 = .ok (.aload_n 0, 1) := by decide +kernel
theorem dJx4a65c_grow_92f84_11 : decode cJx4a65c_grow_92f84 11 = .ok (.getfield 9, 3) := by decide +kernel
theorem dJx4a65c_grow_92f84_14 : decode cJx4a65c_grow_92f84 14 = .ok (.getstatic 39, 3) := by decide +kernel
theorem dJx4a65c_grow_92f84_17 : decode cJx4a65c_grow_92f84 17 = .ok (.if_acmp .eq 28, 3) := by decide +kernel
theorem dJx4a65c_grow_92f84_20 : decode cJx4a65c_grow_92f84 20 = .ok (.iload_n 2, 1) := by decide +kernel
theorem dJx4a65c_grow_92f84_21 : decode cJx4a65c_grow_92f84 21 = .ok (.iload_n 1, 1) := by decide +kernel
theorem dJx4a65c_grow_92f84_22 : decode cJx4a65c_grow_92f84 22 = .ok (.iload_n 2, 1) := by decide +kernel
theorem dJx4a65c_grow_92f84_23 : decode cJx4a65c_grow_92f84 23 = .ok (.isub, 1) := by decide +kernel
theorem dJx4a65c_grow_92f84_24 : decode cJx4a65c_grow_92f84 24 = .ok (.iload_n 2, 1) := by decide +kernel
theorem dJx4a65c_grow_92f84_25 : decode cJx4a65c_grow_92f84 25 = .ok (.iconst 1, 1) := by decide +kernel
theorem dJx4a65c_grow_92f84_26 : decode cJx4a65c_grow_92f84 26 = .ok (.ishr, 1) := by decide +kernel
theorem dJx4a65c_grow_92f84_27 : decode cJx4a65c_grow_92f84 27 = .ok (.invokestatic 73, 3) := by decide +kernel
theorem dJx4a65c_grow_92f84_30 : decode cJx4a65c_grow_92f84 30 = .ok (.istore_n 3, 1) := by decide +kernel
theorem dJx4a65c_grow_92f84_31 : decode cJx4a65c_grow_92f84 31 = .ok (.aload_n 0, 1) := by decide +kernel
theorem dJx4a65c_grow_92f84_32 : decode cJx4a65c_grow_92f84 32 = .ok (.aload_n 0, 1) := by decide +kernel
theorem dJx4a65c_grow_92f84_33 : decode cJx4a65c_grow_92f84 33 = .ok (.getfield 9, 3) := by decide +kernel
theorem dJx4a65c_grow_92f84_36 : decode cJx4a65c_grow_92f84 36 = .ok (.iload_n 3, 1) := by decide +kernel
theorem dJx4a65c_grow_92f84_37 : decode cJx4a65c_grow_92f84 37 = .ok (.invokestatic 66, 3) := by decide +kernel
theorem dJx4a65c_grow_92f84_40 : decode cJx4a65c_grow_92f84 40 = .ok (.dup_x1, 1) := by decide +kernel
theorem dJx4a65c_grow_92f84_41 : decode cJx4a65c_grow_92f84 41 = .ok (.putfield 9, 3) := by decide +kernel
theorem dJx4a65c_grow_92f84_44 : decode cJx4a65c_grow_92f84 44 = .ok (.areturn, 1) := by decide +kernel
theorem dJx4a65c_grow_92f84_45 : decode cJx4a65c_grow_92f84 45 = .ok (.aload_n 0, 1) := by decide +kernel
theorem dJx4a65c_grow_92f84_46 : decode cJx4a65c_grow_92f84 46 = .ok (.bipush 10, 2) := by decide +kernel
theorem dJx4a65c_grow_92f84_48 : decode cJx4a65c_grow_92f84 48 = .ok (.iload_n 1, 1) := by decide +kernel
theorem dJx4a65c_grow_92f84_49 : decode cJx4a65c_grow_92f84 49 = .ok (.invokestatic 79, 3) := by decide +kernel
theorem dJx4a65c_grow_92f84_52 : decode cJx4a65c_grow_92f84 52 = .ok (.anewarray 7, 3) := by decide +kernel
theorem dJx4a65c_grow_92f84_55 : decode cJx4a65c_grow_92f84 55 = .ok (.dup_x1, 1) := by decide +kernel
theorem dJx4a65c_grow_92f84_56 : decode cJx4a65c_grow_92f84 56 = .ok (.putfield 9, 3) := by decide +kernel
theorem dJx4a65c_grow_92f84_59 : decode cJx4a65c_grow_92f84 59 = .ok (.areturn, 1) := by decide +kernel
theorem kSJx4a65c_grow_92f84 : yJx4a65c_grow_92f84.cls ≠ "java/lang/invoke/MethodHandle" ∧ yJx4a65c_grow_92f84.cls ≠ "java/lang/invoke/VarHandle" ∧ (parseMethodDescriptor yJx4a65c_grow_92f84.desc).map (fun d => d.parameters.length) = some 1 := by decide +kernel
theorem kVJx4a65c_grow_92f84 : yJx4a65c_grow_92f84.cls = RJx4a65c ∧ yJx4a65c_grow_92f84.cls ≠ "java/lang/invoke/MethodHandle" ∧ yJx4a65c_grow_92f84.cls ≠ "java/lang/invoke/VarHandle" ∧ (parseMethodDescriptor yJx4a65c_grow_92f84.desc).map (fun d => d.parameters.length) = some 1 := ⟨rfl, kSJx4a65c_grow_92f84⟩
theorem oE.narrow {g : ClassId} {mi : Nat} {f : Nat → Option Nat} {n : Nat} {A B : Nat → Prop} {U : State} {H : Heap} (h : oE g mi f n A U H) (hAB : ∀ q : Nat, q < H.size → B q → A q) : oE g mi f n B U H := ⟨h.1, h.2.1, h.2.2.1, h.2.2.2.1, h.2.2.2.2.1, fun i y hi hy => by
  obtain ⟨h1, c, h2, h3⟩ := h.2.2.2.2.2 i y hi hy
  exact ⟨fun z => h1 (hAB y (Array.getElem?_eq_some_iff.mp h2).1 z), c, h2, h3⟩⟩
def wo_a_growN : List Cond := [.fieldLink RJx4a65c 9 "java/util/ArrayList" "elementData" "[Ljava/lang/Object;", .methodLink RJx4a65c 73 yJ8_newLength_cabcc, .static yJ8_newLength_cabcc, .initialized RJ8, .methodLink RJx4a65c 66 yJ7_copyOf_1904c, .static yJ7_copyOf_1904c, .initialized RJ7]
def wq_a_growN : List Cond := .code yJx4a65c_grow_92f84 cJx4a65c_grow_92f84 4 (some (.array (.object "java/lang/Object"))) :: (wo_a_growN ++ (wq_a_newlen ++ (wq_a_copy2 ++ (wsJx4a65c0 ++ []))))
theorem gd_a_growN : ∀ w ∈ wq_a_growN, Gd w := List.forall_mem_cons.mpr ⟨Or.inl rfl, List.forall_mem_append.mpr ⟨gdl wo_a_growN (by decide +kernel), (List.forall_mem_append.mpr ⟨gd_a_newlen, (List.forall_mem_append.mpr ⟨gd_a_copy2, (List.forall_mem_append.mpr ⟨gd_wsJx4a65c0, (fun _ h => absurd h List.not_mem_nil)⟩)⟩)⟩)⟩⟩
theorem in_a_growN : ∀ w ∈ wq_a_growN, w ∈ lw_tbl := List.forall_mem_cons.mpr ⟨List.mem_of_getElem? (i := 898) (by decide +kernel), List.forall_mem_append.mpr ⟨inT wo_a_growN [543, 899, 900, 180, 907, 908, 158] (by decide +kernel), (List.forall_mem_append.mpr ⟨in_a_newlen, (List.forall_mem_append.mpr ⟨in_a_copy2, (List.forall_mem_append.mpr ⟨in_wsJx4a65c0, (fun _ h => absurd h List.not_mem_nil)⟩)⟩)⟩)⟩⟩
set_option maxHeartbeats 4000000 in
theorem a_growN (l : Launch) (G : gG) (g : ClassId) (mi h0 ta cap : Nat) (mc n : Int32) (f : Nat → Option Nat) (k sz : Nat) (hc : 0 < cap) (hck : cap < k) (hk : k ≤ 16777216) (he : nI cap + (if (1 : Int32) < nI cap >>> (1 &&& 31) then nI cap >>> (1 &&& 31) else 1) = nI k) : Met l yJx4a65c_grow_92f84 wq_a_growN { frames := 3, cells := 1, slots := k, locals := 84 } (va_Pc [.ref h0, .int (nI (cap + 1))] (oP G g mi f cap [(h0, .inr (0, [.int mc, .ref ta, .int n])), (ta, .inl (g, cap, .inr (.inr (.inr (.inr f)))))] sz)) (va_Qr (fun _ : Unit => True) (fun (_ : Unit) (q : Nat) (t : State) => va_P (gD G) vwCl [(h0, .inr (0, [.int mc, .ref q, .int n])), (q, .inl (g, k, .inr (.inr (.inr (.inr (va_cpy f (fun _ => none) 0 0 cap))))))] t.heap ∧ va_D (va_A [(h0, .inr (0, [.int mc, .ref ta, .int n])), (ta, .inl (g, cap, .inr (.inr (.inr (.inr f)))))] sz) [(h0, .inr (0, [.int mc, .ref q, .int n])), (q, .inl (g, k, .inr (.inr (.inr (.inr (va_cpy f (fun _ => none) 0 0 cap))))))]) (va_A [(h0, .inr (0, [.int mc, .ref ta, .int n])), (ta, .inl (g, cap, .inr (.inr (.inr (.inr f)))))] sz)) 1 k (va_A [(h0, .inr (0, [.int mc, .ref ta, .int n])), (ta, .inl (g, cap, .inr (.inr (.inr (.inr f)))))] sz) := by
  refine Met.ofW (cc := cJx4a65c_grow_92f84) (maxL := 4) (ret := (some (.array (.object "java/lang/Object")))) (by decide) rfl ?_
  intro p e s m args below meth c s₁ B hml hv
  obtain ⟨rfl, rfl, hP, hB, hD0, hO⟩ := hv
  have hx := B.exec
  have hb := B.bytes
  have hr := B.returns
  have hlocks := B.notSynchronized
  have hts := atoms_spec (ws := wq_a_growN) B.pre
  have hin : ∀ w ∈ wsJx4a65c0, w ∈ wq_a_growN := fun _ h9 => (List.mem_cons_of_mem _ (List.mem_append_right _ (List.mem_append_right _ (List.mem_append_right _ (List.mem_append_left _ h9)))))
  have hown : s.vm.findClass RJx4a65c = some m.cls := findClass_of_methodNamed B.named
  have hD := hD0.self (sz := s.heap.size)
  have hA : ∀ q : Nat, s.heap.size ≤ q → va_A [(h0, .inr (0, [.int mc, .ref ta, .int n])), (ta, .inl (g, cap, .inr (.inr (.inr (.inr f)))))] s.heap.size q := fun q h => Or.inr h
  generalize va_A [(h0, .inr (0, [.int mc, .ref ta, .int n])), (ta, .inl (g, cap, .inr (.inr (.inr (.inr f)))))] s.heap.size = A at hD hA hO ⊢
  have hS : va_S A s.heap s.heap [] := va_S.rf
  have hK := hO.1.K hB
  have hl := lv_entry ([.ref h0, .int (nI (cap + 1))]) (n := 4) (Nat.le_of_ble_eq_true rfl)
  rw [lg_entry_eq]
  generalize (lg_sl ([.ref h0, .int (nI (cap + 1))]) ++ List.replicate (4 - (lg_sl ([.ref h0, .int (nI (cap + 1))])).length) Slot.unset).toArray = ls at hl ⊢
  have hl : lv_has ls 4 [(0, .ref h0), (1, .int (nI (cap + 1)))] := hl
  refine lv_aload_n hx hb dJx4a65c_grow_92f84_0 rfl (lv_at hl 0 rfl) ?_
  refine va_get (D := gD G) (ci := 0) (v := .ref ta) (C := RJx4a65c) (T := TJx4a65c) (N := 3) hx hb hts hin hown hB.1 hP 0 rfl rfl 1 (by decide) (hts _ (List.mem_cons_of_mem _ (List.mem_append_left _ (List.mem_of_getElem? (i := 0) rfl)))) (fun _ h9 => h9) rfl dJx4a65c_grow_92f84_1 ?_
  refine va_alen (D := gD G) (v := nI cap) hx hb hK hP 1 0 rfl rfl rfl dJx4a65c_grow_92f84_4 ?_
  refine lv_istore_n (lv' := [(2, .int (nI cap)), (0, .ref h0), (1, .int (nI (cap + 1)))]) hx hb dJx4a65c_grow_92f84_5 rfl hl (by decide) rfl (fun ls hl => ?_)
  refine lv_iload_n hx hb dJx4a65c_grow_92f84_6 rfl (lv_at hl 0 rfl) ?_
  refine lv_if_gt (tgt := 20) hx hb dJx4a65c_grow_92f84_7 (by decide) (fun _ => ?_) (fun c9 => absurd (nI_lt (show 0 < cap from hc) (by omega)) c9)
  refine lv_iload_n hx hb dJx4a65c_grow_92f84_20 rfl (lv_at hl 0 rfl) ?_
  refine lv_iload_n hx hb dJx4a65c_grow_92f84_21 rfl (lv_at hl 2 rfl) ?_
  refine lv_iload_n hx hb dJx4a65c_grow_92f84_22 rfl (lv_at hl 0 rfl) ?_
  refine lv_isub hx hb dJx4a65c_grow_92f84_23 ?_
  have e1 : nI (cap + 1) - nI cap = 1 := by rw [← ngr_one cap, Int32.add_comm, Int32.add_sub_cancel]
  refine gx_ti e1 ?_
  refine lv_iload_n hx hb dJx4a65c_grow_92f84_24 rfl (lv_at hl 0 rfl) ?_
  refine lv_iconst (v := 1) hx hb dJx4a65c_grow_92f84_25 (by decide) ?_
  refine lv_ishr hx hb dJx4a65c_grow_92f84_26 ?_
  have eM : (2147483639 : Int32) = nI 2147483639 := by decide
  refine vp_callSi (va_Run.run (va_runS (As := [.int (nI cap), .int 1, .int (nI cap >>> (1 &&& 31))]) (rest := []) ⟨hx, hb, hml, hown, hts⟩ (a_newlen l (nI cap) 1 (nI cap >>> (1 &&& 31)) (nI k) he (fun z => absurd (nI_lt (show 0 < k by omega) (by omega)) (Int32.not_lt.mpr z)) (fun z => by rw [eM] at z; have := (nI_ltI (by omega) (by omega)).mp z; omega)) (va_cwS 3 hts (gdS (List.mem_cons_of_mem _ (List.mem_append_left _ (List.mem_of_getElem? (i := 1) rfl))) (List.mem_cons_of_mem _ (List.mem_append_left _ (List.mem_of_getElem? (i := 2) rfl))) (List.mem_cons_of_mem _ (List.mem_append_left _ (List.mem_of_getElem? (i := 3) rfl))) (fun w9 h9 => ⟨(List.mem_cons_of_mem _ (List.mem_append_right _ (List.mem_append_left _ h9))), gd_a_newlen w9 h9⟩)) rfl rfl rfl kSJ8_newLength_cabcc ⟨Nat.le_of_ble_eq_true rfl, Nat.le_of_ble_eq_true rfl⟩) ⟨fun _ _ _ _ q => ⟨q.1, trivial⟩, fun U hU hW => ⟨rfl, trivial⟩⟩ rfl rfl hl.1 rfl (lv_room (Nat.le_of_ble_eq_true rfl)) dJx4a65c_grow_92f84_27 ⟨Nat.zero_le _, Nat.zero_le _⟩)) (fun x hx9 => ?_)
  rw [hx9]
  refine lv_istore_n (lv' := [(3, .int (nI k)), (2, .int (nI cap)), (0, .ref h0), (1, .int (nI (cap + 1)))]) hx hb dJx4a65c_grow_92f84_30 rfl hl (by decide) rfl (fun ls hl => ?_)
  refine lv_aload_n hx hb dJx4a65c_grow_92f84_31 rfl (lv_at hl 2 rfl) ?_
  refine lv_aload_n hx hb dJx4a65c_grow_92f84_32 rfl (lv_at hl 2 rfl) ?_
  refine va_get (D := gD G) (ci := 0) (v := .ref ta) (C := RJx4a65c) (T := TJx4a65c) (N := 3) hx hb hts hin hown hB.1 hP 0 rfl rfl 1 (by decide) (hts _ (List.mem_cons_of_mem _ (List.mem_append_left _ (List.mem_of_getElem? (i := 0) rfl)))) (fun _ h9 => h9) rfl dJx4a65c_grow_92f84_33 ?_
  refine lv_iload_n hx hb dJx4a65c_grow_92f84_36 rfl (lv_at hl 0 rfl) ?_
  have hPc := hP.sub (ws' := [(ta, .inl (g, cap, .inr (.inr (.inr (.inr f)))))]) [1] rfl
  have hDc := hD.sub (ws' := [(ta, .inl (g, cap, .inr (.inr (.inr (.inr f)))))]) [1] (by decide) rfl
  have hFc := va_free (wc := [(ta, .inl (g, cap, .inr (.inr (.inr (.inr f)))))]) hD hS hA [1] rfl
  refine va_callr (va_runS (As := [.ref ta, .int (nI k)]) (rest := [.ref h0]) ⟨hx, hb, hml, hown, hts⟩ (a_copy2 l G g mi ta cap f k s.heap.size hck hk) (va_cwS 2 hts (gdS (List.mem_cons_of_mem _ (List.mem_append_left _ (List.mem_of_getElem? (i := 4) rfl))) (List.mem_cons_of_mem _ (List.mem_append_left _ (List.mem_of_getElem? (i := 5) rfl))) (List.mem_cons_of_mem _ (List.mem_append_left _ (List.mem_of_getElem? (i := 6) rfl))) (fun w9 h9 => ⟨(List.mem_cons_of_mem _ (List.mem_append_right _ (List.mem_append_right _ (List.mem_append_left _ h9)))), gd_a_copy2 w9 h9⟩)) rfl rfl rfl kSJ7_copyOf_1904c ⟨Nat.le_of_ble_eq_true rfl, Nat.le_of_ble_eq_true rfl⟩) ⟨oP.blind, fun U hU hW => ⟨rfl, by rw [hU], by rw [hU]; exact hPc, hB.moved hW, hDc.weaken (fun _ _ _ _ => trivial), by rw [hU]; exact (hO.narrow (fun q _ h => hFc q h)).moved hW⟩⟩ rfl rfl hl.1 rfl (lv_room (Nat.le_of_ble_eq_true rfl)) dJx4a65c_grow_92f84_37 ⟨Nat.le_of_ble_eq_true rfl, by show 0 + k ≤ k; omega⟩) hS (fun q _ h => hFc q h) hFc (fun u q t H1 locs ht hvm hw hB1 hz1 hk1 hS => ?_)
  obtain ⟨hP1, hD1⟩ := hB1
  rw [ht] at hP1
  obtain ⟨hP, hD⟩ := va_join (wr := [(h0, .inr (0, [.int mc, .ref ta, .int n]))]) (w1 := [(ta, .inl (g, cap, .inr (.inr (.inr (.inr f))))), (q, .inl (g, k, .inr (.inr (.inr (.inr (va_cpy f (fun _ => none) 0 0 cap))))))]) hP hD [1] [0] rfl rfl (by decide) (by decide) hk1 hFc hP1 hD1
  refine W.eq (g2 := F0 m 40 ls [.ref q, .ref h0]) rfl ?_
  refine lv_dup_x1 hx hb dJx4a65c_grow_92f84_40 rfl rfl ?_
  refine va_put (D := gD G) (ci := 0) (v := .ref q) (ty := tyJx4a65c 1) (C := RJx4a65c) (T := TJx4a65c) (N := 3) hx hb hts hin tyJx4a65c tyJx4a65c_ok nmJx4a65c hown hB.1 hP hD hS 0 rfl rfl 1 (by decide) (hts _ (List.mem_cons_of_mem _ (List.mem_append_left _ (List.mem_of_getElem? (i := 0) rfl)))) (fun _ h9 => h9) rfl (tyJx4a65c_ok 1 (by decide)) rfl rfl (Nat.le_of_ble_eq_true rfl) dJx4a65c_grow_92f84_41 (fun H locs hP hD hS => ?_)
  have hP9 := hP.sub (ws' := [(h0, .inr (0, [.int mc, .ref q, .int n])), (q, .inl (g, k, .inr (.inr (.inr (.inr (va_cpy f (fun _ => none) 0 0 cap))))))]) [0, 2] rfl
  have hD9 := hD.sub (ws' := [(h0, .inr (0, [.int mc, .ref q, .int n])), (q, .inl (g, k, .inr (.inr (.inr (.inr (va_cpy f (fun _ => none) 0 0 cap))))))]) [0, 2] (by decide) rfl
  refine W.widen (k := 1) (n := k) (Nat.le_of_ble_eq_true rfl) (by show 0 + k ≤ k; omega) ?_
  exact W.aret (v := .ref q) hx hb hr (Or.inr ⟨_, rfl⟩) (Or.inr ⟨_, rfl⟩) (fun t ht hW => ⟨⟨(), q, rfl, trivial, by rw [ht]; exact hP9, hD9⟩, hS.F ht⟩) hS.2.2 dJx4a65c_grow_92f84_44

