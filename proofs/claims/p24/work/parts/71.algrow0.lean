theorem dJx4a65c_grow_d5877_0 : decode cJx4a65c_grow_d5877 0 = .ok (.aload_n 0, 1) := by decide +kernel
theorem dJx4a65c_grow_d5877_1 : decode cJx4a65c_grow_d5877 1 = .ok (.aload_n 0, 1) := by decide +kernel
theorem dJx4a65c_grow_d5877_2 : decode cJx4a65c_grow_d5877 2 = .ok (.getfield 48, 3) := by decide +kernel
theorem dJx4a65c_grow_d5877_5 : decode cJx4a65c_grow_d5877 5 = .ok (.iconst 1, 1) := by decide +kernel
theorem dJx4a65c_grow_d5877_6 : decode cJx4a65c_grow_d5877 6 = .ok (.iadd, 1) := by decide +kernel
theorem dJx4a65c_grow_d5877_7 : decode cJx4a65c_grow_d5877 7 = .ok (.invokevirtual 69, 3) := by decide +kernel
theorem dJx4a65c_grow_d5877_10 : decode cJx4a65c_grow_d5877 10 = .ok (.areturn, 1) := by decide +kernel
theorem kSJx4a65c_grow_d5877 : yJx4a65c_grow_d5877.cls ≠ "java/lang/invoke/MethodHandle" ∧ yJx4a65c_grow_d5877.cls ≠ "java/lang/invoke/VarHandle" ∧ (parseMethodDescriptor yJx4a65c_grow_d5877.desc).map (fun d => d.parameters.length) = some 0 := by decide +kernel
theorem kVJx4a65c_grow_d5877 : yJx4a65c_grow_d5877.cls = RJx4a65c ∧ yJx4a65c_grow_d5877.cls ≠ "java/lang/invoke/MethodHandle" ∧ yJx4a65c_grow_d5877.cls ≠ "java/lang/invoke/VarHandle" ∧ (parseMethodDescriptor yJx4a65c_grow_d5877.desc).map (fun d => d.parameters.length) = some 0 := ⟨rfl, kSJx4a65c_grow_d5877⟩
def wo_a_grow0 : List Cond := [.fieldLink RJx4a65c 48 "java/util/ArrayList" "size" "I", .methodLink RJx4a65c 69 yJx4a65c_grow_92f84, .instanceMethod yJx4a65c_grow_92f84, .selects RJx4a65c yJx4a65c_grow_92f84 yJx4a65c_grow_92f84, .initialized RJx4a65c]
def wq_a_grow0 : List Cond := .code yJx4a65c_grow_d5877 cJx4a65c_grow_d5877 1 (some (.array (.object "java/lang/Object"))) :: (wo_a_grow0 ++ (wq_a_growN ++ (wsJx4a65c0 ++ [])))
theorem gd_a_grow0 : ∀ w ∈ wq_a_grow0, Gd w := List.forall_mem_cons.mpr ⟨Or.inl rfl, List.forall_mem_append.mpr ⟨gdl wo_a_grow0 (by decide +kernel), (List.forall_mem_append.mpr ⟨gd_a_growN, (List.forall_mem_append.mpr ⟨gd_wsJx4a65c0, (fun _ h => absurd h List.not_mem_nil)⟩)⟩)⟩⟩
theorem in_a_grow0 : ∀ w ∈ wq_a_grow0, w ∈ lw_tbl := List.forall_mem_cons.mpr ⟨List.mem_of_getElem? (i := 894) (by decide +kernel), List.forall_mem_append.mpr ⟨inT wo_a_grow0 [544, 895, 897, 33, 170] (by decide +kernel), (List.forall_mem_append.mpr ⟨in_a_growN, (List.forall_mem_append.mpr ⟨in_wsJx4a65c0, (fun _ h => absurd h List.not_mem_nil)⟩)⟩)⟩⟩
set_option maxHeartbeats 4000000 in
theorem a_grow0 (l : Launch) (G : gG) (g : ClassId) (mi h0 ta cap : Nat) (mc : Int32) (f : Nat → Option Nat) (k sz : Nat) (hc : 0 < cap) (hck : cap < k) (hk : k ≤ 16777216) (he : nI cap + (if (1 : Int32) < nI cap >>> (1 &&& 31) then nI cap >>> (1 &&& 31) else 1) = nI k) : Met l yJx4a65c_grow_d5877 wq_a_grow0 { frames := 4, cells := 1, slots := k, locals := 107 } (va_Pc [.ref h0] (oP G g mi f cap [(h0, .inr (0, [.int mc, .ref ta, .int (nI cap)])), (ta, .inl (g, cap, .inr (.inr (.inr (.inr f)))))] sz)) (va_Qr (fun _ : Unit => True) (fun (_ : Unit) (q : Nat) (t : State) => va_P (gD G) vwCl [(h0, .inr (0, [.int mc, .ref q, .int (nI cap)])), (q, .inl (g, k, .inr (.inr (.inr (.inr (va_cpy f (fun _ => none) 0 0 cap))))))] t.heap ∧ va_D (va_A [(h0, .inr (0, [.int mc, .ref ta, .int (nI cap)])), (ta, .inl (g, cap, .inr (.inr (.inr (.inr f)))))] sz) [(h0, .inr (0, [.int mc, .ref q, .int (nI cap)])), (q, .inl (g, k, .inr (.inr (.inr (.inr (va_cpy f (fun _ => none) 0 0 cap))))))]) (va_A [(h0, .inr (0, [.int mc, .ref ta, .int (nI cap)])), (ta, .inl (g, cap, .inr (.inr (.inr (.inr f)))))] sz)) 1 k (va_A [(h0, .inr (0, [.int mc, .ref ta, .int (nI cap)])), (ta, .inl (g, cap, .inr (.inr (.inr (.inr f)))))] sz) := by
  refine Met.ofW (cc := cJx4a65c_grow_d5877) (maxL := 1) (ret := (some (.array (.object "java/lang/Object")))) (by decide) rfl ?_
  intro p e s m args below meth c s₁ B hml hv
  obtain ⟨rfl, rfl, hP, hB, hD0, hO⟩ := hv
  have hx := B.exec
  have hb := B.bytes
  have hr := B.returns
  have hlocks := B.notSynchronized
  have hts := atoms_spec (ws := wq_a_grow0) B.pre
  have hin : ∀ w ∈ wsJx4a65c0, w ∈ wq_a_grow0 := fun _ h9 => (List.mem_cons_of_mem _ (List.mem_append_right _ (List.mem_append_right _ (List.mem_append_left _ h9))))
  have hown : s.vm.findClass RJx4a65c = some m.cls := findClass_of_methodNamed B.named
  have hS : va_S (va_A [(h0, .inr (0, [.int mc, .ref ta, .int (nI cap)])), (ta, .inl (g, cap, .inr (.inr (.inr (.inr f)))))] s.heap.size) s.heap s.heap [] := va_S.rf
  have hl := lv_entry ([.ref h0]) (n := 1) (Nat.le_of_ble_eq_true rfl)
  rw [lg_entry_eq]
  generalize (lg_sl ([.ref h0]) ++ List.replicate (1 - (lg_sl ([.ref h0])).length) Slot.unset).toArray = ls at hl ⊢
  have hl : lv_has ls 1 [(0, .ref h0)] := hl
  refine lv_aload_n hx hb dJx4a65c_grow_d5877_0 rfl (lv_at hl 0 rfl) ?_
  refine lv_aload_n hx hb dJx4a65c_grow_d5877_1 rfl (lv_at hl 0 rfl) ?_
  refine va_get (D := gD G) (ci := 0) (v := .int (nI cap)) (C := RJx4a65c) (T := TJx4a65c) (N := 3) hx hb hts hin hown hB.1 hP 0 rfl rfl 2 (by decide) (hts _ (List.mem_cons_of_mem _ (List.mem_append_left _ (List.mem_of_getElem? (i := 0) rfl)))) (fun _ h9 => h9) rfl dJx4a65c_grow_d5877_2 ?_
  refine lv_iconst (v := 1) hx hb dJx4a65c_grow_d5877_5 (by decide) ?_
  refine lv_iadd hx hb dJx4a65c_grow_d5877_6 ?_
  refine gx_ti (ngr_one cap) ?_
  refine va_callr (va_runV (As := [.int (nI (cap + 1))]) (rest := []) (C := RJx4a65c) ⟨hx, hb, hml, hown, hts⟩ (a_growN l G g mi h0 ta cap mc (nI cap) f k s.heap.size hc hck hk he) (cwV 1 hts (gdV (List.mem_cons_of_mem _ (List.mem_append_left _ (List.mem_of_getElem? (i := 1) rfl))) (List.mem_cons_of_mem _ (List.mem_append_left _ (List.mem_of_getElem? (i := 2) rfl))) (List.mem_cons_of_mem _ (List.mem_append_left _ (List.mem_of_getElem? (i := 3) rfl))) (List.mem_cons_of_mem _ (List.mem_append_left _ (List.mem_of_getElem? (i := 4) rfl))) (fun w9 h9 => ⟨(List.mem_cons_of_mem _ (List.mem_append_right _ (List.mem_append_left _ h9))), gd_a_growN w9 h9⟩)) rfl rfl rfl kVJx4a65c_grow_92f84 ⟨Nat.le_of_ble_eq_true rfl, Nat.le_of_ble_eq_true rfl⟩) ⟨oP.blind, va_recv hB.1 hP (ci := 0) (q0 := 0) rfl rfl, fun U hU hW => ⟨rfl, by rw [hU], by rw [hU]; exact hP, hB.moved hW, hD0, by rw [hU]; exact hO.moved hW⟩⟩ rfl rfl hl.1 rfl (lv_room (Nat.le_of_ble_eq_true rfl)) dJx4a65c_grow_d5877_7 ⟨Nat.le_of_ble_eq_true rfl, by show 0 + k ≤ k; omega⟩) hS (fun z _ h => h) (fun z h => h) (fun u2 q t H1 locs ht hvm hw hB1 hz1 hk1 hS => ?_)
  obtain ⟨hP1, hD1⟩ := hB1
  rw [ht] at hP1
  refine W.eq (g2 := F0 m 10 ls [.ref q]) rfl ?_
  refine W.widen (k := 1) (n := k) (Nat.le_of_ble_eq_true rfl) (by show 0 + k ≤ k; omega) ?_
  exact W.aret (v := .ref q) hx hb hr (Or.inr ⟨_, rfl⟩) (Or.inr ⟨_, rfl⟩) (fun t ht hW => ⟨⟨(), q, rfl, trivial, by rw [ht]; exact hP1, hD1⟩, hS.F ht⟩) hS.2.2 dJx4a65c_grow_d5877_10

