theorem dJx4a65c_add_72be8_0 : decode cJx4a65c_add_72be8 0 = .ok (.iload_n 3, 1) := by decide +kernel
theorem dJx4a65c_add_72be8_1 : decode cJx4a65c_add_72be8 1 = .ok (.aload_n 2, 1) := by decide +kernel
theorem dJx4a65c_add_72be8_2 : decode cJx4a65c_add_72be8 2 = .ok (.arraylength, 1) := by decide +kernel
theorem dJx4a65c_add_72be8_3 : decode cJx4a65c_add_72be8 3 = .ok (.if_icmp .ne 8, 3) := by decide +kernel
theorem dJx4a65c_add_72be8_6 : decode cJx4a65c_add_72be8 6 = .ok (.aload_n 0, 1) := by decide +kernel
theorem dJx4a65c_add_72be8_7 : decode cJx4a65c_add_72be8 7 = .ok (.invokevirtual 129, 3) := by decide +kernel
theorem dJx4a65c_add_72be8_10 : decode cJx4a65c_add_72be8 10 = .ok (.astore_n 2, 1) := by decide +kernel
theorem dJx4a65c_add_72be8_11 : decode cJx4a65c_add_72be8 11 = .ok (.aload_n 2, 1) := by decide +kernel
theorem dJx4a65c_add_72be8_12 : decode cJx4a65c_add_72be8 12 = .ok (.iload_n 3, 1) := by decide +kernel
theorem dJx4a65c_add_72be8_13 : decode cJx4a65c_add_72be8 13 = .ok (.aload_n 1, 1) := by decide +kernel
theorem dJx4a65c_add_72be8_14 : decode cJx4a65c_add_72be8 14 = .ok (.aastore, 1) := by decide +kernel
theorem dJx4a65c_add_72be8_15 : decode cJx4a65c_add_72be8 15 = .ok (.aload_n 0, 1) := by decide +kernel
theorem dJx4a65c_add_72be8_16 : decode cJx4a65c_add_72be8 16 = .ok (.iload_n 3, 1) := by decide +kernel
theorem dJx4a65c_add_72be8_17 : decode cJx4a65c_add_72be8 17 = .ok (.iconst 1, 1) := by decide +kernel
theorem dJx4a65c_add_72be8_18 : decode cJx4a65c_add_72be8 18 = .ok (.iadd, 1) := by decide +kernel
theorem dJx4a65c_add_72be8_19 : decode cJx4a65c_add_72be8 19 = .ok (.putfield 48, 3) := by decide +kernel
theorem dJx4a65c_add_72be8_22 : decode cJx4a65c_add_72be8 22 = .ok (.return_, 1) := by decide +kernel
theorem kSJx4a65c_add_72be8 : yJx4a65c_add_72be8.cls ≠ "java/lang/invoke/MethodHandle" ∧ yJx4a65c_add_72be8.cls ≠ "java/lang/invoke/VarHandle" ∧ (parseMethodDescriptor yJx4a65c_add_72be8.desc).map (fun d => d.parameters.length) = some 3 := by decide +kernel
theorem kVJx4a65c_add_72be8 : yJx4a65c_add_72be8.cls = RJx4a65c ∧ yJx4a65c_add_72be8.cls ≠ "java/lang/invoke/MethodHandle" ∧ yJx4a65c_add_72be8.cls ≠ "java/lang/invoke/VarHandle" ∧ (parseMethodDescriptor yJx4a65c_add_72be8.desc).map (fun d => d.parameters.length) = some 3 := ⟨rfl, kSJx4a65c_add_72be8⟩
def wo_a_add3 : List Cond := [.fieldLink RJx4a65c 48 "java/util/ArrayList" "size" "I"]
def wq_a_add3 : List Cond := .code yJx4a65c_add_72be8 cJx4a65c_add_72be8 4 none :: (wo_a_add3 ++ (wsJx4a65c0 ++ []))
theorem gd_a_add3 : ∀ w ∈ wq_a_add3, Gd w := List.forall_mem_cons.mpr ⟨Or.inl rfl, List.forall_mem_append.mpr ⟨gdl wo_a_add3 (by decide +kernel), (List.forall_mem_append.mpr ⟨gd_wsJx4a65c0, (fun _ h => absurd h List.not_mem_nil)⟩)⟩⟩
theorem in_a_add3 : ∀ w ∈ wq_a_add3, w ∈ lw_tbl := List.forall_mem_cons.mpr ⟨List.mem_of_getElem? (i := 890) (by decide +kernel), List.forall_mem_append.mpr ⟨inT wo_a_add3 [544] (by decide +kernel), (List.forall_mem_append.mpr ⟨in_wsJx4a65c0, (fun _ h => absurd h List.not_mem_nil)⟩)⟩⟩
set_option maxHeartbeats 4000000 in
theorem a_add3 (l : Launch) (G : gG) (g : ClassId) (mi h0 ta cap n v : Nat) (mc : Int32) (vs : List Value) (f : Nat → Option Nat) (sz : Nat) (hn : n < cap) (hcp : cap < 2 ^ 31) : Met l yJx4a65c_add_72be8 wq_a_add3 { frames := 0, cells := 0, slots := 0, locals := 0 } (va_Pc [.ref h0, .ref v, .ref ta, .int (nI n)] (oP G g mi f cap [(h0, .inr (0, [.int mc, .ref ta, .int (nI n)])), (ta, .inl (g, cap, .inr (.inr (.inr (.inr f))))), (v, .inr (5, vs))] sz)) (va_Qv (fun _ : Unit => True) (fun (_ : Unit) (t : State) => va_P (gD G) vwCl [(h0, .inr (0, [.int mc, .ref ta, .int (nI (n + 1))])), (ta, .inl (g, cap, .inr (.inr (.inr (.inr (va_up f n (some v))))))), (v, .inr (5, vs))] t.heap ∧ va_D (va_A [(h0, .inr (0, [.int mc, .ref ta, .int (nI n)])), (ta, .inl (g, cap, .inr (.inr (.inr (.inr f))))), (v, .inr (5, vs))] sz) [(h0, .inr (0, [.int mc, .ref ta, .int (nI (n + 1))])), (ta, .inl (g, cap, .inr (.inr (.inr (.inr (va_up f n (some v))))))), (v, .inr (5, vs))]) (va_A [(h0, .inr (0, [.int mc, .ref ta, .int (nI n)])), (ta, .inl (g, cap, .inr (.inr (.inr (.inr f))))), (v, .inr (5, vs))] sz)) 0 0 (va_A [(h0, .inr (0, [.int mc, .ref ta, .int (nI n)])), (ta, .inl (g, cap, .inr (.inr (.inr (.inr f))))), (v, .inr (5, vs))] sz) := by
  refine Met.ofW (cc := cJx4a65c_add_72be8) (maxL := 4) (ret := none) (by decide) rfl ?_
  intro p e s m args below meth c s₁ B hml hv
  obtain ⟨rfl, rfl, hP, hB, hD0, hO⟩ := hv
  have hx := B.exec
  have hb := B.bytes
  have hr := B.returns
  have hlocks := B.notSynchronized
  have hts := atoms_spec (ws := wq_a_add3) B.pre
  have hin : ∀ w ∈ wsJx4a65c0, w ∈ wq_a_add3 := fun _ h9 => (List.mem_cons_of_mem _ (List.mem_append_right _ (List.mem_append_left _ h9)))
  have hown : s.vm.findClass RJx4a65c = some m.cls := findClass_of_methodNamed B.named
  have hD := hD0.self (sz := s.heap.size)
  generalize va_A [(h0, .inr (0, [.int mc, .ref ta, .int (nI n)])), (ta, .inl (g, cap, .inr (.inr (.inr (.inr f))))), (v, .inr (5, vs))] s.heap.size = A at hD hO ⊢
  have hS : va_S A s.heap s.heap [] := va_S.rf
  have hK := hO.1.K hB
  have hl := lv_entry ([.ref h0, .ref v, .ref ta, .int (nI n)]) (n := 4) (Nat.le_of_ble_eq_true rfl)
  rw [lg_entry_eq]
  generalize (lg_sl ([.ref h0, .ref v, .ref ta, .int (nI n)]) ++ List.replicate (4 - (lg_sl ([.ref h0, .ref v, .ref ta, .int (nI n)])).length) Slot.unset).toArray = ls at hl ⊢
  have hl : lv_has ls 4 [(0, .ref h0), (1, .ref v), (2, .ref ta), (3, .int (nI n))] := hl
  refine lv_iload_n hx hb dJx4a65c_add_72be8_0 rfl (lv_at hl 3 rfl) ?_
  refine lv_aload_n hx hb dJx4a65c_add_72be8_1 rfl (lv_at hl 2 rfl) ?_
  refine va_alen (D := gD G) (v := nI cap) hx hb hK hP 1 0 rfl rfl rfl dJx4a65c_add_72be8_2 ?_
  refine lv_icmp_ne (tgt := 11) hx hb dJx4a65c_add_72be8_3 (by decide) (fun _ => ?_) (fun c9 => absurd c9.symm (ngr_ne hn hcp))
  refine lv_aload_n hx hb dJx4a65c_add_72be8_11 rfl (lv_at hl 2 rfl) ?_
  refine lv_iload_n hx hb dJx4a65c_add_72be8_12 rfl (lv_at hl 3 rfl) ?_
  refine lv_aload_n hx hb dJx4a65c_add_72be8_13 rfl (lv_at hl 1 rfl) ?_
  refine va_astqO (D := gD G) hx hb hK hP hD hS 1 0 2 5 rfl rfl hO.2.2.2.1 rfl rfl (fun z => z.elim (fun a => nI_pos (by omega) a) (fun b => by rw [nI_clamp (by omega)] at b; omega)) dJx4a65c_add_72be8_14 (fun H locs hP hD hS => ?_)
  rw [nI_clamp (show n < 2 ^ 31 by omega)] at hP hD
  refine lv_aload_n hx hb dJx4a65c_add_72be8_15 rfl (lv_at hl 0 rfl) ?_
  refine lv_iload_n hx hb dJx4a65c_add_72be8_16 rfl (lv_at hl 3 rfl) ?_
  refine lv_iconst (v := 1) hx hb dJx4a65c_add_72be8_17 (by decide) ?_
  refine lv_iadd hx hb dJx4a65c_add_72be8_18 ?_
  refine gx_ti (ngr_one n) ?_
  refine va_put (D := gD G) (ci := 0) (v := .int (nI (n + 1))) (ty := tyJx4a65c 2) (C := RJx4a65c) (T := TJx4a65c) (N := 3) hx hb hts hin tyJx4a65c tyJx4a65c_ok nmJx4a65c hown hB.1 hP hD hS 0 rfl rfl 2 (by decide) (hts _ (List.mem_cons_of_mem _ (List.mem_append_left _ (List.mem_of_getElem? (i := 0) rfl)))) (fun _ h9 => h9) rfl (tyJx4a65c_ok 2 (by decide)) rfl rfl (Nat.le_of_ble_eq_true rfl) dJx4a65c_add_72be8_19 (fun H locs hP hD hS => ?_)
  exact W.vret hx hb hr (fun t ht hW => ⟨⟨(), rfl, trivial, by rw [ht]; exact hP, hD⟩, hS.F ht⟩) hS.2.2 dJx4a65c_add_72be8_22

