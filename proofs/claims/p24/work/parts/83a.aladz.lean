def wo_a_grow0Z : List Cond := [.fieldLink RJx4a65c 48 "java/util/ArrayList" "size" "I", .methodLink RJx4a65c 69 yJx4a65c_grow_92f84, .instanceMethod yJx4a65c_grow_92f84, .selects RJx4a65c yJx4a65c_grow_92f84 yJx4a65c_grow_92f84, .initialized RJx4a65c]
def wq_a_grow0Z : List Cond := .code yJx4a65c_grow_d5877 cJx4a65c_grow_d5877 1 (some (.array (.object "java/lang/Object"))) :: (wo_a_grow0Z ++ (wq_a_growZ ++ (wsJx4a65c0 ++ [])))
theorem gd_a_grow0Z : ∀ w ∈ wq_a_grow0Z, Gd w := List.forall_mem_cons.mpr ⟨Or.inl rfl, List.forall_mem_append.mpr ⟨gdl wo_a_grow0Z (by decide +kernel), (List.forall_mem_append.mpr ⟨gd_a_growZ, (List.forall_mem_append.mpr ⟨gd_wsJx4a65c0, (fun _ h => absurd h List.not_mem_nil)⟩)⟩)⟩⟩
theorem in_a_grow0Z : ∀ w ∈ wq_a_grow0Z, w ∈ lw_tbl := List.forall_mem_cons.mpr ⟨List.mem_of_getElem? (i := 894) (by decide +kernel), List.forall_mem_append.mpr ⟨inT wo_a_grow0Z [544, 895, 897, 33, 170] (by decide +kernel), (List.forall_mem_append.mpr ⟨in_a_growZ, (List.forall_mem_append.mpr ⟨in_wsJx4a65c0, (fun _ h => absurd h List.not_mem_nil)⟩)⟩)⟩⟩
set_option maxHeartbeats 4000000 in
theorem a_grow0Z (l : Launch) (G : gG) (g : ClassId) (e0 h0 : Nat) (mc : Int32) (sz : Nat) : Met l yJx4a65c_grow_d5877 wq_a_grow0Z { frames := 2, cells := 1, slots := 10, locals := 44 } (va_Pc [.ref h0] (zP G g e0 [(h0, .inr (0, [.int mc, .ref e0, .int 0]))] sz)) (va_Qr (fun _ : Unit => True) (fun (_ : Unit) (q : Nat) (t : State) => va_P (gD G) vwCl [(h0, .inr (0, [.int mc, .ref q, .int 0])), (q, .inl (g, 10, .inr (.inr (.inr (.inr (fun _ => none))))))] t.heap ∧ va_D (va_A [(h0, .inr (0, [.int mc, .ref e0, .int 0]))] sz) [(h0, .inr (0, [.int mc, .ref q, .int 0])), (q, .inl (g, 10, .inr (.inr (.inr (.inr (fun _ => none))))))]) (va_A [(h0, .inr (0, [.int mc, .ref e0, .int 0]))] sz)) 1 10 (va_A [(h0, .inr (0, [.int mc, .ref e0, .int 0]))] sz) := by
  refine Met.ofW (cc := cJx4a65c_grow_d5877) (maxL := 1) (ret := (some (.array (.object "java/lang/Object")))) (by decide) rfl ?_
  intro p e s m args below meth c s₁ B hml hv
  obtain ⟨rfl, rfl, hP, hB, hD0, hO⟩ := hv
  have hx := B.exec
  have hb := B.bytes
  have hr := B.returns
  have hlocks := B.notSynchronized
  have hts := atoms_spec (ws := wq_a_grow0Z) B.pre
  have hin : ∀ w ∈ wsJx4a65c0, w ∈ wq_a_grow0Z := fun _ h9 => (List.mem_cons_of_mem _ (List.mem_append_right _ (List.mem_append_right _ (List.mem_append_left _ h9))))
  have hown : s.vm.findClass RJx4a65c = some m.cls := findClass_of_methodNamed B.named
  have hS : va_S (va_A [(h0, .inr (0, [.int mc, .ref e0, .int 0]))] s.heap.size) s.heap s.heap [] := va_S.rf
  have hl := lv_entry ([.ref h0]) (n := 1) (Nat.le_of_ble_eq_true rfl)
  rw [lg_entry_eq]
  generalize (lg_sl ([.ref h0]) ++ List.replicate (1 - (lg_sl ([.ref h0])).length) Slot.unset).toArray = ls at hl ⊢
  have hl : lv_has ls 1 [(0, .ref h0)] := hl
  refine lv_aload_n hx hb dJx4a65c_grow_d5877_0 rfl (lv_at hl 0 rfl) ?_
  refine lv_aload_n hx hb dJx4a65c_grow_d5877_1 rfl (lv_at hl 0 rfl) ?_
  refine va_get (D := gD G) (ci := 0) (v := .int 0) (C := RJx4a65c) (T := TJx4a65c) (N := 3) hx hb hts hin hown hB.1 hP 0 rfl rfl 2 (by decide) (hts _ (List.mem_cons_of_mem _ (List.mem_append_left _ (List.mem_of_getElem? (i := 0) rfl)))) (fun _ h9 => h9) rfl dJx4a65c_grow_d5877_2 ?_
  refine lv_iconst (v := 1) hx hb dJx4a65c_grow_d5877_5 (by decide) ?_
  refine lv_iadd hx hb dJx4a65c_grow_d5877_6 ?_
  refine gx_ti (show (0 : Int32) + 1 = 1 by decide) ?_
  refine va_callr (va_runV (As := [.int 1]) (rest := []) (C := RJx4a65c) ⟨hx, hb, hml, hown, hts⟩ (a_growZ l G g e0 h0 mc 0 s.heap.size) (cwV 1 hts (gdV (List.mem_cons_of_mem _ (List.mem_append_left _ (List.mem_of_getElem? (i := 1) rfl))) (List.mem_cons_of_mem _ (List.mem_append_left _ (List.mem_of_getElem? (i := 2) rfl))) (List.mem_cons_of_mem _ (List.mem_append_left _ (List.mem_of_getElem? (i := 3) rfl))) (List.mem_cons_of_mem _ (List.mem_append_left _ (List.mem_of_getElem? (i := 4) rfl))) (fun w9 h9 => ⟨(List.mem_cons_of_mem _ (List.mem_append_right _ (List.mem_append_left _ h9))), gd_a_growZ w9 h9⟩)) rfl rfl rfl kVJx4a65c_grow_92f84 ⟨Nat.le_of_ble_eq_true rfl, Nat.le_of_ble_eq_true rfl⟩) ⟨zP.blind, va_recv hB.1 hP (ci := 0) (q0 := 0) rfl rfl, fun U hU hW => ⟨rfl, by rw [hU], by rw [hU]; exact hP, hB.moved hW, hD0, by rw [hU]; exact hO.moved hW⟩⟩ rfl rfl hl.1 rfl (lv_room (Nat.le_of_ble_eq_true rfl)) dJx4a65c_grow_d5877_7 ⟨Nat.le_of_ble_eq_true rfl, Nat.le_of_ble_eq_true rfl⟩) hS (fun z _ h => h) (fun z h => h) (fun u2 q t H1 locs ht hvm hw hB1 hz1 hk1 hS => ?_)
  obtain ⟨hP1, hD1⟩ := hB1
  rw [ht] at hP1
  refine W.eq (g2 := F0 m 10 ls [.ref q]) rfl ?_
  refine W.widen (k := 1) (n := 10) (Nat.le_of_ble_eq_true rfl) (Nat.le_of_ble_eq_true rfl) ?_
  exact W.aret (v := .ref q) hx hb hr (Or.inr ⟨_, rfl⟩) (Or.inr ⟨_, rfl⟩) (fun t ht hW => ⟨⟨(), q, rfl, trivial, by rw [ht]; exact hP1, hD1⟩, hS.F ht⟩) hS.2.2 dJx4a65c_grow_d5877_10
def wo_a_add3z : List Cond := [.fieldLink RJx4a65c 48 "java/util/ArrayList" "size" "I", .methodLink RJx4a65c 129 yJx4a65c_grow_d5877, .instanceMethod yJx4a65c_grow_d5877, .selects RJx4a65c yJx4a65c_grow_d5877 yJx4a65c_grow_d5877, .initialized RJx4a65c]
def wq_a_add3z : List Cond := .code yJx4a65c_add_72be8 cJx4a65c_add_72be8 4 none :: (wo_a_add3z ++ (wq_a_grow0Z ++ (wsJx4a65c0 ++ [])))
theorem gd_a_add3z : ∀ w ∈ wq_a_add3z, Gd w := List.forall_mem_cons.mpr ⟨Or.inl rfl, List.forall_mem_append.mpr ⟨gdl wo_a_add3z (by decide +kernel), (List.forall_mem_append.mpr ⟨gd_a_grow0Z, (List.forall_mem_append.mpr ⟨gd_wsJx4a65c0, (fun _ h => absurd h List.not_mem_nil)⟩)⟩)⟩⟩
theorem in_a_add3z : ∀ w ∈ wq_a_add3z, w ∈ lw_tbl := List.forall_mem_cons.mpr ⟨List.mem_of_getElem? (i := 890) (by decide +kernel), List.forall_mem_append.mpr ⟨inT wo_a_add3z [544, 891, 893, 32, 170] (by decide +kernel), (List.forall_mem_append.mpr ⟨in_a_grow0Z, (List.forall_mem_append.mpr ⟨in_wsJx4a65c0, (fun _ h => absurd h List.not_mem_nil)⟩)⟩)⟩⟩
set_option maxHeartbeats 4000000 in
theorem a_add3z (l : Launch) (G : gG) (g : ClassId) (e0 h0 v : Nat) (mc : Int32) (vs : List Value) (sz : Nat) : Met l yJx4a65c_add_72be8 wq_a_add3z { frames := 3, cells := 1, slots := 10, locals := 64 } (va_Pc [.ref h0, .ref v, .ref e0, .int 0] (zP G g e0 [(h0, .inr (0, [.int mc, .ref e0, .int 0])), (v, .inr (5, vs))] sz)) (va_Qv (fun _ : Unit => True) (fun (_ : Unit) (t : State) => ∃ q : Nat, va_P (gD G) vwCl [(h0, .inr (0, [.int mc, .ref q, .int 1])), (q, .inl (g, 10, .inr (.inr (.inr (.inr (va_up (fun _ => none) 0 (some v))))))), (v, .inr (5, vs))] t.heap ∧ va_D (va_A [(h0, .inr (0, [.int mc, .ref e0, .int 0])), (v, .inr (5, vs))] sz) [(h0, .inr (0, [.int mc, .ref q, .int 1])), (q, .inl (g, 10, .inr (.inr (.inr (.inr (va_up (fun _ => none) 0 (some v))))))), (v, .inr (5, vs))]) (va_A [(h0, .inr (0, [.int mc, .ref e0, .int 0])), (v, .inr (5, vs))] sz)) 1 10 (va_A [(h0, .inr (0, [.int mc, .ref e0, .int 0])), (v, .inr (5, vs))] sz) := by
  refine Met.ofW (cc := cJx4a65c_add_72be8) (maxL := 4) (ret := none) (by decide) rfl ?_
  intro p e s m args below meth c s₁ B hml hv
  obtain ⟨rfl, rfl, hP, hB, hD0, hO⟩ := hv
  have hx := B.exec
  have hb := B.bytes
  have hr := B.returns
  have hlocks := B.notSynchronized
  have hts := atoms_spec (ws := wq_a_add3z) B.pre
  have hin : ∀ w ∈ wsJx4a65c0, w ∈ wq_a_add3z := fun _ h9 => (List.mem_cons_of_mem _ (List.mem_append_right _ (List.mem_append_right _ (List.mem_append_left _ h9))))
  have hown : s.vm.findClass RJx4a65c = some m.cls := findClass_of_methodNamed B.named
  have hD := hD0.self (sz := s.heap.size)
  have hA : ∀ q : Nat, s.heap.size ≤ q → va_A [(h0, .inr (0, [.int mc, .ref e0, .int 0])), (v, .inr (5, vs))] s.heap.size q := fun q h => Or.inr h
  generalize va_A [(h0, .inr (0, [.int mc, .ref e0, .int 0])), (v, .inr (5, vs))] s.heap.size = A at hD hA hO ⊢
  have hS : va_S A s.heap s.heap [] := va_S.rf
  have hK := hO.1.K hB
  have hl := lv_entry ([.ref h0, .ref v, .ref e0, .int 0]) (n := 4) (Nat.le_of_ble_eq_true rfl)
  rw [lg_entry_eq]
  generalize (lg_sl ([.ref h0, .ref v, .ref e0, .int 0]) ++ List.replicate (4 - (lg_sl ([.ref h0, .ref v, .ref e0, .int 0])).length) Slot.unset).toArray = ls at hl ⊢
  have hl : lv_has ls 4 [(0, .ref h0), (1, .ref v), (2, .ref e0), (3, .int 0)] := hl
  refine lv_iload_n hx hb dJx4a65c_add_72be8_0 rfl (lv_at hl 3 rfl) ?_
  refine lv_aload_n hx hb dJx4a65c_add_72be8_1 rfl (lv_at hl 2 rfl) ?_
  refine va_tlen (v := 0) hx hb hO.2.2.2.1 hS rfl dJx4a65c_add_72be8_2 ?_
  refine lv_icmp_ne (tgt := 11) hx hb dJx4a65c_add_72be8_3 (by decide) (fun c9 => absurd rfl c9) (fun _ => ?_)
  refine lv_aload_n hx hb dJx4a65c_add_72be8_6 rfl (lv_at hl 0 rfl) ?_
  have hPc := hP.sub (ws' := [(h0, .inr (0, [.int mc, .ref e0, .int 0]))]) [0] rfl
  have hDc := hD.sub (ws' := [(h0, .inr (0, [.int mc, .ref e0, .int 0]))]) [0] (by decide) rfl
  have hFc := va_free (wc := [(h0, .inr (0, [.int mc, .ref e0, .int 0]))]) hD hS hA [0] rfl
  refine va_callr (va_runV (As := []) (rest := []) (C := RJx4a65c) ⟨hx, hb, hml, hown, hts⟩ (a_grow0Z l G g e0 h0 mc s.heap.size) (cwV 0 hts (gdV (List.mem_cons_of_mem _ (List.mem_append_left _ (List.mem_of_getElem? (i := 1) rfl))) (List.mem_cons_of_mem _ (List.mem_append_left _ (List.mem_of_getElem? (i := 2) rfl))) (List.mem_cons_of_mem _ (List.mem_append_left _ (List.mem_of_getElem? (i := 3) rfl))) (List.mem_cons_of_mem _ (List.mem_append_left _ (List.mem_of_getElem? (i := 4) rfl))) (fun w9 h9 => ⟨(List.mem_cons_of_mem _ (List.mem_append_right _ (List.mem_append_left _ h9))), gd_a_grow0Z w9 h9⟩)) rfl rfl rfl kVJx4a65c_grow_d5877 ⟨Nat.le_of_ble_eq_true rfl, Nat.le_of_ble_eq_true rfl⟩) ⟨zP.blind, va_recv hB.1 hP (ci := 0) (q0 := 0) rfl rfl, fun U hU hW => ⟨rfl, by rw [hU], by rw [hU]; exact hPc, hB.moved hW, hDc.weaken (fun _ _ _ _ => trivial), by rw [hU]; exact (hO.narrow (fun q h => hFc q h)).moved hW⟩⟩ rfl rfl hl.1 rfl (lv_room (Nat.le_of_ble_eq_true rfl)) dJx4a65c_add_72be8_7 ⟨Nat.le_of_ble_eq_true rfl, Nat.le_of_ble_eq_true rfl⟩) hS (fun z _ h => hFc z h) hFc (fun u2 q t H1 locs ht hvm hw hB1 hz1 hk1 hS => ?_)
  obtain ⟨hP1, hD1⟩ := hB1
  rw [ht] at hP1
  obtain ⟨hP, hD⟩ := va_join (wr := [(v, .inr (5, vs))]) (w1 := [(h0, .inr (0, [.int mc, .ref q, .int 0])), (q, .inl (g, 10, .inr (.inr (.inr (.inr (fun _ => none))))))]) hP hD [0] [1] rfl rfl (by decide) (by decide) hk1 hFc hP1 hD1
  refine W.eq (g2 := F0 m 10 ls [.ref q]) rfl ?_
  refine lv_astore_n (lv' := [(2, .ref q), (0, .ref h0), (1, .ref v), (3, .int 0)]) hx hb dJx4a65c_add_72be8_10 rfl hl (by decide) rfl (fun ls hl => ?_)
  refine lv_aload_n hx hb dJx4a65c_add_72be8_11 rfl (lv_at hl 0 rfl) ?_
  refine lv_iload_n hx hb dJx4a65c_add_72be8_12 rfl (lv_at hl 3 rfl) ?_
  refine lv_aload_n hx hb dJx4a65c_add_72be8_13 rfl (lv_at hl 2 rfl) ?_
  refine va_astqO (D := gD G) hx hb hK hP hD hS 2 0 0 5 rfl rfl hO.2.2.2.2 rfl rfl (fun z => z.elim (fun a => absurd a (by decide)) (fun b => absurd b (by decide))) dJx4a65c_add_72be8_14 (fun H locs hP hD hS => ?_)
  have e8 : (0 : Int32).toNatClampNeg = 0 := by decide
  rw [e8] at hP hD
  refine lv_aload_n hx hb dJx4a65c_add_72be8_15 rfl (lv_at hl 1 rfl) ?_
  refine lv_iload_n hx hb dJx4a65c_add_72be8_16 rfl (lv_at hl 3 rfl) ?_
  refine lv_iconst (v := 1) hx hb dJx4a65c_add_72be8_17 (by decide) ?_
  refine lv_iadd hx hb dJx4a65c_add_72be8_18 ?_
  refine gx_ti (show (0 : Int32) + 1 = 1 by decide) ?_
  refine va_put (D := gD G) (ci := 0) (v := .int 1) (ty := tyJx4a65c 2) (C := RJx4a65c) (T := TJx4a65c) (N := 3) hx hb hts hin tyJx4a65c tyJx4a65c_ok nmJx4a65c hown hB.1 hP hD hS 1 rfl rfl 2 (by decide) (hts _ (List.mem_cons_of_mem _ (List.mem_append_left _ (List.mem_of_getElem? (i := 0) rfl)))) (fun _ h9 => h9) rfl (tyJx4a65c_ok 2 (by decide)) rfl rfl (Nat.le_of_ble_eq_true rfl) dJx4a65c_add_72be8_19 (fun H locs hP hD hS => ?_)
  have hP9 := hP.sub (ws' := [(h0, .inr (0, [.int mc, .ref q, .int 1])), (q, .inl (g, 10, .inr (.inr (.inr (.inr (va_up (fun _ => none) 0 (some v))))))), (v, .inr (5, vs))]) [1, 2, 0] rfl
  have hD9 := hD.sub (ws' := [(h0, .inr (0, [.int mc, .ref q, .int 1])), (q, .inl (g, 10, .inr (.inr (.inr (.inr (va_up (fun _ => none) 0 (some v))))))), (v, .inr (5, vs))]) [1, 2, 0] (by decide) rfl
  refine W.widen (k := 1) (n := 10) (Nat.le_of_ble_eq_true rfl) (Nat.le_of_ble_eq_true rfl) ?_
  exact W.vret hx hb hr (fun t ht hW => ⟨⟨(), rfl, trivial, q, by rw [ht]; exact hP9, hD9⟩, hS.F ht⟩) hS.2.2 dJx4a65c_add_72be8_22

