theorem dJx4a65c_elementData_915e3_0 : decode cJx4a65c_elementData_915e3 0 = .ok (.aload_n 0, 1) := by decide +kernel
theorem dJx4a65c_elementData_915e3_1 : decode cJx4a65c_elementData_915e3 1 = .ok (.getfield 9, 3) := by decide +kernel
theorem dJx4a65c_elementData_915e3_4 : decode cJx4a65c_elementData_915e3 4 = .ok (.iload_n 1, 1) := by decide +kernel
theorem dJx4a65c_elementData_915e3_5 : decode cJx4a65c_elementData_915e3 5 = .ok (.aaload, 1) := by decide +kernel
theorem dJx4a65c_elementData_915e3_6 : decode cJx4a65c_elementData_915e3 6 = .ok (.areturn, 1) := by decide +kernel
theorem kSJx4a65c_elementData_915e3 : yJx4a65c_elementData_915e3.cls ≠ "java/lang/invoke/MethodHandle" ∧ yJx4a65c_elementData_915e3.cls ≠ "java/lang/invoke/VarHandle" ∧ (parseMethodDescriptor yJx4a65c_elementData_915e3.desc).map (fun d => d.parameters.length) = some 1 := by decide +kernel
theorem kVJx4a65c_elementData_915e3 : yJx4a65c_elementData_915e3.cls = RJx4a65c ∧ yJx4a65c_elementData_915e3.cls ≠ "java/lang/invoke/MethodHandle" ∧ yJx4a65c_elementData_915e3.cls ≠ "java/lang/invoke/VarHandle" ∧ (parseMethodDescriptor yJx4a65c_elementData_915e3.desc).map (fun d => d.parameters.length) = some 1 := ⟨rfl, kSJx4a65c_elementData_915e3⟩
theorem dJ15_checkIndex_7cf53_0 : decode cJ15_checkIndex_7cf53 0 = .ok (.iload_n 0, 1) := by decide +kernel
theorem dJ15_checkIndex_7cf53_1 : decode cJ15_checkIndex_7cf53 1 = .ok (.iload_n 1, 1) := by decide +kernel
theorem dJ15_checkIndex_7cf53_2 : decode cJ15_checkIndex_7cf53 2 = .ok (.aconst_null, 1) := by decide +kernel
theorem dJ15_checkIndex_7cf53_3 : decode cJ15_checkIndex_7cf53 3 = .ok (.invokestatic 105, 3) := by decide +kernel
theorem dJ15_checkIndex_7cf53_6 : decode cJ15_checkIndex_7cf53 6 = .ok (.ireturn, 1) := by decide +kernel
theorem kSJ15_checkIndex_7cf53 : yJ15_checkIndex_7cf53.cls ≠ "java/lang/invoke/MethodHandle" ∧ yJ15_checkIndex_7cf53.cls ≠ "java/lang/invoke/VarHandle" ∧ (parseMethodDescriptor yJ15_checkIndex_7cf53.desc).map (fun d => d.parameters.length) = some 2 := by decide +kernel
theorem dJx4a65c_get_915e3_0 : decode cJx4a65c_get_915e3 0 = .ok (.iload_n 1, 1) := by decide +kernel
theorem dJx4a65c_get_915e3_1 : decode cJx4a65c_get_915e3 1 = .ok (.aload_n 0, 1) := by decide +kernel
theorem dJx4a65c_get_915e3_2 : decode cJx4a65c_get_915e3 2 = .ok (.getfield 48, 3) := by decide +kernel
theorem dJx4a65c_get_915e3_5 : decode cJx4a65c_get_915e3 5 = .ok (.invokestatic 118, 3) := by decide +kernel
theorem dJx4a65c_get_915e3_8 : decode cJx4a65c_get_915e3 8 = .ok (.pop, 1) := by decide +kernel
theorem dJx4a65c_get_915e3_9 : decode cJx4a65c_get_915e3 9 = .ok (.aload_n 0, 1) := by decide +kernel
theorem dJx4a65c_get_915e3_10 : decode cJx4a65c_get_915e3 10 = .ok (.iload_n 1, 1) := by decide +kernel
theorem dJx4a65c_get_915e3_11 : decode cJx4a65c_get_915e3 11 = .ok (.invokevirtual 123, 3) := by decide +kernel
theorem dJx4a65c_get_915e3_14 : decode cJx4a65c_get_915e3 14 = .ok (.areturn, 1) := by decide +kernel
theorem kSJx4a65c_get_915e3 : yJx4a65c_get_915e3.cls ≠ "java/lang/invoke/MethodHandle" ∧ yJx4a65c_get_915e3.cls ≠ "java/lang/invoke/VarHandle" ∧ (parseMethodDescriptor yJx4a65c_get_915e3.desc).map (fun d => d.parameters.length) = some 1 := by decide +kernel
theorem kVJx4a65c_get_915e3 : yJx4a65c_get_915e3.cls = RJx4a65c ∧ yJx4a65c_get_915e3.cls ≠ "java/lang/invoke/MethodHandle" ∧ yJx4a65c_get_915e3.cls ≠ "java/lang/invoke/VarHandle" ∧ (parseMethodDescriptor yJx4a65c_get_915e3.desc).map (fun d => d.parameters.length) = some 1 := ⟨rfl, kSJx4a65c_get_915e3⟩
def wLa : List Cond := [.fieldLink RJx4a65c 48 "java/util/ArrayList" "size" "I", .fieldLink RJx4a65c 9 "java/util/ArrayList" "elementData" "[Ljava/lang/Object;", .methodLink RJx4a65c 118 yJ15_checkIndex_7cf53, .static yJ15_checkIndex_7cf53, .initialized RJ15, .code yJ15_checkIndex_7cf53 cJ15_checkIndex_7cf53 2 (some .int), .methodLink RJ15 105 yJ3_checkIndex_8e157, .static yJ3_checkIndex_8e157, .initialized RJ3, .methodLink RJx4a65c 123 yJx4a65c_elementData_915e3, .instanceMethod yJx4a65c_elementData_915e3, .selects RJx4a65c yJx4a65c_elementData_915e3 yJx4a65c_elementData_915e3, .code yJx4a65c_elementData_915e3 cJx4a65c_elementData_915e3 2 (some (.object "java/lang/Object")), .initialized RJx4a65c, .instanceMethod yJx4a65c_size_8abf5, .selects RJx4a65c yJx4a65c_size_8abf5 yJx4a65c_size_8abf5, .code yJx4a65c_size_8abf5 cJx4a65c_size_8abf5 1 (some .int), .instanceMethod yJx4a65c_get_915e3, .selects RJx4a65c yJx4a65c_get_915e3 yJx4a65c_get_915e3, .code yJx4a65c_get_915e3 cJx4a65c_get_915e3 2 (some (.object "java/lang/Object"))]
def wL : List Cond := wLa ++ (wsJx4a65c0 ++ wJ)
theorem gd_wL : ∀ w ∈ wL, Gd w := List.forall_mem_append.mpr ⟨gdl wLa (by decide +kernel), List.forall_mem_append.mpr ⟨gd_wsJx4a65c0, gd_wJ⟩⟩
theorem in_wL : ∀ w ∈ wL, w ∈ lw_tbl := List.forall_mem_append.mpr ⟨inT wLa [544, 543, 875, 876, 179, 877, 878, 692, 177, 879, 880, 881, 882, 170, 868, 869, 870, 967, 968, 969] (by decide +kernel), List.forall_mem_append.mpr ⟨in_wsJx4a65c0, in_wJ⟩⟩
theorem wLin : ∀ w ∈ wsJx4a65c0, w ∈ wL := fun _ h => List.mem_append_right _ (List.mem_append_left _ h)
theorem wJL : ∀ w ∈ wJ, w ∈ wL := fun _ h => List.mem_append_right _ (List.mem_append_right _ h)
theorem wl0 : Cond.fieldLink RJx4a65c 48 "java/util/ArrayList" "size" "I" ∈ wL := List.mem_append_left _ (List.mem_of_getElem? (i := 0) rfl)
theorem wl1 : Cond.fieldLink RJx4a65c 9 "java/util/ArrayList" "elementData" "[Ljava/lang/Object;" ∈ wL := List.mem_append_left _ (List.mem_of_getElem? (i := 1) rfl)
theorem wl2 : Cond.methodLink RJx4a65c 118 yJ15_checkIndex_7cf53 ∈ wL := List.mem_append_left _ (List.mem_of_getElem? (i := 2) rfl)
theorem wl3 : Cond.static yJ15_checkIndex_7cf53 ∈ wL := List.mem_append_left _ (List.mem_of_getElem? (i := 3) rfl)
theorem wl4 : Cond.initialized RJ15 ∈ wL := List.mem_append_left _ (List.mem_of_getElem? (i := 4) rfl)
theorem wl5 : Cond.code yJ15_checkIndex_7cf53 cJ15_checkIndex_7cf53 2 (some .int) ∈ wL := List.mem_append_left _ (List.mem_of_getElem? (i := 5) rfl)
theorem wl6 : Cond.methodLink RJ15 105 yJ3_checkIndex_8e157 ∈ wL := List.mem_append_left _ (List.mem_of_getElem? (i := 6) rfl)
theorem wl7 : Cond.static yJ3_checkIndex_8e157 ∈ wL := List.mem_append_left _ (List.mem_of_getElem? (i := 7) rfl)
theorem wl8 : Cond.initialized RJ3 ∈ wL := List.mem_append_left _ (List.mem_of_getElem? (i := 8) rfl)
theorem wl9 : Cond.methodLink RJx4a65c 123 yJx4a65c_elementData_915e3 ∈ wL := List.mem_append_left _ (List.mem_of_getElem? (i := 9) rfl)
theorem wl10 : Cond.instanceMethod yJx4a65c_elementData_915e3 ∈ wL := List.mem_append_left _ (List.mem_of_getElem? (i := 10) rfl)
theorem wl11 : Cond.selects RJx4a65c yJx4a65c_elementData_915e3 yJx4a65c_elementData_915e3 ∈ wL := List.mem_append_left _ (List.mem_of_getElem? (i := 11) rfl)
theorem wl12 : Cond.code yJx4a65c_elementData_915e3 cJx4a65c_elementData_915e3 2 (some (.object "java/lang/Object")) ∈ wL := List.mem_append_left _ (List.mem_of_getElem? (i := 12) rfl)
theorem wl13 : Cond.initialized RJx4a65c ∈ wL := List.mem_append_left _ (List.mem_of_getElem? (i := 13) rfl)
theorem wl14 : Cond.instanceMethod yJx4a65c_size_8abf5 ∈ wL := List.mem_append_left _ (List.mem_of_getElem? (i := 14) rfl)
theorem wl15 : Cond.selects RJx4a65c yJx4a65c_size_8abf5 yJx4a65c_size_8abf5 ∈ wL := List.mem_append_left _ (List.mem_of_getElem? (i := 15) rfl)
theorem wl16 : Cond.code yJx4a65c_size_8abf5 cJx4a65c_size_8abf5 1 (some .int) ∈ wL := List.mem_append_left _ (List.mem_of_getElem? (i := 16) rfl)
theorem wl17 : Cond.instanceMethod yJx4a65c_get_915e3 ∈ wL := List.mem_append_left _ (List.mem_of_getElem? (i := 17) rfl)
theorem wl18 : Cond.selects RJx4a65c yJx4a65c_get_915e3 yJx4a65c_get_915e3 ∈ wL := List.mem_append_left _ (List.mem_of_getElem? (i := 18) rfl)
theorem wl19 : Cond.code yJx4a65c_get_915e3 cJx4a65c_get_915e3 2 (some (.object "java/lang/Object")) ∈ wL := List.mem_append_left _ (List.mem_of_getElem? (i := 19) rfl)
/-- the class of Object[] -/
def kO (g : ClassId) (U : State) : Prop := ArrOfT U g (.object "java/lang/Object") ∧ va_RA U g (.object "java/lang/Object")
theorem kO.moved {g : ClassId} {u U : State} (hvm : u.vm.Alike U.vm) (h : kO g u) : kO g U := ⟨arrOfT_moved hvm h.1, h.2.moved hvm⟩
theorem kO.K {G : gG} {g : ClassId} {U : State} (hB : KB G U) (h : kO g U) : va_K (gD G) vwCl [(g, .object "java/lang/Object")] U := ⟨hB.1.1, fun k q hk => match k, hk with | 0, hk => by cases Option.some.inj hk; exact h⟩
def aP (G : gG) (Z : gM) (g : ClassId) (A : Nat → Prop) (ws : va_W) (U : State) : Prop := va_P (gD G) vwCl ws U.heap ∧ KB G U ∧ sE Z A U U.heap ∧ kO g U
theorem aP.blind {G : gG} {Z : gM} {g : ClassId} {A : Nat → Prop} {ws : va_W} {av : List Value} : FrameBlind (va_Pc av (aP G Z g A ws)) := fun _ U f mk q => ⟨q.1, q.2.1, q.2.2.1.calling f mk _, q.2.2.2.1.calling f mk _, kO.moved (u := U) (Vm.Alike.refl U.vm) q.2.2.2.2⟩
theorem alL (y : MethodName) (b : ByteArray) (n : Nat) (r : Option FieldType) (h : Cond.code y b n r ∈ wL) : ∀ w ∈ (Cond.code y b n r :: wL), w ∈ wL ∧ Gd w := List.forall_mem_cons.mpr ⟨⟨h, gd_wL _ h⟩, fun w hw => ⟨hw, gd_wL _ hw⟩⟩
theorem a_size (l : Launch) (G : gG) (Z : gM) (g : ClassId) (A : Nat → Prop) (h0 : Nat) (mc : Int32) (ta : Value) (n : Int32) : Met l yJx4a65c_size_8abf5 (Cond.code yJx4a65c_size_8abf5 cJx4a65c_size_8abf5 1 (some .int) :: wL) { frames := 0, cells := 0, slots := 0, locals := 0 } (va_Pc [.ref h0] (aP G Z g A [(h0, .inr (0, [.int mc, ta, .int n]))])) (vp_Si (fun x : Int32 => x = n)) 0 0 (fun _ => False) := by
  refine Met.ofW (cc := cJx4a65c_size_8abf5) (maxL := 1) (ret := (some .int)) (by decide) rfl ?_
  intro p e s m args below meth c s₁ B hml hv
  obtain ⟨rfl, hP, hB, hE, hO⟩ := hv
  have hx := B.exec
  have hb := B.bytes
  have hr := B.returns
  have hlocks := B.notSynchronized
  have hts0 := atoms_spec (ws := Cond.code yJx4a65c_size_8abf5 cJx4a65c_size_8abf5 1 (some .int) :: wL) B.pre
  have hts : ∀ w ∈ wL, w.before _ s = true := fun w h => hts0 w (List.mem_cons_of_mem _ h)
  have hown : s.vm.findClass RJx4a65c = some m.cls := findClass_of_methodNamed B.named
  have hK := hB.1
  have hl := lv_entry ([.ref h0]) (n := 1) (Nat.le_of_ble_eq_true rfl)
  rw [lg_entry_eq]
  generalize (lg_sl ([.ref h0]) ++ List.replicate (1 - (lg_sl ([.ref h0])).length) Slot.unset).toArray = ls at hl ⊢
  have hl : lv_has ls 1 [(0, .ref h0)] := hl
  refine lv_aload_n hx hb dJx4a65c_size_8abf5_0 rfl (lv_at hl 0 rfl) ?_
  refine va_get (D := gD G) (ci := 0) (v := .int n) (C := RJx4a65c) (T := TJx4a65c) (N := 3) hx hb hts wLin hown hK hP 0 rfl rfl 2 (by decide) (hts _ (wl0)) (fun _ h9 => h9) rfl dJx4a65c_size_8abf5_1 ?_
  exact W.iret (v := n) hx hb hr (fun t ht hW => ⟨_, rfl, rfl, ht⟩) (fun q h => absurd h List.not_mem_nil) dJx4a65c_size_8abf5_4
theorem a_elem (l : Launch) (G : gG) (Z : gM) (g : ClassId) (A : Nat → Prop) (h0 ta cap a : Nat) (mc n i : Int32) (f : Nat → Option Nat) (hi : vp_in i cap) (hf : f i.toNatClampNeg = some a) : Met l yJx4a65c_elementData_915e3 (Cond.code yJx4a65c_elementData_915e3 cJx4a65c_elementData_915e3 2 (some (.object "java/lang/Object")) :: wL) { frames := 0, cells := 0, slots := 0, locals := 0 } (va_Pc [.ref h0, .int i] (aP G Z g A [(h0, .inr (0, [.int mc, .ref ta, .int n])), (ta, .inl (g, cap, .inr (.inr (.inr (.inr f)))))])) (va_Sr (fun _ => True) (fun _ => .ref a)) 0 0 (fun _ => False) := by
  refine Met.ofW (cc := cJx4a65c_elementData_915e3) (maxL := 2) (ret := (some (.object "java/lang/Object"))) (by decide) rfl ?_
  intro p e s m args below meth c s₁ B hml hv
  obtain ⟨rfl, hP, hB, hE, hO⟩ := hv
  have hx := B.exec
  have hb := B.bytes
  have hr := B.returns
  have hlocks := B.notSynchronized
  have hts0 := atoms_spec (ws := Cond.code yJx4a65c_elementData_915e3 cJx4a65c_elementData_915e3 2 (some (.object "java/lang/Object")) :: wL) B.pre
  have hts : ∀ w ∈ wL, w.before _ s = true := fun w h => hts0 w (List.mem_cons_of_mem _ h)
  have hown : s.vm.findClass RJx4a65c = some m.cls := findClass_of_methodNamed B.named
  have hK := hB.1
  have hl := lv_entry ([.ref h0, .int i]) (n := 2) (Nat.le_of_ble_eq_true rfl)
  rw [lg_entry_eq]
  generalize (lg_sl ([.ref h0, .int i]) ++ List.replicate (2 - (lg_sl ([.ref h0, .int i])).length) Slot.unset).toArray = ls at hl ⊢
  have hl : lv_has ls 2 [(0, .ref h0), (1, .int i)] := hl
  refine lv_aload_n hx hb dJx4a65c_elementData_915e3_0 rfl (lv_at hl 0 rfl) ?_
  refine va_get (D := gD G) (ci := 0) (v := .ref ta) (C := RJx4a65c) (T := TJx4a65c) (N := 3) hx hb hts wLin hown hK hP 0 rfl rfl 1 (by decide) (hts _ (wl1)) (fun _ h9 => h9) rfl dJx4a65c_elementData_915e3_1 ?_
  refine lv_iload_n hx hb dJx4a65c_elementData_915e3_4 rfl (lv_at hl 1 rfl) ?_
  refine va_aldq (D := gD G) hx hb (hO.K hB) hP 1 0 rfl rfl hi dJx4a65c_elementData_915e3_5 ?_
  rw [hf]
  exact W.aret (v := .ref a) hx hb hr (Or.inl ⟨_, rfl⟩) (Or.inr ⟨_, rfl⟩) (fun t ht hW => ⟨0, rfl, trivial, ht⟩) (fun q h => absurd h List.not_mem_nil) dJx4a65c_elementData_915e3_6
theorem a_chk (l : Launch) (G : gG) (Z : gM) (g : ClassId) (A : Nat → Prop) (i n : Int32) (h0 : ¬ i < 0) (h1 : i < n) : Met l yJ15_checkIndex_7cf53 (Cond.code yJ15_checkIndex_7cf53 cJ15_checkIndex_7cf53 2 (some .int) :: wL) { frames := 1, cells := 0, slots := 0, locals := 22 } (va_Pc [.int i, .int n] (aP G Z g A [])) (vp_Si (fun x : Int32 => x = i)) 0 0 (fun _ => False) := by
  refine Met.ofW (cc := cJ15_checkIndex_7cf53) (maxL := 2) (ret := (some .int)) (by decide) rfl ?_
  intro p e s m args below meth c s₁ B hml hv
  obtain ⟨rfl, hP, hB, hE, hO⟩ := hv
  have hx := B.exec
  have hb := B.bytes
  have hr := B.returns
  have hlocks := B.notSynchronized
  have hts0 := atoms_spec (ws := Cond.code yJ15_checkIndex_7cf53 cJ15_checkIndex_7cf53 2 (some .int) :: wL) B.pre
  have hts : ∀ w ∈ wL, w.before _ s = true := fun w h => hts0 w (List.mem_cons_of_mem _ h)
  have hown : s.vm.findClass RJ15 = some m.cls := findClass_of_methodNamed B.named
  have hK := hB.1
  have hl := lv_entry ([.int i, .int n]) (n := 2) (Nat.le_of_ble_eq_true rfl)
  rw [lg_entry_eq]
  generalize (lg_sl ([.int i, .int n]) ++ List.replicate (2 - (lg_sl ([.int i, .int n])).length) Slot.unset).toArray = ls at hl ⊢
  have hl : lv_has ls 2 [(0, .int i), (1, .int n)] := hl
  refine lv_iload_n hx hb dJ15_checkIndex_7cf53_0 rfl (lv_at hl 0 rfl) ?_
  refine lv_iload_n hx hb dJ15_checkIndex_7cf53_1 rfl (lv_at hl 1 rfl) ?_
  refine lv_null hx hb dJ15_checkIndex_7cf53_2 ?_
  refine vp_callSi (va_Run.run (jcallS (As := [.int i, .int n, .null]) (rest := []) ⟨hx, hb, hml, hown, hts⟩ hE va_S.rf (j_chk3N l Z A i n i (by unfold fj_chk3; rw [if_neg h0, if_pos h1])) (gdS (wl6) (wl7) (wl8) (fun w hw => ⟨wJL _ (jgood wj9 w hw).1, (jgood wj9 w hw).2⟩)) kSJ3_checkIndex_8e157 ⟨Nat.le_of_ble_eq_true rfl, Nat.le_of_ble_eq_true rfl⟩ rfl hl.1 rfl (Nat.le_of_ble_eq_true rfl) dJ15_checkIndex_7cf53_3 ⟨Nat.zero_le _, Nat.zero_le _⟩)) (fun x hx9 => ?_)
  rw [hx9]
  exact W.iret (v := i) hx hb hr (fun t ht hW => ⟨_, rfl, rfl, ht⟩) (fun q h => absurd h List.not_mem_nil) dJ15_checkIndex_7cf53_6
theorem a_get (l : Launch) (G : gG) (Z : gM) (g : ClassId) (A : Nat → Prop) (h0 ta cap a : Nat) (mc n i : Int32) (f : Nat → Option Nat) (h0i : ¬ i < 0) (h1i : i < n) (hi : vp_in i cap) (hf : f i.toNatClampNeg = some a) : Met l yJx4a65c_get_915e3 (Cond.code yJx4a65c_get_915e3 cJx4a65c_get_915e3 2 (some (.object "java/lang/Object")) :: wL) { frames := 2, cells := 0, slots := 0, locals := 43 } (va_Pc [.ref h0, .int i] (aP G Z g A [(h0, .inr (0, [.int mc, .ref ta, .int n])), (ta, .inl (g, cap, .inr (.inr (.inr (.inr f)))))])) (va_Sr (fun _ => True) (fun _ => .ref a)) 0 0 (fun _ => False) := by
  refine Met.ofW (cc := cJx4a65c_get_915e3) (maxL := 2) (ret := (some (.object "java/lang/Object"))) (by decide) rfl ?_
  intro p e s m args below meth c s₁ B hml hv
  obtain ⟨rfl, hP, hB, hE, hO⟩ := hv
  have hx := B.exec
  have hb := B.bytes
  have hr := B.returns
  have hlocks := B.notSynchronized
  have hts0 := atoms_spec (ws := Cond.code yJx4a65c_get_915e3 cJx4a65c_get_915e3 2 (some (.object "java/lang/Object")) :: wL) B.pre
  have hts : ∀ w ∈ wL, w.before _ s = true := fun w h => hts0 w (List.mem_cons_of_mem _ h)
  have hown : s.vm.findClass RJx4a65c = some m.cls := findClass_of_methodNamed B.named
  have hK := hB.1
  have hl := lv_entry ([.ref h0, .int i]) (n := 2) (Nat.le_of_ble_eq_true rfl)
  rw [lg_entry_eq]
  generalize (lg_sl ([.ref h0, .int i]) ++ List.replicate (2 - (lg_sl ([.ref h0, .int i])).length) Slot.unset).toArray = ls at hl ⊢
  have hl : lv_has ls 2 [(0, .ref h0), (1, .int i)] := hl
  refine lv_iload_n hx hb dJx4a65c_get_915e3_0 rfl (lv_at hl 1 rfl) ?_
  refine lv_aload_n hx hb dJx4a65c_get_915e3_1 rfl (lv_at hl 0 rfl) ?_
  refine va_get (D := gD G) (ci := 0) (v := .int n) (C := RJx4a65c) (T := TJx4a65c) (N := 3) hx hb hts wLin hown hK hP 0 rfl rfl 2 (by decide) (hts _ (wl0)) (fun _ h9 => h9) rfl dJx4a65c_get_915e3_2 ?_
  refine vp_callSi (va_Run.run (va_runS (As := [.int i, .int n]) (rest := []) ⟨hx, hb, hml, hown, hts⟩ (a_chk l G Z g A i n h0i h1i) (va_cwS 2 hts (gdS (wl2) (wl3) (wl4) (alL _ _ _ _ (wl5))) rfl rfl rfl kSJ15_checkIndex_7cf53 ⟨Nat.le_of_ble_eq_true rfl, Nat.le_of_ble_eq_true rfl⟩) ⟨aP.blind, fun U hU hW => ⟨rfl, (fun k q hk => by cases hk), hB.moved hW, by rw [hU]; exact hE.moved hW, hO.moved hW.alike⟩⟩ rfl rfl hl.1 rfl (lv_room (Nat.le_of_ble_eq_true rfl)) dJx4a65c_get_915e3_5 ⟨Nat.zero_le _, Nat.zero_le _⟩)) (fun x hx9 => ?_)
  refine lv_pop hx hb dJx4a65c_get_915e3_8 rfl ?_
  refine lv_aload_n hx hb dJx4a65c_get_915e3_9 rfl (lv_at hl 0 rfl) ?_
  refine lv_iload_n hx hb dJx4a65c_get_915e3_10 rfl (lv_at hl 1 rfl) ?_
  refine va_csr (va_Run.run (va_runV (As := [.int i]) (rest := []) (C := RJx4a65c) ⟨hx, hb, hml, hown, hts⟩ (a_elem l G Z g A h0 ta cap a mc n i f hi hf) (cwV 1 hts (gdV (wl9) (wl10) (wl11) (wl13) (alL _ _ _ _ (wl12))) rfl rfl rfl kVJx4a65c_elementData_915e3 ⟨Nat.le_of_ble_eq_true rfl, Nat.le_of_ble_eq_true rfl⟩) ⟨aP.blind, va_recv hB.1 hP (ci := 0) (q0 := 0) rfl rfl, fun U hU hW => ⟨rfl, by rw [hU]; exact hP, hB.moved hW, by rw [hU]; exact hE.moved hW, hO.moved hW.alike⟩⟩ rfl rfl hl.1 rfl (lv_room (Nat.le_of_ble_eq_true rfl)) dJx4a65c_get_915e3_11 ⟨Nat.zero_le _, Nat.zero_le _⟩)) (fun _ _ => ?_)
  exact W.aret (v := .ref a) hx hb hr (Or.inl ⟨_, rfl⟩) (Or.inr ⟨_, rfl⟩) (fun t ht hW => ⟨0, rfl, trivial, ht⟩) (fun q h => absurd h List.not_mem_nil) dJx4a65c_get_915e3_14

