theorem dJx4a65c_set_bcc79_0 : decode cJx4a65c_set_bcc79 0 = .ok (.iload_n 1, 1) := by decide +kernel
theorem dJx4a65c_set_bcc79_1 : decode cJx4a65c_set_bcc79 1 = .ok (.aload_n 0, 1) := by decide +kernel
theorem dJx4a65c_set_bcc79_2 : decode cJx4a65c_set_bcc79 2 = .ok (.getfield 48, 3) := by decide +kernel
theorem dJx4a65c_set_bcc79_5 : decode cJx4a65c_set_bcc79 5 = .ok (.invokestatic 118, 3) := by decide +kernel
theorem dJx4a65c_set_bcc79_8 : decode cJx4a65c_set_bcc79 8 = .ok (.pop, 1) := by decide +kernel
theorem dJx4a65c_set_bcc79_9 : decode cJx4a65c_set_bcc79 9 = .ok (.aload_n 0, 1) := by decide +kernel
theorem dJx4a65c_set_bcc79_10 : decode cJx4a65c_set_bcc79 10 = .ok (.iload_n 1, 1) := by decide +kernel
theorem dJx4a65c_set_bcc79_11 : decode cJx4a65c_set_bcc79 11 = .ok (.invokevirtual 123, 3) := by decide +kernel
theorem dJx4a65c_set_bcc79_14 : decode cJx4a65c_set_bcc79 14 = .ok (.astore_n 3, 1) := by decide +kernel
theorem dJx4a65c_set_bcc79_15 : decode cJx4a65c_set_bcc79 15 = .ok (.aload_n 0, 1) := by decide +kernel
theorem dJx4a65c_set_bcc79_16 : decode cJx4a65c_set_bcc79 16 = .ok (.getfield 9, 3) := by decide +kernel
theorem dJx4a65c_set_bcc79_19 : decode cJx4a65c_set_bcc79 19 = .ok (.iload_n 1, 1) := by decide +kernel
theorem dJx4a65c_set_bcc79_20 : decode cJx4a65c_set_bcc79 20 = .ok (.aload_n 2, 1) := by decide +kernel
theorem dJx4a65c_set_bcc79_21 : decode cJx4a65c_set_bcc79 21 = .ok (.aastore, 1) := by decide +kernel
theorem dJx4a65c_set_bcc79_22 : decode cJx4a65c_set_bcc79 22 = .ok (.aload_n 3, 1) := by decide +kernel
theorem dJx4a65c_set_bcc79_23 : decode cJx4a65c_set_bcc79 23 = .ok (.areturn, 1) := by decide +kernel
theorem kSJx4a65c_set_bcc79 : yJx4a65c_set_bcc79.cls ≠ "java/lang/invoke/MethodHandle" ∧ yJx4a65c_set_bcc79.cls ≠ "java/lang/invoke/VarHandle" ∧ (parseMethodDescriptor yJx4a65c_set_bcc79.desc).map (fun d => d.parameters.length) = some 2 := by decide +kernel
theorem kVJx4a65c_set_bcc79 : yJx4a65c_set_bcc79.cls = RJx4a65c ∧ yJx4a65c_set_bcc79.cls ≠ "java/lang/invoke/MethodHandle" ∧ yJx4a65c_set_bcc79.cls ≠ "java/lang/invoke/VarHandle" ∧ (parseMethodDescriptor yJx4a65c_set_bcc79.desc).map (fun d => d.parameters.length) = some 2 := ⟨rfl, kSJx4a65c_set_bcc79⟩
def wSa : List Cond := [.instanceMethod yJx4a65c_set_bcc79, .selects RJx4a65c yJx4a65c_set_bcc79 yJx4a65c_set_bcc79, .code yJx4a65c_set_bcc79 cJx4a65c_set_bcc79 4 (some (.object "java/lang/Object"))]
def wS : List Cond := wSa ++ wL
theorem gd_wS : ∀ w ∈ wS, Gd w := List.forall_mem_append.mpr ⟨gdl wSa (by decide +kernel), gd_wL⟩
theorem in_wS : ∀ w ∈ wS, w ∈ lw_tbl := List.forall_mem_append.mpr ⟨inT wSa [872, 873, 874] (by decide +kernel), in_wL⟩
theorem wLS : ∀ w ∈ wL, w ∈ wS := fun _ h => List.mem_append_right _ h
theorem wst0 : Cond.instanceMethod yJx4a65c_set_bcc79 ∈ wS := List.mem_append_left _ (List.mem_of_getElem? (i := 0) rfl)
theorem wst1 : Cond.selects RJx4a65c yJx4a65c_set_bcc79 yJx4a65c_set_bcc79 ∈ wS := List.mem_append_left _ (List.mem_of_getElem? (i := 1) rfl)
theorem wst2 : Cond.code yJx4a65c_set_bcc79 cJx4a65c_set_bcc79 4 (some (.object "java/lang/Object")) ∈ wS := List.mem_append_left _ (List.mem_of_getElem? (i := 2) rfl)
def aPS (G : gG) (Z : gM) (g : ClassId) (ws : va_W) (sz : Nat) (U : State) : Prop := U.heap.size = sz ∧ va_P (gD G) vwCl ws U.heap ∧ KB G U ∧ va_D (fun _ => True) ws ∧ sE Z (va_A ws sz) U U.heap ∧ kO g U ∧ va_Nw (.castable RX4 "java/lang/Object") U
theorem aPS.blind {G : gG} {Z : gM} {g : ClassId} {ws : va_W} {sz : Nat} {av : List Value} : FrameBlind (va_Pc av (aPS G Z g ws sz)) := fun _ U f mk q => ⟨q.1, q.2.1, q.2.2.1, q.2.2.2.1.calling f mk _, q.2.2.2.2.1, q.2.2.2.2.2.1.calling f mk _, kO.moved (u := U) (Vm.Alike.refl U.vm) q.2.2.2.2.2.2.1, va_Nw.same (u := U) rfl rfl q.2.2.2.2.2.2.2⟩
set_option maxHeartbeats 1000000 in
theorem a_set (l : Launch) (G : gG) (Z : gM) (g : ClassId) (h0 ta cap a v : Nat) (vs : List Value) (mc n i : Int32) (f : Nat → Option Nat) (sz : Nat) (h0i : ¬ i < 0) (h1i : i < n) (hi : vp_in i cap) (hf : f i.toNatClampNeg = some a) : Met l yJx4a65c_set_bcc79 (Cond.code yJx4a65c_set_bcc79 cJx4a65c_set_bcc79 4 (some (.object "java/lang/Object")) :: wS) { frames := 2, cells := 0, slots := 0, locals := 43 } (va_Pc [.ref h0, .int i, .ref v] (aPS G Z g [(h0, .inr (0, [.int mc, .ref ta, .int n])), (ta, .inl (g, cap, .inr (.inr (.inr (.inr f))))), (v, .inr (5, vs))] sz)) (va_Qr (fun _ : Unit => True) (fun (_ : Unit) (a1 : Nat) (t : State) => a1 = a ∧ va_P (gD G) vwCl [(h0, .inr (0, [.int mc, .ref ta, .int n])), (ta, .inl (g, cap, .inr (.inr (.inr (.inr (va_up f i.toNatClampNeg (some v))))))), (v, .inr (5, vs))] t.heap ∧ va_D (va_A [(h0, .inr (0, [.int mc, .ref ta, .int n])), (ta, .inl (g, cap, .inr (.inr (.inr (.inr f))))), (v, .inr (5, vs))] sz) [(h0, .inr (0, [.int mc, .ref ta, .int n])), (ta, .inl (g, cap, .inr (.inr (.inr (.inr (va_up f i.toNatClampNeg (some v))))))), (v, .inr (5, vs))]) (va_A [(h0, .inr (0, [.int mc, .ref ta, .int n])), (ta, .inl (g, cap, .inr (.inr (.inr (.inr f))))), (v, .inr (5, vs))] sz)) 0 0 (va_A [(h0, .inr (0, [.int mc, .ref ta, .int n])), (ta, .inl (g, cap, .inr (.inr (.inr (.inr f))))), (v, .inr (5, vs))] sz) := by
  refine Met.ofW (cc := cJx4a65c_set_bcc79) (maxL := 4) (ret := (some (.object "java/lang/Object"))) (by decide) rfl ?_
  intro p e s m args below meth c s₁ B hml hv
  obtain ⟨rfl, rfl, hP, hB, hD0, hE, hO, hca⟩ := hv
  have hx := B.exec
  have hb := B.bytes
  have hr := B.returns
  have hlocks := B.notSynchronized
  have hts0 := atoms_spec (ws := Cond.code yJx4a65c_set_bcc79 cJx4a65c_set_bcc79 4 (some (.object "java/lang/Object")) :: wS) B.pre
  have htsS : ∀ w ∈ wS, w.before _ s = true := fun w h => hts0 w (List.mem_cons_of_mem _ h)
  have hts : ∀ w ∈ wL, w.before _ s = true := fun w h => htsS w (wLS w h)
  have hown : s.vm.findClass RJx4a65c = some m.cls := findClass_of_methodNamed B.named
  have hK := hB.1
  have hD := hD0.self (sz := s.heap.size)
  generalize va_A [(h0, .inr (0, [.int mc, .ref ta, .int n])), (ta, .inl (g, cap, .inr (.inr (.inr (.inr f))))), (v, .inr (5, vs))] s.heap.size = A at hD hE ⊢
  have hS : va_S A s.heap s.heap [] := va_S.rf
  have hl := lv_entry ([.ref h0, .int i, .ref v]) (n := 4) (Nat.le_of_ble_eq_true rfl)
  rw [lg_entry_eq]
  generalize (lg_sl ([.ref h0, .int i, .ref v]) ++ List.replicate (4 - (lg_sl ([.ref h0, .int i, .ref v])).length) Slot.unset).toArray = ls at hl ⊢
  have hl : lv_has ls 4 [(0, .ref h0), (1, .int i), (2, .ref v)] := hl
  have hP2 : va_P (gD G) vwCl [(h0, .inr (0, [.int mc, .ref ta, .int n])), (ta, .inl (g, cap, .inr (.inr (.inr (.inr f)))))] s.heap := fun k q hk => match k, hk with | 0, hk => hP 0 q hk | 1, hk => hP 1 q hk
  refine lv_iload_n hx hb dJx4a65c_set_bcc79_0 rfl (lv_at hl 1 rfl) ?_
  refine lv_aload_n hx hb dJx4a65c_set_bcc79_1 rfl (lv_at hl 0 rfl) ?_
  refine va_get (D := gD G) (ci := 0) (v := .int n) (C := RJx4a65c) (T := TJx4a65c) (N := 3) hx hb hts wLin hown hK hP 0 rfl rfl 2 (by decide) (hts _ (wl0)) (fun _ h9 => h9) rfl dJx4a65c_set_bcc79_2 ?_
  refine vp_callSi (va_Run.run (va_runS (As := [.int i, .int n]) (rest := []) ⟨hx, hb, hml, hown, hts⟩ (a_chk l G Z g A i n h0i h1i) (va_cwS 2 hts (gdS (wl2) (wl3) (wl4) (alL _ _ _ _ (wl5))) rfl rfl rfl kSJ15_checkIndex_7cf53 ⟨Nat.le_of_ble_eq_true rfl, Nat.le_of_ble_eq_true rfl⟩) ⟨aP.blind, fun U hU hW => ⟨rfl, (fun k q hk => by cases hk), hB.moved hW, by rw [hU]; exact hE.moved hW, hO.moved hW.alike⟩⟩ rfl rfl hl.1 rfl (lv_room (Nat.le_of_ble_eq_true rfl)) dJx4a65c_set_bcc79_5 ⟨Nat.zero_le _, Nat.zero_le _⟩)) (fun x hx9 => ?_)
  refine lv_pop hx hb dJx4a65c_set_bcc79_8 rfl ?_
  refine lv_aload_n hx hb dJx4a65c_set_bcc79_9 rfl (lv_at hl 0 rfl) ?_
  refine lv_iload_n hx hb dJx4a65c_set_bcc79_10 rfl (lv_at hl 1 rfl) ?_
  refine va_csr (va_Run.run (va_runV (As := [.int i]) (rest := []) (C := RJx4a65c) ⟨hx, hb, hml, hown, hts⟩ (a_elem l G Z g A h0 ta cap a mc n i f hi hf) (cwV 1 hts (gdV (wl9) (wl10) (wl11) (wl13) (alL _ _ _ _ (wl12))) rfl rfl rfl kVJx4a65c_elementData_915e3 ⟨Nat.le_of_ble_eq_true rfl, Nat.le_of_ble_eq_true rfl⟩) ⟨aP.blind, va_recv hB.1 hP2 (ci := 0) (q0 := 0) rfl rfl, fun U hU hW => ⟨rfl, by rw [hU]; exact hP2, hB.moved hW, by rw [hU]; exact hE.moved hW, hO.moved hW.alike⟩⟩ rfl rfl hl.1 rfl (lv_room (Nat.le_of_ble_eq_true rfl)) dJx4a65c_set_bcc79_11 ⟨Nat.zero_le _, Nat.zero_le _⟩)) (fun _ _ => ?_)
  refine lv_astore_n (lv' := [(3, .ref a), (0, .ref h0), (1, .int i), (2, .ref v)]) hx hb dJx4a65c_set_bcc79_14 rfl hl (by decide) rfl (fun ls hl => ?_)
  refine lv_aload_n hx hb dJx4a65c_set_bcc79_15 rfl (lv_at hl 1 rfl) ?_
  refine va_get (D := gD G) (ci := 0) (v := .ref ta) (C := RJx4a65c) (T := TJx4a65c) (N := 3) hx hb hts wLin hown hK hP 0 rfl rfl 1 (by decide) (hts _ (wl1)) (fun _ h9 => h9) rfl dJx4a65c_set_bcc79_16 ?_
  refine lv_iload_n hx hb dJx4a65c_set_bcc79_19 rfl (lv_at hl 2 rfl) ?_
  refine lv_aload_n hx hb dJx4a65c_set_bcc79_20 rfl (lv_at hl 3 rfl) ?_
  refine va_astqO (D := gD G) hx hb (hO.K hB) hP hD hS 1 0 2 5 rfl rfl hca rfl rfl hi dJx4a65c_set_bcc79_21 (fun H locs hP hD hS => ?_)
  refine lv_aload_n hx hb dJx4a65c_set_bcc79_22 rfl (lv_at hl 0 rfl) ?_
  exact W.aret (v := .ref a) hx hb hr (Or.inl ⟨_, rfl⟩) (Or.inr ⟨_, rfl⟩) (fun t ht hW => ⟨⟨(), _, rfl, trivial, rfl, by rw [ht]; exact hP, hD⟩, hS.F ht⟩) hS.2.2 dJx4a65c_set_bcc79_23

