/-! statics: ArrayList's empty row, Throwable's two, Parser.HEAD -/
abbrev gS : Type := Nat × Nat × Value × Value × Unit
def hdF (j : Nat) : Value := match j with
  | 0 => .int 4 | 1 => .int 3 | 2 => .int 19 | 3 => .int 5 | 4 => .int 3 | _ => .int 19
def ST (Z : gS) (A : Nat → Prop) (U : State) (H : Heap) : Prop := va_Z "java/util/ArrayList" "DEFAULTCAPACITY_EMPTY_ELEMENTDATA" "[Ljava/lang/Object;" (.ref Z.1) A U H ∧ va_Z "java/lang/Throwable" "UNASSIGNED_STACK" "[Ljava/lang/StackTraceElement;" Z.2.2.1 A U H ∧ va_Z "java/lang/Throwable" "SUPPRESSED_SENTINEL" "Ljava/util/List;" Z.2.2.2.1 A U H ∧ va_Z "JudoHall$Parser" "HEAD" "[I" (.ref Z.2.1) A U H ∧ va_T .int Z.2.1 6 hdF A U H ∧ (Z.2.2.1 = .null ∨ ∃ a, Z.2.2.1 = .ref a) ∧ (Z.2.2.2.1 = .null ∨ ∃ a, Z.2.2.2.1 = .ref a)
theorem ST.moved {Z : gS} {A : Nat → Prop} {u U : State} {H : Heap} (hvm : u.vm.Alike U.vm) (h : ST Z A u H) : ST Z A U H := ⟨h.1.moved hvm, h.2.1.moved hvm, h.2.2.1.moved hvm, h.2.2.2.1.moved hvm, h.2.2.2.2.1.moved hvm, h.2.2.2.2.2⟩
theorem ST.kept {Z : gS} {A : Nat → Prop} {U : State} {H H1 : Heap} (h : ST Z A U H) (hq : ∀ a : Nat, a < H.size → ¬ A a → H1[a]? = H[a]?) : ST Z A U H1 := ⟨h.1.kept hq, h.2.1.kept hq, h.2.2.1.kept hq, h.2.2.2.1.kept hq, h.2.2.2.2.1.kept hq, h.2.2.2.2.2⟩
theorem ST.narrow {Z : gS} {A B : Nat → Prop} {U : State} {H : Heap} (h : ST Z A U H) (hAB : ∀ q, B q → A q) : ST Z B U H := ⟨h.1.narrow hAB, h.2.1.narrow hAB, h.2.2.1.narrow hAB, h.2.2.2.1.narrow hAB, h.2.2.2.2.1.narrow hAB, h.2.2.2.2.2⟩
def eP (G : gG) (Z : gS) (ws : va_W) (sz : Nat) (U : State) : Prop := mP G ws sz U ∧ ST Z (va_A ws sz) U U.heap
theorem eP.blind {G : gG} {Z : gS} {ws : va_W} {sz : Nat} {av : List Value} : FrameBlind (va_Pc av (eP G Z ws sz)) := fun _ U g mk q => ⟨q.1, ⟨q.2.1.1, q.2.1.2.1, q.2.1.2.2.1.calling g mk _, q.2.1.2.2.2⟩, ST.moved (u := U) (Vm.Alike.refl U.vm) q.2.2⟩
theorem preS_e {G : gG} {Z : gS} {s : State} {H : Heap} {As : List Value} {ws : va_W} {A : Nat → Prop} (hP : va_P (gD G) vwCl ws H) (hB : KB G s) (hD : va_D A ws) (hE : ST Z (va_A ws H.size) s H) : PreS s H (va_Pc As (eP G Z ws H.size)) As :=
  ⟨eP.blind, fun U hU hW => ⟨rfl, ⟨by rw [hU], by rw [hU]; exact hP, hB.moved hW, hD.weaken (fun _ _ _ _ => trivial)⟩, by rw [hU]; exact hE.moved hW.alike⟩⟩
theorem gx_nr {ty : FieldType} {v : Value} (_ : ty.isReference = true) (h : v = .null ∨ ∃ a, v = .ref a) : narrow ty v = v := by
  rcases h with rfl | ⟨a, rfl⟩ <;> cases ty <;> rfl
theorem gx_fr {ty : FieldType} {v : Value} (hty : ty.isReference = true) (h : v = .null ∨ ∃ a, v = .ref a) : fits ty v = true := by
  rcases h with rfl | ⟨a, rfl⟩ <;> cases ty <;> first | rfl | cases hty

def wo_c_ACol_init : List Cond := [.methodLink RJxa1e45 1 objectInit, .instanceMethod objectInit, .code objectInit ⟨#[0xb1]⟩ 1 none]
def wq_c_ACol_init : List Cond := .code yJxa1e45_init_da8c8 cJxa1e45_init_da8c8 1 none :: (wo_c_ACol_init ++ [])
theorem gd_c_ACol_init : ∀ w ∈ wq_c_ACol_init, Gd w := List.forall_mem_cons.mpr ⟨Or.inl rfl, List.forall_mem_append.mpr ⟨gdl wo_c_ACol_init (by decide +kernel), (fun _ h => absurd h List.not_mem_nil)⟩⟩
theorem in_c_ACol_init : ∀ w ∈ wq_c_ACol_init, w ∈ lw_tbl := List.forall_mem_cons.mpr ⟨List.mem_of_getElem? (i := 539) (by decide +kernel), List.forall_mem_append.mpr ⟨inT wo_c_ACol_init [540, 189, 190] (by decide +kernel), (fun _ h => absurd h List.not_mem_nil)⟩⟩
set_option maxHeartbeats 4000000 in
set_option maxRecDepth 100000 in
theorem c_ACol_init (l : Launch) (G : gG) (h0 : Nat) (sz : Nat) : Met l yJxa1e45_init_da8c8 wq_c_ACol_init ({ frames := 1, cells := 0, slots := 0, locals := 12 }) (va_Pc [.ref h0] (mP G [(h0, .inr (0, [.int 0, .null, .int 0]))] sz)) (va_Qv (fun _ : Unit => True) (fun (_ : Unit) (t : State) => va_P (gD G) vwCl [(h0, .inr (0, [.int 0, .null, .int 0]))] t.heap ∧ va_D (va_A [(h0, .inr (0, [.int 0, .null, .int 0]))] sz) [(h0, .inr (0, [.int 0, .null, .int 0]))]) (va_A [(h0, .inr (0, [.int 0, .null, .int 0]))] sz)) 0 0 (va_A [(h0, .inr (0, [.int 0, .null, .int 0]))] sz) := by
  refine Met.ofW (cc := cJxa1e45_init_da8c8) (maxL := 1) (ret := none) (by decide) rfl ?_
  intro p e s m args below meth c s₁ B hml hv
  obtain ⟨rfl, hsz, hP, hB, hD0⟩ := hv
  have hx := B.exec
  have hb := B.bytes
  have hr := B.returns
  have hts := atoms_spec (ws := wq_c_ACol_init) B.pre
  have hown : s.vm.findClass RJxa1e45 = some m.cls := findClass_of_methodNamed B.named
  have hlocks := B.notSynchronized
  have hK := hB.1
  have hin : meth.name = "<init>" := (name_of_methodNamed B.named B.method).1
  subst hsz
  have hD := hD0.self (sz := s.heap.size)
  generalize hAe : va_A [(h0, .inr (0, [.int 0, .null, .int 0]))] s.heap.size = A at hD ⊢
  have hA : ∀ q : Nat, s.heap.size ≤ q → A q := fun q h => by rw [← hAe]; exact Or.inr h
  have hS : va_S A s.heap s.heap [] := va_S.rf
  have hP : va_P (gD G) vwCl [(h0, .inr (0, [.int 0, .null, .int 0]))] s.heap := hP
  have hD : va_D A [(h0, .inr (0, [.int 0, .null, .int 0]))] := hD
  have hl := lv_entry ([.ref h0]) (n := 1) (Nat.le_of_ble_eq_true rfl)
  rw [lg_entry_eq]
  generalize (lg_sl ([.ref h0]) ++ List.replicate (1 - (lg_sl ([.ref h0])).length) Slot.unset).toArray = ls at hl ⊢
  have hl : lv_has ls 1 [(0, .ref h0)] := hl
  refine lv_aload_n hx hb dJxa1e45_init_da8c8_0 rfl (lv_at hl 0 rfl) ?_
  refine W.objInit hx hb hown (hts (.methodLink RJxa1e45 1 objectInit) (List.mem_cons_of_mem _ (List.mem_append_left _ (List.mem_of_getElem? (i := 0) rfl)))) (hts (.instanceMethod objectInit) (List.mem_cons_of_mem _ (List.mem_append_left _ (List.mem_of_getElem? (i := 1) rfl)))) (hts _ (List.mem_cons_of_mem _ (List.mem_append_left _ (List.mem_of_getElem? (i := 2) rfl)))) rfl (by rw [hml]; exact hl.1) rfl dJxa1e45_init_da8c8_1 (Nat.le_of_ble_eq_true rfl) (Nat.le_of_ble_eq_true rfl) ?_
  refine W.eq (g2 := F0 m 4 ls []) rfl ?_
  have hP9 := hP.sub (ws' := [(h0, .inr (0, [.int 0, .null, .int 0]))]) [0] rfl
  have hD9 := hD.sub (ws' := [(h0, .inr (0, [.int 0, .null, .int 0]))]) [0] (by decide) rfl
  exact W.vret hx hb hr (fun t ht hW => ⟨⟨(), rfl, trivial, by rw [ht]; exact hP9, hD9⟩, hS.F ht⟩) hS.2.2 dJxa1e45_init_da8c8_4

def wo_c_AList_init : List Cond := [.methodLink RJxc12de 1 yJxa1e45_init_da8c8, .instanceMethod yJxa1e45_init_da8c8, .initialized RJxa1e45, .fieldLink RJxc12de 7 "java/util/AbstractList" "modCount" "I"]
def wq_c_AList_init : List Cond := .code yJxc12de_init_da8c8 cJxc12de_init_da8c8 1 none :: (wo_c_AList_init ++ (wq_c_ACol_init ++ (wsJx4a65c0 ++ [])))
theorem gd_c_AList_init : ∀ w ∈ wq_c_AList_init, Gd w := List.forall_mem_cons.mpr ⟨Or.inl rfl, List.forall_mem_append.mpr ⟨gdl wo_c_AList_init (by decide +kernel), (List.forall_mem_append.mpr ⟨gd_c_ACol_init, (List.forall_mem_append.mpr ⟨gd_wsJx4a65c0, (fun _ h => absurd h List.not_mem_nil)⟩)⟩)⟩⟩
theorem in_c_AList_init : ∀ w ∈ wq_c_AList_init, w ∈ lw_tbl := List.forall_mem_cons.mpr ⟨List.mem_of_getElem? (i := 536) (by decide +kernel), List.forall_mem_append.mpr ⟨inT wo_c_AList_init [537, 538, 168, 545] (by decide +kernel), (List.forall_mem_append.mpr ⟨in_c_ACol_init, (List.forall_mem_append.mpr ⟨in_wsJx4a65c0, (fun _ h => absurd h List.not_mem_nil)⟩)⟩)⟩⟩
set_option maxHeartbeats 4000000 in
set_option maxRecDepth 100000 in
theorem c_AList_init (l : Launch) (G : gG) (h0 : Nat) (sz : Nat) : Met l yJxc12de_init_da8c8 wq_c_AList_init ({ frames := 2, cells := 0, slots := 0, locals := 32 }) (va_Pc [.ref h0] (mP G [(h0, .inr (0, [.int 0, .null, .int 0]))] sz)) (va_Qv (fun _ : Unit => True) (fun (_ : Unit) (t : State) => va_P (gD G) vwCl [(h0, .inr (0, [.int 0, .null, .int 0]))] t.heap ∧ va_D (va_A [(h0, .inr (0, [.int 0, .null, .int 0]))] sz) [(h0, .inr (0, [.int 0, .null, .int 0]))]) (va_A [(h0, .inr (0, [.int 0, .null, .int 0]))] sz)) 0 0 (va_A [(h0, .inr (0, [.int 0, .null, .int 0]))] sz) := by
  refine Met.ofW (cc := cJxc12de_init_da8c8) (maxL := 1) (ret := none) (by decide) rfl ?_
  intro p e s m args below meth c s₁ B hml hv
  obtain ⟨rfl, hsz, hP, hB, hD0⟩ := hv
  have hx := B.exec
  have hb := B.bytes
  have hr := B.returns
  have hts := atoms_spec (ws := wq_c_AList_init) B.pre
  have hown : s.vm.findClass RJxc12de = some m.cls := findClass_of_methodNamed B.named
  have hlocks := B.notSynchronized
  have hK := hB.1
  have hin : meth.name = "<init>" := (name_of_methodNamed B.named B.method).1
  subst hsz
  have hD := hD0.self (sz := s.heap.size)
  generalize hAe : va_A [(h0, .inr (0, [.int 0, .null, .int 0]))] s.heap.size = A at hD ⊢
  have hA : ∀ q : Nat, s.heap.size ≤ q → A q := fun q h => by rw [← hAe]; exact Or.inr h
  have hS : va_S A s.heap s.heap [] := va_S.rf
  have hP : va_P (gD G) vwCl [(h0, .inr (0, [.int 0, .null, .int 0]))] s.heap := hP
  have hD : va_D A [(h0, .inr (0, [.int 0, .null, .int 0]))] := hD
  have hl := lv_entry ([.ref h0]) (n := 1) (Nat.le_of_ble_eq_true rfl)
  rw [lg_entry_eq]
  generalize (lg_sl ([.ref h0]) ++ List.replicate (1 - (lg_sl ([.ref h0])).length) Slot.unset).toArray = ls at hl ⊢
  have hl : lv_has ls 1 [(0, .ref h0)] := hl
  refine lv_aload_n hx hb dJxc12de_init_da8c8_0 rfl (lv_at hl 0 rfl) ?_
  have hPc := hP.sub (ws' := [(h0, .inr (0, [.int 0, .null, .int 0]))]) [0] rfl
  have hDc := hD.sub (ws' := [(h0, .inr (0, [.int 0, .null, .int 0]))]) [0] (by decide) rfl
  have hFc := va_free (wc := [(h0, .inr (0, [.int 0, .null, .int 0]))]) hD hS hA [0] rfl
  refine va_callv (va_runI (As := []) (rest := []) ⟨hx, hb, hml, hown, hts⟩ (c_ACol_init l G h0 s.heap.size) (cwI 0 hts (fun w9 h9 => ⟨(List.mem_cons_of_mem _ (List.mem_append_right _ (List.mem_append_left _ h9))), gd_c_ACol_init w9 h9⟩) rfl rfl rfl (hts (.initialized RJxa1e45) (List.mem_cons_of_mem _ (List.mem_append_left _ (List.mem_of_getElem? (i := 2) rfl)))) (hts (.methodLink RJxc12de 1 yJxa1e45_init_da8c8) (List.mem_cons_of_mem _ (List.mem_append_left _ (List.mem_of_getElem? (i := 0) rfl)))) (hts (.instanceMethod yJxa1e45_init_da8c8) (List.mem_cons_of_mem _ (List.mem_append_left _ (List.mem_of_getElem? (i := 1) rfl)))) rfl kSJxa1e45_init_da8c8 ⟨Nat.le_of_ble_eq_true rfl, Nat.le_of_ble_eq_true rfl⟩) (preS_m (As := [.ref h0]) hPc hB hDc) rfl rfl hl.1 rfl (lv_room (Nat.le_of_ble_eq_true rfl)) dJxc12de_init_da8c8_1 ⟨Nat.le_of_ble_eq_true rfl, Nat.le_of_ble_eq_true rfl⟩) hS (fun q _ h => hFc q h) hFc (fun u t H1 locs ht hvm hw hB1 hz1 hk1 hS => ?_)
  obtain ⟨hP1, hD1⟩ := hB1
  rw [ht] at hP1
  obtain ⟨hP, hD⟩ := va_join (wr := []) (w1 := [(h0, .inr (0, [.int 0, .null, .int 0]))]) hP hD [0] [] rfl rfl (by decide) (by decide) hk1 hFc hP1 hD1
  generalize H1 = H at hP hS ⊢
  have hP : va_P (gD G) vwCl [(h0, .inr (0, [.int 0, .null, .int 0]))] H := hP
  have hD : va_D A [(h0, .inr (0, [.int 0, .null, .int 0]))] := hD
  refine W.eq (g2 := F0 m 4 ls []) rfl ?_
  refine lv_aload_n hx hb dJxc12de_init_da8c8_4 rfl (lv_at hl 0 rfl) ?_
  refine lv_iconst (v := 0) hx hb dJxc12de_init_da8c8_5 (by decide) ?_
  refine va_put (D := gD G) (ci := 0) (v := .int 0) (ty := tyJx4a65c 0) (C := RJx4a65c) (T := TJx4a65c) (N := 3) hx hb hts (fun _ h9 => (List.mem_cons_of_mem _ (List.mem_append_right _ (List.mem_append_right _ (List.mem_append_left _ h9))))) tyJx4a65c tyJx4a65c_ok nmJx4a65c hown hK hP hD hS 0 rfl rfl 0 (by decide) (hts (.fieldLink RJxc12de 7 "java/util/AbstractList" "modCount" "I") (List.mem_cons_of_mem _ (List.mem_append_left _ (List.mem_of_getElem? (i := 3) rfl)))) (fun _ h9 => h9) rfl (tyJx4a65c_ok 0 (by decide)) rfl rfl (Nat.le_of_ble_eq_true rfl) dJxc12de_init_da8c8_6 (fun H locs hP hD hS => ?_)
  have hP : va_P (gD G) vwCl [(h0, .inr (0, [.int 0, .null, .int 0]))] H := hP
  have hD : va_D A [(h0, .inr (0, [.int 0, .null, .int 0]))] := hD
  have hP9 := hP.sub (ws' := [(h0, .inr (0, [.int 0, .null, .int 0]))]) [0] rfl
  have hD9 := hD.sub (ws' := [(h0, .inr (0, [.int 0, .null, .int 0]))]) [0] (by decide) rfl
  exact W.vret hx hb hr (fun t ht hW => ⟨⟨(), rfl, trivial, by rw [ht]; exact hP9, hD9⟩, hS.F ht⟩) hS.2.2 dJxc12de_init_da8c8_9

