def RE1 : String := "java/lang/Exception"
abbrev cE1_init : ByteArray := prog_21_method_5_code
def yE1_init : MethodName := ⟨RE1, "<init>", "(Ljava/lang/String;Ljava/lang/Throwable;ZZ)V"⟩
theorem dE1_init_0 : decode cE1_init 0 = .ok (.aload_n 0, 1) := by decide +kernel
theorem dE1_init_1 : decode cE1_init 1 = .ok (.aload_n 1, 1) := by decide +kernel
theorem dE1_init_2 : decode cE1_init 2 = .ok (.aload_n 2, 1) := by decide +kernel
theorem dE1_init_3 : decode cE1_init 3 = .ok (.iload_n 3, 1) := by decide +kernel
theorem dE1_init_4 : decode cE1_init 4 = .ok (.iload 4, 2) := by decide +kernel
theorem dE1_init_6 : decode cE1_init 6 = .ok (.invokespecial 16, 3) := by decide +kernel
theorem dE1_init_9 : decode cE1_init 9 = .ok (.return_, 1) := by decide +kernel
theorem kSE1_init : yE1_init.cls ≠ "java/lang/invoke/MethodHandle" ∧ yE1_init.cls ≠ "java/lang/invoke/VarHandle" ∧ (parseMethodDescriptor yE1_init.desc).map (fun d => d.parameters.length) = some 4 := by decide +kernel
def RE2 : String := "java/lang/Throwable"
abbrev cE2_init : ByteArray := prog_28_method_5_code
def yE2_init : MethodName := ⟨RE2, "<init>", "(Ljava/lang/String;Ljava/lang/Throwable;ZZ)V"⟩
theorem dE2_init_0 : decode cE2_init 0 = .ok (.aload_n 0, 1) := by decide +kernel
theorem dE2_init_1 : decode cE2_init 1 = .ok (.invokespecial 1, 3) := by decide +kernel
theorem dE2_init_4 : decode cE2_init 4 = .ok (.aload_n 0, 1) := by decide +kernel
theorem dE2_init_5 : decode cE2_init 5 = .ok (.aload_n 0, 1) := by decide +kernel
theorem dE2_init_6 : decode cE2_init 6 = .ok (.putfield 7, 3) := by decide +kernel
theorem dE2_init_9 : decode cE2_init 9 = .ok (.aload_n 0, 1) := by decide +kernel
theorem dE2_init_10 : decode cE2_init 10 = .ok (.getstatic 13, 3) := by decide +kernel
theorem dE2_init_13 : decode cE2_init 13 = .ok (.putfield 17, 3) := by decide +kernel
theorem dE2_init_16 : decode cE2_init 16 = .ok (.aload_n 0, 1) := by decide +kernel
theorem dE2_init_17 : decode cE2_init 17 = .ok (.getstatic 20, 3) := by decide +kernel
theorem dE2_init_20 : decode cE2_init 20 = .ok (.putfield 24, 3) := by decide +kernel
theorem dE2_init_23 : decode cE2_init 23 = .ok (.iload 4, 2) := by decide +kernel
theorem dE2_init_25 : decode cE2_init 25 = .ok (.ifCond .eq 11, 3) := by decide +kernel
theorem dE2_init_36 : decode cE2_init 36 = .ok (.aload_n 0, 1) := by decide +kernel
theorem dE2_init_37 : decode cE2_init 37 = .ok (.aconst_null, 1) := by decide +kernel
theorem dE2_init_38 : decode cE2_init 38 = .ok (.putfield 17, 3) := by decide +kernel
theorem dE2_init_41 : decode cE2_init 41 = .ok (.aload_n 0, 1) := by decide +kernel
theorem dE2_init_42 : decode cE2_init 42 = .ok (.aload_n 1, 1) := by decide +kernel
theorem dE2_init_43 : decode cE2_init 43 = .ok (.putfield 31, 3) := by decide +kernel
theorem dE2_init_46 : decode cE2_init 46 = .ok (.aload_n 0, 1) := by decide +kernel
theorem dE2_init_47 : decode cE2_init 47 = .ok (.aload_n 2, 1) := by decide +kernel
theorem dE2_init_48 : decode cE2_init 48 = .ok (.putfield 7, 3) := by decide +kernel
theorem dE2_init_51 : decode cE2_init 51 = .ok (.iload_n 3, 1) := by decide +kernel
theorem dE2_init_52 : decode cE2_init 52 = .ok (.ifCond .ne 8, 3) := by decide +kernel
theorem dE2_init_55 : decode cE2_init 55 = .ok (.aload_n 0, 1) := by decide +kernel
theorem dE2_init_56 : decode cE2_init 56 = .ok (.aconst_null, 1) := by decide +kernel
theorem dE2_init_57 : decode cE2_init 57 = .ok (.putfield 24, 3) := by decide +kernel
theorem dE2_init_60 : decode cE2_init 60 = .ok (.return_, 1) := by decide +kernel
theorem kSE2_init : yE2_init.cls ≠ "java/lang/invoke/MethodHandle" ∧ yE2_init.cls ≠ "java/lang/invoke/VarHandle" ∧ (parseMethodDescriptor yE2_init.desc).map (fun d => d.parameters.length) = some 4 := by decide +kernel
def wo_c_Throwable_init : List Cond := [.methodLink RE2 1 objectInit, .instanceMethod objectInit, .code objectInit ⟨#[0xb1]⟩ 1 none, .fieldLink RE2 7 "java/lang/Throwable" "cause" "Ljava/lang/Throwable;", .fieldLink RE2 13 "java/lang/Throwable" "UNASSIGNED_STACK" "[Ljava/lang/StackTraceElement;", .fieldLink RE2 17 "java/lang/Throwable" "stackTrace" "[Ljava/lang/StackTraceElement;", .fieldLink RE2 20 "java/lang/Throwable" "SUPPRESSED_SENTINEL" "Ljava/util/List;", .fieldLink RE2 24 "java/lang/Throwable" "suppressedExceptions" "Ljava/util/List;", .fieldLink RE2 31 "java/lang/Throwable" "detailMessage" "Ljava/lang/String;"]
def wq_c_Throwable_init : List Cond := .code yE2_init cE2_init 5 none :: (wo_c_Throwable_init ++ (wsX120 ++ []))
theorem gd_c_Throwable_init : ∀ w ∈ wq_c_Throwable_init, Gd w := List.forall_mem_cons.mpr ⟨Or.inl rfl, List.forall_mem_append.mpr ⟨gdl wo_c_Throwable_init (by decide +kernel), (List.forall_mem_append.mpr ⟨gd_wsX120, (fun _ h => absurd h List.not_mem_nil)⟩)⟩⟩
theorem in_c_Throwable_init : ∀ w ∈ wq_c_Throwable_init, w ∈ lw_tbl := List.forall_mem_cons.mpr ⟨List.mem_of_getElem? (i := 1598) (by decide +kernel), List.forall_mem_append.mpr ⟨inT wo_c_Throwable_init [1576, 189, 190, 1601, 1577, 1602, 1579, 1603, 1600] (by decide +kernel), (List.forall_mem_append.mpr ⟨in_wsX120, (fun _ h => absurd h List.not_mem_nil)⟩)⟩⟩
set_option maxHeartbeats 4000000 in
set_option maxRecDepth 100000 in
theorem c_Throwable_init (l : Launch) (G : gG) (Z : gS) (h0 : Nat) (sz : Nat) : Met l yE2_init wq_c_Throwable_init ({ frames := 1, cells := 0, slots := 0, locals := 12 }) (va_Pc [.ref h0, .null, .null, .int 0, .int 0] (eP G Z [(h0, .inr (13, [.null, .null, .null, .null, .null, .int 0]))] sz)) (va_Qv (fun _ : Unit => True) (fun (_ : Unit) (t : State) => va_P (gD G) vwCl [(h0, .inr (13, [.null, .null, .null, .null, .null, .int 0]))] t.heap ∧ va_D (va_A [(h0, .inr (13, [.null, .null, .null, .null, .null, .int 0]))] sz) [(h0, .inr (13, [.null, .null, .null, .null, .null, .int 0]))]) (va_A [(h0, .inr (13, [.null, .null, .null, .null, .null, .int 0]))] sz)) 0 0 (va_A [(h0, .inr (13, [.null, .null, .null, .null, .null, .int 0]))] sz) := by
  refine Met.ofW (cc := cE2_init) (maxL := 5) (ret := none) (by decide) rfl ?_
  intro p e s m args below meth c s₁ B hml hv
  obtain ⟨rfl, ⟨hsz, hP, hB, hD0⟩, hE⟩ := hv
  have hx := B.exec
  have hb := B.bytes
  have hr := B.returns
  have hts := atoms_spec (ws := wq_c_Throwable_init) B.pre
  have hown : s.vm.findClass RE2 = some m.cls := findClass_of_methodNamed B.named
  have hlocks := B.notSynchronized
  have hK := hB.1
  have hin : meth.name = "<init>" := (name_of_methodNamed B.named B.method).1
  subst hsz
  have hD := hD0.self (sz := s.heap.size)
  generalize hAe : va_A [(h0, .inr (13, [.null, .null, .null, .null, .null, .int 0]))] s.heap.size = A at hD hE ⊢
  have hA : ∀ q : Nat, s.heap.size ≤ q → A q := fun q h => by rw [← hAe]; exact Or.inr h
  have hS : va_S A s.heap s.heap [] := va_S.rf
  have hP : va_P (gD G) vwCl [(h0, .inr (13, [.null, .null, .null, .null, .null, .int 0]))] s.heap := hP
  have hD : va_D A [(h0, .inr (13, [.null, .null, .null, .null, .null, .int 0]))] := hD
  have hl := lv_entry ([.ref h0, .null, .null, .int 0, .int 0]) (n := 5) (Nat.le_of_ble_eq_true rfl)
  rw [lg_entry_eq]
  generalize (lg_sl ([.ref h0, .null, .null, .int 0, .int 0]) ++ List.replicate (5 - (lg_sl ([.ref h0, .null, .null, .int 0, .int 0])).length) Slot.unset).toArray = ls at hl ⊢
  have hl : lv_has ls 5 [(0, .ref h0), (1, .null), (2, .null), (3, .int 0), (4, .int 0)] := hl
  refine lv_aload_n hx hb dE2_init_0 rfl (lv_at hl 0 rfl) ?_
  refine W.objInit hx hb hown (hts (.methodLink RE2 1 objectInit) (List.mem_cons_of_mem _ (List.mem_append_left _ (List.mem_of_getElem? (i := 0) rfl)))) (hts (.instanceMethod objectInit) (List.mem_cons_of_mem _ (List.mem_append_left _ (List.mem_of_getElem? (i := 1) rfl)))) (hts _ (List.mem_cons_of_mem _ (List.mem_append_left _ (List.mem_of_getElem? (i := 2) rfl)))) rfl (by rw [hml]; exact hl.1) rfl dE2_init_1 (Nat.le_of_ble_eq_true rfl) (Nat.le_of_ble_eq_true rfl) ?_
  refine W.eq (g2 := F0 m 4 ls []) rfl ?_
  refine lv_aload_n hx hb dE2_init_4 rfl (lv_at hl 0 rfl) ?_
  refine lv_aload_n hx hb dE2_init_5 rfl (lv_at hl 0 rfl) ?_
  refine va_put (D := gD G) (ci := 13) (v := .ref h0) (ty := tyX12 0) (C := RX12) (T := TX12) (N := 6) hx hb hts (fun _ h9 => (List.mem_cons_of_mem _ (List.mem_append_right _ (List.mem_append_left _ h9)))) tyX12 tyX12_ok nmX12 hown hK hP hD hS 0 rfl rfl 0 (by decide) (hts (.fieldLink RE2 7 "java/lang/Throwable" "cause" "Ljava/lang/Throwable;") (List.mem_cons_of_mem _ (List.mem_append_left _ (List.mem_of_getElem? (i := 3) rfl)))) (fun _ h9 => h9) rfl (tyX12_ok 0 (by decide)) rfl rfl (Nat.le_of_ble_eq_true rfl) dE2_init_6 (fun H locs hP hD hS => ?_)
  have hP : va_P (gD G) vwCl [(h0, .inr (13, [.ref h0, .null, .null, .null, .null, .int 0]))] H := hP
  have hD : va_D A [(h0, .inr (13, [.ref h0, .null, .null, .null, .null, .int 0]))] := hD
  refine lv_aload_n hx hb dE2_init_9 rfl (lv_at hl 0 rfl) ?_
  refine va_gets hx hb hE.2.1 hS hown (hts (.fieldLink RE2 13 "java/lang/Throwable" "UNASSIGNED_STACK" "[Ljava/lang/StackTraceElement;") (List.mem_cons_of_mem _ (List.mem_append_left _ (List.mem_of_getElem? (i := 4) rfl)))) (fun _ h9 => h9) dE2_init_10 ?_
  refine va_put (D := gD G) (ci := 13) (v := Z.2.2.1) (ty := tyX12 1) (C := RX12) (T := TX12) (N := 6) hx hb hts (fun _ h9 => (List.mem_cons_of_mem _ (List.mem_append_right _ (List.mem_append_left _ h9)))) tyX12 tyX12_ok nmX12 hown hK hP hD hS 0 rfl rfl 1 (by decide) (hts (.fieldLink RE2 17 "java/lang/Throwable" "stackTrace" "[Ljava/lang/StackTraceElement;") (List.mem_cons_of_mem _ (List.mem_append_left _ (List.mem_of_getElem? (i := 5) rfl)))) (fun _ h9 => h9) rfl (tyX12_ok 1 (by decide)) (gx_nr rfl hE.2.2.2.2.2.1) (gx_fr rfl hE.2.2.2.2.2.1) (Nat.le_of_ble_eq_true rfl) dE2_init_13 (fun H locs hP hD hS => ?_)
  have hP : va_P (gD G) vwCl [(h0, .inr (13, [.ref h0, Z.2.2.1, .null, .null, .null, .int 0]))] H := hP
  have hD : va_D A [(h0, .inr (13, [.ref h0, Z.2.2.1, .null, .null, .null, .int 0]))] := hD
  refine lv_aload_n hx hb dE2_init_16 rfl (lv_at hl 0 rfl) ?_
  refine va_gets hx hb hE.2.2.1 hS hown (hts (.fieldLink RE2 20 "java/lang/Throwable" "SUPPRESSED_SENTINEL" "Ljava/util/List;") (List.mem_cons_of_mem _ (List.mem_append_left _ (List.mem_of_getElem? (i := 6) rfl)))) (fun _ h9 => h9) dE2_init_17 ?_
  refine va_put (D := gD G) (ci := 13) (v := Z.2.2.2.1) (ty := tyX12 2) (C := RX12) (T := TX12) (N := 6) hx hb hts (fun _ h9 => (List.mem_cons_of_mem _ (List.mem_append_right _ (List.mem_append_left _ h9)))) tyX12 tyX12_ok nmX12 hown hK hP hD hS 0 rfl rfl 2 (by decide) (hts (.fieldLink RE2 24 "java/lang/Throwable" "suppressedExceptions" "Ljava/util/List;") (List.mem_cons_of_mem _ (List.mem_append_left _ (List.mem_of_getElem? (i := 7) rfl)))) (fun _ h9 => h9) rfl (tyX12_ok 2 (by decide)) (gx_nr rfl hE.2.2.2.2.2.2) (gx_fr rfl hE.2.2.2.2.2.2) (Nat.le_of_ble_eq_true rfl) dE2_init_20 (fun H locs hP hD hS => ?_)
  have hP : va_P (gD G) vwCl [(h0, .inr (13, [.ref h0, Z.2.2.1, Z.2.2.2.1, .null, .null, .int 0]))] H := hP
  have hD : va_D A [(h0, .inr (13, [.ref h0, Z.2.2.1, Z.2.2.2.1, .null, .null, .int 0]))] := hD
  refine lv_iload hx hb dE2_init_23 (lv_at hl 4 rfl) ?_
  refine lv_if_eq (tgt := 36) hx hb dE2_init_25 (by decide) (fun _ => ?_) (fun c9 => absurd (by decide) c9)
  refine lv_aload_n hx hb dE2_init_36 rfl (lv_at hl 0 rfl) ?_
  refine lv_null hx hb dE2_init_37 ?_
  refine va_put (D := gD G) (ci := 13) (v := .null) (ty := tyX12 1) (C := RX12) (T := TX12) (N := 6) hx hb hts (fun _ h9 => (List.mem_cons_of_mem _ (List.mem_append_right _ (List.mem_append_left _ h9)))) tyX12 tyX12_ok nmX12 hown hK hP hD hS 0 rfl rfl 1 (by decide) (hts (.fieldLink RE2 17 "java/lang/Throwable" "stackTrace" "[Ljava/lang/StackTraceElement;") (List.mem_cons_of_mem _ (List.mem_append_left _ (List.mem_of_getElem? (i := 5) rfl)))) (fun _ h9 => h9) rfl (tyX12_ok 1 (by decide)) rfl rfl (Nat.le_of_ble_eq_true rfl) dE2_init_38 (fun H locs hP hD hS => ?_)
  have hP : va_P (gD G) vwCl [(h0, .inr (13, [.ref h0, .null, Z.2.2.2.1, .null, .null, .int 0]))] H := hP
  have hD : va_D A [(h0, .inr (13, [.ref h0, .null, Z.2.2.2.1, .null, .null, .int 0]))] := hD
  refine lv_aload_n hx hb dE2_init_41 rfl (lv_at hl 0 rfl) ?_
  refine lv_aload_nN hx hb dE2_init_42 rfl (lv_at hl 1 rfl) ?_
  refine va_put (D := gD G) (ci := 13) (v := .null) (ty := tyX12 3) (C := RX12) (T := TX12) (N := 6) hx hb hts (fun _ h9 => (List.mem_cons_of_mem _ (List.mem_append_right _ (List.mem_append_left _ h9)))) tyX12 tyX12_ok nmX12 hown hK hP hD hS 0 rfl rfl 3 (by decide) (hts (.fieldLink RE2 31 "java/lang/Throwable" "detailMessage" "Ljava/lang/String;") (List.mem_cons_of_mem _ (List.mem_append_left _ (List.mem_of_getElem? (i := 8) rfl)))) (fun _ h9 => h9) rfl (tyX12_ok 3 (by decide)) rfl rfl (Nat.le_of_ble_eq_true rfl) dE2_init_43 (fun H locs hP hD hS => ?_)
  have hP : va_P (gD G) vwCl [(h0, .inr (13, [.ref h0, .null, Z.2.2.2.1, .null, .null, .int 0]))] H := hP
  have hD : va_D A [(h0, .inr (13, [.ref h0, .null, Z.2.2.2.1, .null, .null, .int 0]))] := hD
  refine lv_aload_n hx hb dE2_init_46 rfl (lv_at hl 0 rfl) ?_
  refine lv_aload_nN hx hb dE2_init_47 rfl (lv_at hl 2 rfl) ?_
  refine va_put (D := gD G) (ci := 13) (v := .null) (ty := tyX12 0) (C := RX12) (T := TX12) (N := 6) hx hb hts (fun _ h9 => (List.mem_cons_of_mem _ (List.mem_append_right _ (List.mem_append_left _ h9)))) tyX12 tyX12_ok nmX12 hown hK hP hD hS 0 rfl rfl 0 (by decide) (hts (.fieldLink RE2 7 "java/lang/Throwable" "cause" "Ljava/lang/Throwable;") (List.mem_cons_of_mem _ (List.mem_append_left _ (List.mem_of_getElem? (i := 3) rfl)))) (fun _ h9 => h9) rfl (tyX12_ok 0 (by decide)) rfl rfl (Nat.le_of_ble_eq_true rfl) dE2_init_48 (fun H locs hP hD hS => ?_)
  have hP : va_P (gD G) vwCl [(h0, .inr (13, [.null, .null, Z.2.2.2.1, .null, .null, .int 0]))] H := hP
  have hD : va_D A [(h0, .inr (13, [.null, .null, Z.2.2.2.1, .null, .null, .int 0]))] := hD
  refine lv_iload_n hx hb dE2_init_51 rfl (lv_at hl 3 rfl) ?_
  refine lv_if_ne (tgt := 60) hx hb dE2_init_52 (by decide) (fun c9 => absurd (by decide) c9) (fun _ => ?_)
  refine lv_aload_n hx hb dE2_init_55 rfl (lv_at hl 0 rfl) ?_
  refine lv_null hx hb dE2_init_56 ?_
  refine va_put (D := gD G) (ci := 13) (v := .null) (ty := tyX12 2) (C := RX12) (T := TX12) (N := 6) hx hb hts (fun _ h9 => (List.mem_cons_of_mem _ (List.mem_append_right _ (List.mem_append_left _ h9)))) tyX12 tyX12_ok nmX12 hown hK hP hD hS 0 rfl rfl 2 (by decide) (hts (.fieldLink RE2 24 "java/lang/Throwable" "suppressedExceptions" "Ljava/util/List;") (List.mem_cons_of_mem _ (List.mem_append_left _ (List.mem_of_getElem? (i := 7) rfl)))) (fun _ h9 => h9) rfl (tyX12_ok 2 (by decide)) rfl rfl (Nat.le_of_ble_eq_true rfl) dE2_init_57 (fun H locs hP hD hS => ?_)
  have hP : va_P (gD G) vwCl [(h0, .inr (13, [.null, .null, .null, .null, .null, .int 0]))] H := hP
  have hD : va_D A [(h0, .inr (13, [.null, .null, .null, .null, .null, .int 0]))] := hD
  have hP9 := hP.sub (ws' := [(h0, .inr (13, [.null, .null, .null, .null, .null, .int 0]))]) [0] rfl
  have hD9 := hD.sub (ws' := [(h0, .inr (13, [.null, .null, .null, .null, .null, .int 0]))]) [0] (by decide) rfl
  exact W.vret hx hb hr (fun t ht hW => ⟨⟨(), rfl, trivial, by rw [ht]; exact hP9, hD9⟩, hS.F ht⟩) hS.2.2 dE2_init_60

def wo_c_Exception_init : List Cond := [.methodLink RE1 16 yE2_init, .instanceMethod yE2_init, .initialized RE2]
def wq_c_Exception_init : List Cond := .code yE1_init cE1_init 5 none :: (wo_c_Exception_init ++ (wq_c_Throwable_init ++ []))
theorem gd_c_Exception_init : ∀ w ∈ wq_c_Exception_init, Gd w := List.forall_mem_cons.mpr ⟨Or.inl rfl, List.forall_mem_append.mpr ⟨gdl wo_c_Exception_init (by decide +kernel), (List.forall_mem_append.mpr ⟨gd_c_Throwable_init, (fun _ h => absurd h List.not_mem_nil)⟩)⟩⟩
theorem in_c_Exception_init : ∀ w ∈ wq_c_Exception_init, w ∈ lw_tbl := List.forall_mem_cons.mpr ⟨List.mem_of_getElem? (i := 1595) (by decide +kernel), List.forall_mem_append.mpr ⟨inT wo_c_Exception_init [1596, 1597, 172] (by decide +kernel), (List.forall_mem_append.mpr ⟨in_c_Throwable_init, (fun _ h => absurd h List.not_mem_nil)⟩)⟩⟩
set_option maxHeartbeats 4000000 in
set_option maxRecDepth 100000 in
theorem c_Exception_init (l : Launch) (G : gG) (Z : gS) (h0 : Nat) (sz : Nat) : Met l yE1_init wq_c_Exception_init ({ frames := 2, cells := 0, slots := 0, locals := 36 }) (va_Pc [.ref h0, .null, .null, .int 0, .int 0] (eP G Z [(h0, .inr (13, [.null, .null, .null, .null, .null, .int 0]))] sz)) (va_Qv (fun _ : Unit => True) (fun (_ : Unit) (t : State) => va_P (gD G) vwCl [(h0, .inr (13, [.null, .null, .null, .null, .null, .int 0]))] t.heap ∧ va_D (va_A [(h0, .inr (13, [.null, .null, .null, .null, .null, .int 0]))] sz) [(h0, .inr (13, [.null, .null, .null, .null, .null, .int 0]))]) (va_A [(h0, .inr (13, [.null, .null, .null, .null, .null, .int 0]))] sz)) 0 0 (va_A [(h0, .inr (13, [.null, .null, .null, .null, .null, .int 0]))] sz) := by
  refine Met.ofW (cc := cE1_init) (maxL := 5) (ret := none) (by decide) rfl ?_
  intro p e s m args below meth c s₁ B hml hv
  obtain ⟨rfl, ⟨hsz, hP, hB, hD0⟩, hE⟩ := hv
  have hx := B.exec
  have hb := B.bytes
  have hr := B.returns
  have hts := atoms_spec (ws := wq_c_Exception_init) B.pre
  have hown : s.vm.findClass RE1 = some m.cls := findClass_of_methodNamed B.named
  have hlocks := B.notSynchronized
  have hK := hB.1
  have hin : meth.name = "<init>" := (name_of_methodNamed B.named B.method).1
  subst hsz
  have hD := hD0.self (sz := s.heap.size)
  generalize hAe : va_A [(h0, .inr (13, [.null, .null, .null, .null, .null, .int 0]))] s.heap.size = A at hD hE ⊢
  have hA : ∀ q : Nat, s.heap.size ≤ q → A q := fun q h => by rw [← hAe]; exact Or.inr h
  have hS : va_S A s.heap s.heap [] := va_S.rf
  have hP : va_P (gD G) vwCl [(h0, .inr (13, [.null, .null, .null, .null, .null, .int 0]))] s.heap := hP
  have hD : va_D A [(h0, .inr (13, [.null, .null, .null, .null, .null, .int 0]))] := hD
  have hl := lv_entry ([.ref h0, .null, .null, .int 0, .int 0]) (n := 5) (Nat.le_of_ble_eq_true rfl)
  rw [lg_entry_eq]
  generalize (lg_sl ([.ref h0, .null, .null, .int 0, .int 0]) ++ List.replicate (5 - (lg_sl ([.ref h0, .null, .null, .int 0, .int 0])).length) Slot.unset).toArray = ls at hl ⊢
  have hl : lv_has ls 5 [(0, .ref h0), (1, .null), (2, .null), (3, .int 0), (4, .int 0)] := hl
  refine lv_aload_n hx hb dE1_init_0 rfl (lv_at hl 0 rfl) ?_
  refine lv_aload_nN hx hb dE1_init_1 rfl (lv_at hl 1 rfl) ?_
  refine lv_aload_nN hx hb dE1_init_2 rfl (lv_at hl 2 rfl) ?_
  refine lv_iload_n hx hb dE1_init_3 rfl (lv_at hl 3 rfl) ?_
  refine lv_iload hx hb dE1_init_4 (lv_at hl 4 rfl) ?_
  have hPc := hP.sub (ws' := [(h0, .inr (13, [.null, .null, .null, .null, .null, .int 0]))]) [0] rfl
  have hDc := hD.sub (ws' := [(h0, .inr (13, [.null, .null, .null, .null, .null, .int 0]))]) [0] (by decide) rfl
  have hFc := va_free (wc := [(h0, .inr (13, [.null, .null, .null, .null, .null, .int 0]))]) hD hS hA [0] rfl
  refine va_callv (va_runI (As := [.null, .null, .int 0, .int 0]) (rest := []) ⟨hx, hb, hml, hown, hts⟩ (c_Throwable_init l G Z h0 s.heap.size) (cwI 4 hts (fun w9 h9 => ⟨(List.mem_cons_of_mem _ (List.mem_append_right _ (List.mem_append_left _ h9))), gd_c_Throwable_init w9 h9⟩) rfl rfl rfl (hts (.initialized RE2) (List.mem_cons_of_mem _ (List.mem_append_left _ (List.mem_of_getElem? (i := 2) rfl)))) (hts (.methodLink RE1 16 yE2_init) (List.mem_cons_of_mem _ (List.mem_append_left _ (List.mem_of_getElem? (i := 0) rfl)))) (hts (.instanceMethod yE2_init) (List.mem_cons_of_mem _ (List.mem_append_left _ (List.mem_of_getElem? (i := 1) rfl)))) rfl kSE2_init ⟨Nat.le_of_ble_eq_true rfl, Nat.le_of_ble_eq_true rfl⟩) (preS_e (As := [.ref h0, .null, .null, .int 0, .int 0]) hPc hB hDc ((hE.kept hS.2.1).narrow hFc)) rfl rfl hl.1 rfl (lv_room (Nat.le_of_ble_eq_true rfl)) dE1_init_6 ⟨Nat.le_of_ble_eq_true rfl, Nat.le_of_ble_eq_true rfl⟩) hS (fun q _ h => hFc q h) hFc (fun u t H1 locs ht hvm hw hB1 hz1 hk1 hS => ?_)
  obtain ⟨hP1, hD1⟩ := hB1
  rw [ht] at hP1
  obtain ⟨hP, hD⟩ := va_join (wr := []) (w1 := [(h0, .inr (13, [.null, .null, .null, .null, .null, .int 0]))]) hP hD [0] [] rfl rfl (by decide) (by decide) hk1 hFc hP1 hD1
  generalize H1 = H at hP hS ⊢
  have hP : va_P (gD G) vwCl [(h0, .inr (13, [.null, .null, .null, .null, .null, .int 0]))] H := hP
  have hD : va_D A [(h0, .inr (13, [.null, .null, .null, .null, .null, .int 0]))] := hD
  refine W.eq (g2 := F0 m 9 ls []) rfl ?_
  have hP9 := hP.sub (ws' := [(h0, .inr (13, [.null, .null, .null, .null, .null, .int 0]))]) [0] rfl
  have hD9 := hD.sub (ws' := [(h0, .inr (13, [.null, .null, .null, .null, .null, .int 0]))]) [0] (by decide) rfl
  exact W.vret hx hb hr (fun t ht hW => ⟨⟨(), rfl, trivial, by rw [ht]; exact hP9, hD9⟩, hS.F ht⟩) hS.2.2 dE1_init_9

def wo_c_Stop_init : List Cond := [.methodLink RX12 1 yE1_init, .instanceMethod yE1_init, .initialized RE1]
def wq_c_Stop_init : List Cond := .code yX12_init cX12_init 1 none :: (wo_c_Stop_init ++ (wq_c_Exception_init ++ []))
theorem gd_c_Stop_init : ∀ w ∈ wq_c_Stop_init, Gd w := List.forall_mem_cons.mpr ⟨Or.inl rfl, List.forall_mem_append.mpr ⟨gdl wo_c_Stop_init (by decide +kernel), (List.forall_mem_append.mpr ⟨gd_c_Exception_init, (fun _ h => absurd h List.not_mem_nil)⟩)⟩⟩
theorem in_c_Stop_init : ∀ w ∈ wq_c_Stop_init, w ∈ lw_tbl := List.forall_mem_cons.mpr ⟨List.mem_of_getElem? (i := 1592) (by decide +kernel), List.forall_mem_append.mpr ⟨inT wo_c_Stop_init [1593, 1594, 173] (by decide +kernel), (List.forall_mem_append.mpr ⟨in_c_Exception_init, (fun _ h => absurd h List.not_mem_nil)⟩)⟩⟩
set_option maxHeartbeats 4000000 in
set_option maxRecDepth 100000 in
theorem c_Stop_init (l : Launch) (G : gG) (Z : gS) (h0 : Nat) (sz : Nat) : Met l yX12_init wq_c_Stop_init ({ frames := 3, cells := 0, slots := 0, locals := 60 }) (va_Pc [.ref h0] (eP G Z [(h0, .inr (13, [.null, .null, .null, .null, .null, .int 0]))] sz)) (va_Qv (fun _ : Unit => True) (fun (_ : Unit) (t : State) => va_P (gD G) vwCl [(h0, .inr (13, [.null, .null, .null, .null, .null, .int 0]))] t.heap ∧ va_D (va_A [(h0, .inr (13, [.null, .null, .null, .null, .null, .int 0]))] sz) [(h0, .inr (13, [.null, .null, .null, .null, .null, .int 0]))]) (va_A [(h0, .inr (13, [.null, .null, .null, .null, .null, .int 0]))] sz)) 0 0 (va_A [(h0, .inr (13, [.null, .null, .null, .null, .null, .int 0]))] sz) := by
  refine Met.ofW (cc := cX12_init) (maxL := 1) (ret := none) (by decide) rfl ?_
  intro p e s m args below meth c s₁ B hml hv
  obtain ⟨rfl, ⟨hsz, hP, hB, hD0⟩, hE⟩ := hv
  have hx := B.exec
  have hb := B.bytes
  have hr := B.returns
  have hts := atoms_spec (ws := wq_c_Stop_init) B.pre
  have hown : s.vm.findClass RX12 = some m.cls := findClass_of_methodNamed B.named
  have hlocks := B.notSynchronized
  have hK := hB.1
  have hin : meth.name = "<init>" := (name_of_methodNamed B.named B.method).1
  subst hsz
  have hD := hD0.self (sz := s.heap.size)
  generalize hAe : va_A [(h0, .inr (13, [.null, .null, .null, .null, .null, .int 0]))] s.heap.size = A at hD hE ⊢
  have hA : ∀ q : Nat, s.heap.size ≤ q → A q := fun q h => by rw [← hAe]; exact Or.inr h
  have hS : va_S A s.heap s.heap [] := va_S.rf
  have hP : va_P (gD G) vwCl [(h0, .inr (13, [.null, .null, .null, .null, .null, .int 0]))] s.heap := hP
  have hD : va_D A [(h0, .inr (13, [.null, .null, .null, .null, .null, .int 0]))] := hD
  have hl := lv_entry ([.ref h0]) (n := 1) (Nat.le_of_ble_eq_true rfl)
  rw [lg_entry_eq]
  generalize (lg_sl ([.ref h0]) ++ List.replicate (1 - (lg_sl ([.ref h0])).length) Slot.unset).toArray = ls at hl ⊢
  have hl : lv_has ls 1 [(0, .ref h0)] := hl
  refine lv_aload_n hx hb dX12_init_0 rfl (lv_at hl 0 rfl) ?_
  refine lv_null hx hb dX12_init_1 ?_
  refine lv_null hx hb dX12_init_2 ?_
  refine lv_iconst (v := 0) hx hb dX12_init_3 (by decide) ?_
  refine lv_iconst (v := 0) hx hb dX12_init_4 (by decide) ?_
  have hPc := hP.sub (ws' := [(h0, .inr (13, [.null, .null, .null, .null, .null, .int 0]))]) [0] rfl
  have hDc := hD.sub (ws' := [(h0, .inr (13, [.null, .null, .null, .null, .null, .int 0]))]) [0] (by decide) rfl
  have hFc := va_free (wc := [(h0, .inr (13, [.null, .null, .null, .null, .null, .int 0]))]) hD hS hA [0] rfl
  refine va_callv (va_runI (As := [.null, .null, .int 0, .int 0]) (rest := []) ⟨hx, hb, hml, hown, hts⟩ (c_Exception_init l G Z h0 s.heap.size) (cwI 4 hts (fun w9 h9 => ⟨(List.mem_cons_of_mem _ (List.mem_append_right _ (List.mem_append_left _ h9))), gd_c_Exception_init w9 h9⟩) rfl rfl rfl (hts (.initialized RE1) (List.mem_cons_of_mem _ (List.mem_append_left _ (List.mem_of_getElem? (i := 2) rfl)))) (hts (.methodLink RX12 1 yE1_init) (List.mem_cons_of_mem _ (List.mem_append_left _ (List.mem_of_getElem? (i := 0) rfl)))) (hts (.instanceMethod yE1_init) (List.mem_cons_of_mem _ (List.mem_append_left _ (List.mem_of_getElem? (i := 1) rfl)))) rfl kSE1_init ⟨Nat.le_of_ble_eq_true rfl, Nat.le_of_ble_eq_true rfl⟩) (preS_e (As := [.ref h0, .null, .null, .int 0, .int 0]) hPc hB hDc ((hE.kept hS.2.1).narrow hFc)) rfl rfl hl.1 rfl (lv_room (Nat.le_of_ble_eq_true rfl)) dX12_init_5 ⟨Nat.le_of_ble_eq_true rfl, Nat.le_of_ble_eq_true rfl⟩) hS (fun q _ h => hFc q h) hFc (fun u t H1 locs ht hvm hw hB1 hz1 hk1 hS => ?_)
  obtain ⟨hP1, hD1⟩ := hB1
  rw [ht] at hP1
  obtain ⟨hP, hD⟩ := va_join (wr := []) (w1 := [(h0, .inr (13, [.null, .null, .null, .null, .null, .int 0]))]) hP hD [0] [] rfl rfl (by decide) (by decide) hk1 hFc hP1 hD1
  generalize H1 = H at hP hS ⊢
  have hP : va_P (gD G) vwCl [(h0, .inr (13, [.null, .null, .null, .null, .null, .int 0]))] H := hP
  have hD : va_D A [(h0, .inr (13, [.null, .null, .null, .null, .null, .int 0]))] := hD
  refine W.eq (g2 := F0 m 8 ls []) rfl ?_
  have hP9 := hP.sub (ws' := [(h0, .inr (13, [.null, .null, .null, .null, .null, .int 0]))]) [0] rfl
  have hD9 := hD.sub (ws' := [(h0, .inr (13, [.null, .null, .null, .null, .null, .int 0]))]) [0] (by decide) rfl
  exact W.vret hx hb hr (fun t ht hW => ⟨⟨(), rfl, trivial, by rw [ht]; exact hP9, hD9⟩, hS.F ht⟩) hS.2.2 dX12_init_8

