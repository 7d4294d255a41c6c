theorem dJ7_copyOf_6403c_0 : decode cJ7_copyOf_6403c 0 = .ok (.aload_n 2, 1) := by decide +kernel
theorem dJ7_copyOf_6403c_1 : decode cJ7_copyOf_6403c 1 = .ok (.ldc 110, 2) := by decide +kernel
theorem dJ7_copyOf_6403c_3 : decode cJ7_copyOf_6403c 3 = .ok (.if_acmp .ne 10, 3) := by decide +kernel
theorem dJ7_copyOf_6403c_6 : decode cJ7_copyOf_6403c 6 = .ok (.iload_n 1, 1) := by decide +kernel
theorem dJ7_copyOf_6403c_7 : decode cJ7_copyOf_6403c 7 = .ok (.anewarray 2, 3) := by decide +kernel
theorem dJ7_copyOf_6403c_10 : decode cJ7_copyOf_6403c 10 = .ok (.goto 14, 3) := by decide +kernel
theorem dJ7_copyOf_6403c_24 : decode cJ7_copyOf_6403c 24 = .ok (.astore_n 3, 1) := by decide +kernel
theorem dJ7_copyOf_6403c_25 : decode cJ7_copyOf_6403c 25 = .ok (.aload_n 0, 1) := by decide +kernel
theorem dJ7_copyOf_6403c_26 : decode cJ7_copyOf_6403c 26 = .ok (.iconst 0, 1) := by decide +kernel
theorem dJ7_copyOf_6403c_27 : decode cJ7_copyOf_6403c 27 = .ok (.aload_n 3, 1) := by decide +kernel
theorem dJ7_copyOf_6403c_28 : decode cJ7_copyOf_6403c 28 = .ok (.iconst 0, 1) := by decide +kernel
theorem dJ7_copyOf_6403c_29 : decode cJ7_copyOf_6403c 29 = .ok (.aload_n 0, 1) := by decide +kernel
theorem dJ7_copyOf_6403c_30 : decode cJ7_copyOf_6403c 30 = .ok (.arraylength, 1) := by decide +kernel
theorem dJ7_copyOf_6403c_31 : decode cJ7_copyOf_6403c 31 = .ok (.iload_n 1, 1) := by decide +kernel
theorem dJ7_copyOf_6403c_32 : decode cJ7_copyOf_6403c 32 = .ok (.invokestatic 304, 3) := by decide +kernel
theorem dJ7_copyOf_6403c_35 : decode cJ7_copyOf_6403c 35 = .ok (.invokestatic 150, 3) := by decide +kernel
theorem dJ7_copyOf_6403c_38 : decode cJ7_copyOf_6403c 38 = .ok (.aload_n 3, 1) := by decide +kernel
theorem dJ7_copyOf_6403c_39 : decode cJ7_copyOf_6403c 39 = .ok (.areturn, 1) := by decide +kernel
theorem kSJ7_copyOf_6403c : yJ7_copyOf_6403c.cls ≠ "java/lang/invoke/MethodHandle" ∧ yJ7_copyOf_6403c.cls ≠ "java/lang/invoke/VarHandle" ∧ (parseMethodDescriptor yJ7_copyOf_6403c.desc).map (fun d => d.parameters.length) = some 3 := by decide +kernel
/-- the elements are laws that lie outside A -/
def eL (f : Nat → Option Nat) (n : Nat) (A : Nat → Prop) (U : State) (H : Heap) : Prop := ∀ i y : Nat, i < n → f i = some y → ¬ A y ∧ ∃ c : Cell, H[y]? = some c ∧ c.vm.isStatics = false ∧ U.vm.findClass RX4 = some c.cls
theorem eL.moved {f : Nat → Option Nat} {n : Nat} {A : Nat → Prop} {u U : State} {H : Heap} (hvm : u.vm.Alike U.vm) (h : eL f n A u H) : eL f n A U H := fun i y hi hy => by
  obtain ⟨h1, c, h2, h3, h4⟩ := h i y hi hy
  exact ⟨h1, c, h2, h3, by rw [hvm.findClass]; exact h4⟩
theorem ky_O {D : va_G} {cl : List vw_C} {g cA : ClassId} {C : String} {s : State} (h : va_K D cl ([(g, .object C)] ++ [(cA, .object C)]) s) : cA = g := by
  obtain ⟨_, _, _, _, _, h1⟩ := (h.2 1 (cA, .object C) rfl).2
  obtain ⟨_, _, _, _, _, h2⟩ := (h.2 0 (g, .object C) rfl).2
  exact Option.some.inj (h1.symm.trans h2)
/-- what a row over Object[] leans on beside its cells -/
def oE (g : ClassId) (mi : Nat) (f : Nat → Option Nat) (n : Nat) (A : Nat → Prop) (U : State) (H : Heap) : Prop := kO g U ∧ va_Mi "[Ljava/lang/Object;" mi U ∧ va_AO "java/lang/Object" U ∧ va_Nw (.castable RX4 "java/lang/Object") U ∧ va_Dc U ∧ eL f n A U H
theorem oE.moved {g : ClassId} {mi : Nat} {f : Nat → Option Nat} {n : Nat} {A : Nat → Prop} {s U : State} {H : Heap} (hW : s.WarmedH U.vm) (h : oE g mi f n A s H) : oE g mi f n A U H := ⟨h.1.moved hW.alike, h.2.1.moved hW.alike, h.2.2.1.moved hW.alike, va_Nw.warmC hW h.2.2.2.1, h.2.2.2.2.1.moved hW.alike, h.2.2.2.2.2.moved hW.alike⟩
theorem oE.calling {g : ClassId} {mi : Nat} {f : Nat → Option Nat} {n : Nat} {A : Nat → Prop} {U : State} (j : JFrame) (mk : MethodId) (a : Array Value) (h : oE g mi f n A U U.heap) : oE g mi f n A (U.calling j mk a) (U.calling j mk a).heap := h.moved (s := U) (U := U.calling j mk a) (State.WarmedH.refl U)
def oP (G : gG) (g : ClassId) (mi : Nat) (f : Nat → Option Nat) (n : Nat) (ws : va_W) (sz : Nat) (U : State) : Prop := U.heap.size = sz ∧ va_P (gD G) vwCl ws U.heap ∧ KB G U ∧ va_D (fun _ => True) ws ∧ oE g mi f n (va_A ws sz) U U.heap
theorem oP.blind {G : gG} {g : ClassId} {mi : Nat} {f : Nat → Option Nat} {n : Nat} {ws : va_W} {sz : Nat} {av : List Value} : FrameBlind (va_Pc av (oP G g mi f n ws sz)) := fun _ U j mk q => ⟨q.1, q.2.1, q.2.2.1, q.2.2.2.1.calling j mk _, q.2.2.2.2.1, q.2.2.2.2.2.calling j mk _⟩
def wo_a_copy3 : List Cond := [.classLink RJ7 110 "[Ljava/lang/Object;", .classLink RJ7 2 "java/lang/Object", .methodLink RJ7 304 Lib.Math.min.name, .static Lib.Math.min.name, .initialized RJ9, .code Lib.Math.min.name Lib.Math.min.code 2 (some .int), .methodLink RJ7 150 arraycopyName, .static arraycopyName, .native arraycopyName, .initialized RJ10]
def wq_a_copy3 : List Cond := .code yJ7_copyOf_6403c cJ7_copyOf_6403c 4 (some (.array (.object "java/lang/Object"))) :: (wo_a_copy3 ++ [])
theorem gd_a_copy3 : ∀ w ∈ wq_a_copy3, Gd w := List.forall_mem_cons.mpr ⟨Or.inl rfl, List.forall_mem_append.mpr ⟨gdl wo_a_copy3 (by decide +kernel), (fun _ h => absurd h List.not_mem_nil)⟩⟩
theorem in_a_copy3 : ∀ w ∈ wq_a_copy3, w ∈ lw_tbl := List.forall_mem_cons.mpr ⟨List.mem_of_getElem? (i := 931) (by decide +kernel), List.forall_mem_append.mpr ⟨inT wo_a_copy3 [932, 934, 935, 936, 157, 937, 938, 939, 940, 181] (by decide +kernel), (fun _ h => absurd h List.not_mem_nil)⟩⟩
set_option maxHeartbeats 4000000 in
theorem a_copy3 (l : Launch) (G : gG) (g : ClassId) (mi a0 n : Nat) (f : Nat → Option Nat) (k sz : Nat) (hn : n < k) (hk : k ≤ 16777216) : Met l yJ7_copyOf_6403c wq_a_copy3 { frames := 1, cells := 1, slots := k, locals := 40 } (va_Pc [.ref a0, .int (nI k), .ref mi] (oP G g mi f n [(a0, .inl (g, n, .inr (.inr (.inr (.inr f)))))] sz)) (va_Qr (fun _ : Unit => True) (fun (_ : Unit) (q : Nat) (t : State) => va_P (gD G) vwCl [(a0, .inl (g, n, .inr (.inr (.inr (.inr f))))), (q, .inl (g, k, .inr (.inr (.inr (.inr (va_cpy f (fun _ => none) 0 0 n))))))] t.heap ∧ va_D (va_A [(a0, .inl (g, n, .inr (.inr (.inr (.inr f)))))] sz) [(a0, .inl (g, n, .inr (.inr (.inr (.inr f))))), (q, .inl (g, k, .inr (.inr (.inr (.inr (va_cpy f (fun _ => none) 0 0 n))))))]) (va_A [(a0, .inl (g, n, .inr (.inr (.inr (.inr f)))))] sz)) 1 k (va_A [(a0, .inl (g, n, .inr (.inr (.inr (.inr f)))))] sz) := by
  refine Met.ofW (cc := cJ7_copyOf_6403c) (maxL := 4) (ret := (some (.array (.object "java/lang/Object")))) (by decide) rfl ?_
  intro p e s m args below meth c s₁ B hml hv
  obtain ⟨rfl, rfl, hP, hB, hD0, hO, hMi, hAO, hca, hDc, hEl⟩ := hv
  have hx := B.exec
  have hb := B.bytes
  have hr := B.returns
  have hlocks := B.notSynchronized
  have hts := atoms_spec (ws := wq_a_copy3) B.pre
  have hown : s.vm.findClass RJ7 = some m.cls := findClass_of_methodNamed B.named
  have hK := hO.K hB
  have hD := hD0.self (sz := s.heap.size)
  have hA : ∀ q : Nat, s.heap.size ≤ q → va_A [(a0, .inl (g, n, .inr (.inr (.inr (.inr f)))))] s.heap.size q := fun q h => Or.inr h
  generalize va_A [(a0, .inl (g, n, .inr (.inr (.inr (.inr f)))))] s.heap.size = A at hD hA hEl ⊢
  have hS : va_S A s.heap s.heap [] := va_S.rf
  have hl := lv_entry ([.ref a0, .int (nI k), .ref mi]) (n := 4) (Nat.le_of_ble_eq_true rfl)
  rw [lg_entry_eq]
  generalize (lg_sl ([.ref a0, .int (nI k), .ref mi]) ++ List.replicate (4 - (lg_sl ([.ref a0, .int (nI k), .ref mi])).length) Slot.unset).toArray = ls at hl ⊢
  have hl : lv_has ls 4 [(0, .ref a0), (1, .int (nI k)), (2, .ref mi)] := hl
  refine lv_aload_n hx hb dJ7_copyOf_6403c_0 rfl (lv_at hl 2 rfl) ?_
  refine va_ldcM hx hb hown (hts _ (List.mem_cons_of_mem _ (List.mem_append_left _ (List.mem_of_getElem? (i := 0) rfl)))) hMi dJ7_copyOf_6403c_1 ?_
  refine lv_acmp_ne (rx := some mi) (ry := some mi) (tgt := 13) hx hb dJ7_copyOf_6403c_3 (by decide) (fun c9 => absurd rfl c9) (fun _ => ?_)
  refine lv_iload_n hx hb dJ7_copyOf_6403c_6 rfl (lv_at hl 1 rfl) ?_
  refine va_newq (D := gD G) (C := "java/lang/Object") (N' := k) hx hb hown (hts _ (List.mem_cons_of_mem _ (List.mem_append_left _ (List.mem_of_getElem? (i := 1) rfl)))) hAO hK hP hD hS hA (nI_pos (by omega)) (nI_clamp (by omega)) (by omega) (Nat.le_of_ble_eq_true rfl) (by show 0 + k ≤ k; omega) dJ7_copyOf_6403c_7 (fun q cA H hK9 hP hD hS => ?_)
  have e9 : cA = g := ky_O hK9
  subst e9
  refine lv_goto (tgt := 24) hx hb dJ7_copyOf_6403c_10 (by decide) ?_
  refine lv_astore_n (lv' := [(3, .ref q), (0, .ref a0), (1, .int (nI k)), (2, .ref mi)]) hx hb dJ7_copyOf_6403c_24 rfl hl (by decide) rfl (fun ls hl => ?_)
  refine lv_aload_n hx hb dJ7_copyOf_6403c_25 rfl (lv_at hl 1 rfl) ?_
  refine lv_iconst (v := 0) hx hb dJ7_copyOf_6403c_26 (by decide) ?_
  refine lv_aload_n hx hb dJ7_copyOf_6403c_27 rfl (lv_at hl 0 rfl) ?_
  refine lv_iconst (v := 0) hx hb dJ7_copyOf_6403c_28 (by decide) ?_
  refine lv_aload_n hx hb dJ7_copyOf_6403c_29 rfl (lv_at hl 1 rfl) ?_
  refine va_alen (D := gD G) (v := nI n) hx hb hK hP 0 0 rfl rfl rfl dJ7_copyOf_6403c_30 ?_
  refine lv_iload_n hx hb dJ7_copyOf_6403c_31 rfl (lv_at hl 2 rfl) ?_
  refine va_mmin hx hb (hml.trans hl.1.symm) hown (hts _ (List.mem_cons_of_mem _ (List.mem_append_left _ (List.mem_of_getElem? (i := 2) rfl)))) (hts _ (List.mem_cons_of_mem _ (List.mem_append_left _ (List.mem_of_getElem? (i := 3) rfl)))) (hts _ (List.mem_cons_of_mem _ (List.mem_append_left _ (List.mem_of_getElem? (i := 4) rfl)))) (hts _ (List.mem_cons_of_mem _ (List.mem_append_left _ (List.mem_of_getElem? (i := 5) rfl)))) (Nat.le_of_ble_eq_true rfl) (Nat.le_of_ble_eq_true rfl) (Nat.le_of_ble_eq_true rfl) (by show 0 + k ≤ k; omega) dJ7_copyOf_6403c_32 ?_
  refine gx_ti (ngr_min hn (by omega)) ?_
  obtain ⟨z0, z1, f1, f2, f3⟩ := Cond.castable_spec (va_Nw.use (A := #[]) rfl hca)
  refine va_copyq (D := gD G) (C := RX4) hx hb (hml.trans hl.1.symm) hown (hts _ (List.mem_cons_of_mem _ (List.mem_append_left _ (List.mem_of_getElem? (i := 6) rfl)))) (hts _ (List.mem_cons_of_mem _ (List.mem_append_left _ (List.mem_of_getElem? (i := 8) rfl)))) (hts _ (List.mem_cons_of_mem _ (List.mem_append_left _ (List.mem_of_getElem? (i := 7) rfl)))) (hts _ (List.mem_cons_of_mem _ (List.mem_append_left _ (List.mem_of_getElem? (i := 9) rfl)))) hK hP hD hS 0 1 0 0 (a0 := a0) (f := f) (g := fun _ => none) (n0 := n) (n1 := k) rfl rfl rfl rfl (by decide) (by decide) (nI_pos (by omega)) (by rw [nI_clamp (by omega)]; show 0 + n ≤ n; omega) (by rw [nI_clamp (by omega)]; show 0 + n ≤ k; omega) (fun i hi y hy => ?_) (fun x y hx9 hy9 => ?_) (Nat.le_of_ble_eq_true rfl) (Nat.le_of_ble_eq_true rfl) dJ7_copyOf_6403c_35 (fun H locs hP hD hS => ?_)
  · rw [nI_clamp (by omega)] at hi
    have hy : f (0 + i) = some y := hy
    rw [Nat.zero_add] at hy
    obtain ⟨g1, cell, g2, g3, g4⟩ := hEl i y hi hy
    exact ⟨cell, (hS.2.1 y (Array.getElem?_eq_some_iff.mp g2).1 g1).trans g2, g3, g4⟩
  · cases hx9.symm.trans f2
    cases hy9.symm.trans f1
    exact f3
  rw [nI_clamp (show n < 2 ^ 31 by omega)] at hP hD
  refine lv_aload_n hx hb dJ7_copyOf_6403c_38 rfl (lv_at hl 0 rfl) ?_
  refine W.widen (k := 1) (n := k) (Nat.le_of_ble_eq_true rfl) (by show 0 + k ≤ k; omega) ?_
  exact W.aret (v := .ref q) hx hb hr (Or.inr ⟨_, rfl⟩) (Or.inr ⟨_, rfl⟩) (fun t ht hW => ⟨⟨(), q, rfl, trivial, by rw [ht]; exact hP, hD⟩, hS.F ht⟩) hS.2.2 dJ7_copyOf_6403c_39

