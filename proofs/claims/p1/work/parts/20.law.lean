theorem arrK {ty : FieldType} {args : Array Value} {s : State} (hty : ty = .int ∨ ty = .byte ∨ ty = .boolean) (h : (Cond.arrayClass ty).before args s = true) : ∃ cA : ClassId, ArrOfT s cA ty ∧ va_RA s cA ty := by
  obtain ⟨cA, kA, comp, h1, h2, h3⟩ := Cond.arrayClass_spec h
  refine ⟨cA, fun n z => ⟨fun k h => (by cases h), kA, h2, comp, h3⟩, ?_⟩
  rcases hty with rfl | rfl | rfl <;> exact h1
theorem gx_c25 {w : Int32} (h0 : ¬ w < 0) (h1 : ¬ (25 : Int32) ≤ w) : w = 0 ∨ w = 1 ∨ w = 2 ∨ w = 3 ∨ w = 4 ∨ w = 5 ∨ w = 6 ∨ w = 7 ∨ w = 8 ∨ w = 9 ∨ w = 10 ∨ w = 11 ∨ w = 12 ∨ w = 13 ∨ w = 14 ∨ w = 15 ∨ w = 16 ∨ w = 17 ∨ w = 18 ∨ w = 19 ∨ w = 20 ∨ w = 21 ∨ w = 22 ∨ w = 23 ∨ w = 24 := by
  obtain ⟨j, hj, rfl⟩ := nI_of h0
  have h2 : j < 25 := Nat.not_le.mp (fun h => h1 (nI_le h hj))
  rcases (show j = 0 ∨ j = 1 ∨ j = 2 ∨ j = 3 ∨ j = 4 ∨ j = 5 ∨ j = 6 ∨ j = 7 ∨ j = 8 ∨ j = 9 ∨ j = 10 ∨ j = 11 ∨ j = 12 ∨ j = 13 ∨ j = 14 ∨ j = 15 ∨ j = 16 ∨ j = 17 ∨ j = 18 ∨ j = 19 ∨ j = 20 ∨ j = 21 ∨ j = 22 ∨ j = 23 ∨ j = 24 by omega) with rfl | rfl | rfl | rfl | rfl | rfl | rfl | rfl | rfl | rfl | rfl | rfl | rfl | rfl | rfl | rfl | rfl | rfl | rfl | rfl | rfl | rfl | rfl | rfl | rfl <;> decide
def R_law : String := "JudoHallLaw"
def lw_P (b : Addr) (xs : List Int32) (args : Array Value) (s : State) : Prop := args = #[.ref b] ∧ s.IntsAt b xs ∧ xs.length ≤ 6 ∧ (Jvm.Cond.and given_1 narrow_1).before args s = true
def lw_Q (_ : Array Value) (s : State) (o : Outcome) (t : State) : Prop := o = .returned (some (.int 1)) ∧ Framed s o t [] 600002 7302232
def lw_Z (below : List Frame) (a : Array Value) (s : State) : State → Prop := fun t => ∃ o, t.status = .running ∧ Ended t below o ∧ lw_Q a s o t
/-- the law's own end, with 1 on the stack, nothing written that was there before, its room as the claim has it -/
theorem lw_ret {p : Program} {l : Launch} {e : Env} {s : State} {m : MethodId} {below : List Frame} {meth : Method} {c : Code} {b : Nat} (hx : p.tables.exec = Jvm.exec) (hb : c.code = code) (hr : meth.sig.returnType = ret) (hlocks : meth.locks = false) {pc : Nat} {H : Heap} {ls : Array Slot} (hdg : decode code pc = .ok (.ireturn, 1)) : W p l e room_1 s m #[Value.ref b] below meth c H [] 600002 7302232 (lw_Z below #[Value.ref b] s) (F0 m pc ls [.int 1]) := by
  intro T hT X
  obtain ⟨fs, hret, hrun, hended, hW, hframe⟩ := X.leave (v := some (.int 1)) (hlocks := hlocks) (fun h => by rw [hr] at h; cases h)
  have hmeth' : T.vm.method? m = some meth := X.method'
  refine ⟨T.setFrames fs, ?_, .returned (some (.int 1)), hrun, hended, rfl, ⟨_, rfl⟩, hW, hframe⟩
  jvm_step X.here [X.here.top, hx, hb, hdg, hmeth', hr, ret, narrow_b1]
  (try refine ⟨rfl, ?_⟩); (try refine ⟨rfl, ?_⟩)
  first | (intro acts; rw [hret _ acts rfl rfl rfl]) | rw [hret _ _ rfl rfl rfl]
  exact Steps.refl _
/-- what holds at the law's entry: the machine, the code, the tables' words (any of lw_tbl by 'hts w (by decide +kernel)'), the script of L ints xs at the cell b, what the Statement gives of the start (any of its parts by flat_of_before) -/
def lw_At (p : Program) (s : State) (m : MethodId) (meth : Method) (c : Code) (b L : Nat) (xs : Nat → Int32) : Prop :=
  p.tables.exec = Jvm.exec ∧ c.code = code ∧ meth.sig.returnType = ret ∧ c.maxLocals = 4 ∧ s.vm.findClass R_law = some m.cls ∧ (∀ w ∈ lw_tbl, w.before #[Value.ref b] s = true) ∧ va_X b L xs s s.heap ∧ b < s.heap.size ∧ meth.locks = false ∧ (Jvm.Cond.and given_1 narrow_1).before #[Value.ref b] s = true
set_option maxHeartbeats 4000000 in
set_option maxRecDepth 100000 in
theorem whole_start {p : Program} {e : Env} {s : State} {m : MethodId} {below : List Frame} {meth : Method} {c : Code} (l : Launch) {b L : Nat} {xs : Nat → Int32} (hL : L ≤ 6) (C0 : lw_At p s m meth c b L xs) : W p l e room_1 s m #[Value.ref b] below meth c s.heap [] 0 0 (lw_Z below #[Value.ref b] s) (entryFrame m ([Value.ref b] : List Value).toArray 4) := by
  obtain ⟨hx, hb, hr, hml, hown, hts, hX, hbl, hlocks, hgv⟩ := id C0
  have hown : s.vm.findClass RL = some m.cls := hown
  have hb : c.code = cL_law := hb
  obtain ⟨c0, iS0, hKn0⟩ := u_known (C := RJx4a65c) (T := TJx4a65c) (N := 3) (n := 3) hts in_wsJx4a65c0 (hts (.instantiable RJx4a65c 3) (List.mem_of_getElem? (i := 530) (by decide +kernel)))
  obtain ⟨c1, iS1, hKn1⟩ := u_known (C := RX0) (T := TX0) (N := 6) (n := 6) hts in_wsX00 (hts (.instantiable RX0 6) (List.mem_of_getElem? (i := 408) (by decide +kernel)))
  obtain ⟨c2, iS2, hKn2⟩ := u_known (C := RX1) (T := TX1) (N := 6) (n := 6) hts in_wsX10 (hts (.instantiable RX1 6) (List.mem_of_getElem? (i := 192) (by decide +kernel)))
  obtain ⟨c3, iS3, hKn3⟩ := u_known (C := RX2) (T := TX2) (N := 3) (n := 3) hts in_wsX20 (hts (.instantiable RX2 3) (List.mem_of_getElem? (i := 390) (by decide +kernel)))
  obtain ⟨c4, iS4, hKn4⟩ := u_known (C := RX3) (T := TX3) (N := 4) (n := 4) hts in_wsX30 (hts (.instantiable RX3 4) (List.mem_of_getElem? (i := 435) (by decide +kernel)))
  obtain ⟨c5, iS5, hKn5⟩ := u_known (C := RX4) (T := TX4) (N := 9) (n := 9) hts in_wsX40 (hts (.instantiable RX4 9) (List.mem_of_getElem? (i := 285) (by decide +kernel)))
  obtain ⟨c6, iS6, hKn6⟩ := u_known (C := RX5) (T := TX5) (N := 14) (n := 14) hts in_wsX50 (hts (.instantiable RX5 14) (List.mem_of_getElem? (i := 277) (by decide +kernel)))
  obtain ⟨c7, iS7, hKn7⟩ := u_known (C := RX6) (T := TX6) (N := 14) (n := 14) hts in_wsX60 (hts (.instantiable RX6 14) (List.mem_of_getElem? (i := 477) (by decide +kernel)))
  obtain ⟨c8, iS8, hKn8⟩ := u_known (C := RX7) (T := TX7) (N := 4) (n := 4) hts in_wsX70 (hts (.instantiable RX7 4) (List.mem_of_getElem? (i := 456) (by decide +kernel)))
  obtain ⟨c9, iS9, hKn9⟩ := u_known (C := RX8) (T := TX8) (N := 1) (n := 1) hts in_wsX80 (hts (.instantiable RX8 1) (List.mem_of_getElem? (i := 380) (by decide +kernel)))
  obtain ⟨c10, iS10, hKn10⟩ := u_known (C := RX9) (T := TX9) (N := 1) (n := 1) hts in_wsX90 (hts (.instantiable RX9 1) (List.mem_of_getElem? (i := 198) (by decide +kernel)))
  obtain ⟨c11, iS11, hKn11⟩ := u_known (C := RX10) (T := TX10) (N := 6) (n := 6) hts in_wsX100 (hts (.instantiable RX10 6) (List.mem_of_getElem? (i := 246) (by decide +kernel)))
  obtain ⟨c12, iS12, hKn12⟩ := u_known (C := RX11) (T := TX11) (N := 11) (n := 11) hts in_wsX110 (hts (.instantiable RX11 11) (List.mem_of_getElem? (i := 184) (by decide +kernel)))
  obtain ⟨c13, iS13, hKn13⟩ := u_known (C := RX12) (T := TX12) (N := 6) (n := 6) hts in_wsX120 (hts (.instantiable RX12 6) (List.mem_of_getElem? (i := 1554) (by decide +kernel)))
  obtain ⟨c14, iS14, hKn14⟩ := u_known (C := RX13) (T := TX13) (N := 72) (n := 72) hts in_wsX130 (hts (.instantiable RX13 72) (List.mem_of_getElem? (i := 1548) (by decide +kernel)))
  obtain ⟨cyI, hAI, hNI⟩ := arrK (ty := .int) (Or.inl rfl) (hts (.arrayClass .int) (List.mem_of_getElem? (i := 213) (by decide +kernel)))
  obtain ⟨cyB, hAB, hNB⟩ := arrK (ty := .byte) (Or.inr (Or.inl rfl)) (hts (.arrayClass .byte) (List.mem_of_getElem? (i := 970) (by decide +kernel)))
  obtain ⟨cyZ, hAZ, hNZ⟩ := arrK (ty := .boolean) (Or.inr (Or.inr rfl)) (hts (.arrayClass .boolean) (List.mem_of_getElem? (i := 1612) (by decide +kernel)))
  obtain ⟨G, hK⟩ : ∃ G : gG, va_K (gD G) vwCl (gT G) s := by
    refine ⟨(fun k => match k with | 0 => c0 | 1 => c1 | 2 => c2 | 3 => c3 | 4 => c4 | 5 => c5 | 6 => c6 | 7 => c7 | 8 => c8 | 9 => c9 | 10 => c10 | 11 => c11 | 12 => c12 | 13 => c13 | _ => c14, fun k => match k with | 0 => iS0 | 1 => iS1 | 2 => iS2 | 3 => iS3 | 4 => iS4 | 5 => iS5 | 6 => iS6 | 7 => iS7 | 8 => iS8 | 9 => iS9 | 10 => iS10 | 11 => iS11 | 12 => iS12 | 13 => iS13 | _ => iS14, cyI, cyB, cyZ), ?_, ?_⟩
    · intro k q hq
      match k, hq with
      | 0, hq => cases hq; exact hKn0
      | 1, hq => cases hq; exact hKn1
      | 2, hq => cases hq; exact hKn2
      | 3, hq => cases hq; exact hKn3
      | 4, hq => cases hq; exact hKn4
      | 5, hq => cases hq; exact hKn5
      | 6, hq => cases hq; exact hKn6
      | 7, hq => cases hq; exact hKn7
      | 8, hq => cases hq; exact hKn8
      | 9, hq => cases hq; exact hKn9
      | 10, hq => cases hq; exact hKn10
      | 11, hq => cases hq; exact hKn11
      | 12, hq => cases hq; exact hKn12
      | 13, hq => cases hq; exact hKn13
      | 14, hq => cases hq; exact hKn14
      | k + 15, hq => cases hq
    · intro k q hq
      match k, hq with
      | 0, hq => cases hq; exact ⟨hAI, hNI⟩
      | 1, hq => cases hq; exact ⟨hAB, hNB⟩
      | 2, hq => cases hq; exact ⟨hAZ, hNZ⟩
      | k + 3, hq => cases hq
  have hKN : KN s := ⟨(List.forall_mem_cons.mpr ⟨va_Nw.of rfl (hts (.fieldLinkNest "JudoHall" 92 "JudoHall$Tape" "length" "I" "JudoHall") (List.mem_of_getElem? (i := 254) (by decide +kernel))), (List.forall_mem_cons.mpr ⟨va_Nw.of rfl (hts (.fieldLinkNest "JudoHall" 125 "JudoHall$Laws" "lines" "I" "JudoHall") (List.mem_of_getElem? (i := 302) (by decide +kernel))), (List.forall_mem_cons.mpr ⟨va_Nw.of rfl (hts (.fieldLinkNest "JudoHall" 128 "JudoHall$Parser" "fault" "I" "JudoHall") (List.mem_of_getElem? (i := 345) (by decide +kernel))), (List.forall_mem_cons.mpr ⟨va_Nw.of rfl (hts (.fieldLinkNest "JudoHall" 131 "JudoHall$Parser" "place" "I" "JudoHall") (List.mem_of_getElem? (i := 343) (by decide +kernel))), (List.forall_mem_cons.mpr ⟨va_Nw.of rfl (hts (.fieldLinkNest "JudoHall" 249 "JudoHall$Laws" "time" "I" "JudoHall") (List.mem_of_getElem? (i := 294) (by decide +kernel))), (List.forall_mem_cons.mpr ⟨va_Nw.of rfl (hts (.fieldLinkNest "JudoHall" 263 "JudoHall$Laws" "signs" "I" "JudoHall") (List.mem_of_getElem? (i := 300) (by decide +kernel))), (List.forall_mem_cons.mpr ⟨va_Nw.of rfl (hts (.fieldLinkNest "JudoHall" 314 "JudoHall$Book" "entries" "I" "JudoHall") (List.mem_of_getElem? (i := 231) (by decide +kernel))), (List.forall_mem_cons.mpr ⟨va_Nw.of rfl (hts (.fieldLinkNest "JudoHall" 320 "JudoHall$Laws" "parts" "I" "JudoHall") (List.mem_of_getElem? (i := 307) (by decide +kernel))), (List.forall_mem_cons.mpr ⟨va_Nw.of rfl (hts (.fieldLinkNest "JudoHall$Floor" 68 "JudoHall$Laws" "golden" "I" "JudoHall") (List.mem_of_getElem? (i := 297) (by decide +kernel))), (List.forall_mem_cons.mpr ⟨va_Nw.of rfl (hts (.fieldLinkNest "JudoHall$Floor" 80 "JudoHall$Laws" "lines" "I" "JudoHall") (List.mem_of_getElem? (i := 304) (by decide +kernel))), (List.forall_mem_cons.mpr ⟨va_Nw.of rfl (hts (.fieldLinkNest "JudoHall$Floor" 87 "JudoHall$Laws" "points" "LJudoHall$Row;" "JudoHall") (List.mem_of_getElem? (i := 314) (by decide +kernel))), (List.forall_mem_cons.mpr ⟨va_Nw.of rfl (hts (.fieldLinkNest "JudoHall$Floor" 103 "JudoHall$Laws" "ends" "LJudoHall$Row;" "JudoHall") (List.mem_of_getElem? (i := 311) (by decide +kernel))), (List.forall_mem_cons.mpr ⟨va_Nw.of rfl (hts (.fieldLinkNest "JudoHall$Parser" 67 "JudoHall$Tape" "kind" "I" "JudoHall") (List.mem_of_getElem? (i := 257) (by decide +kernel))), (List.forall_mem_cons.mpr ⟨va_Nw.of rfl (hts (.fieldLinkNest "JudoHall$Parser" 74 "JudoHall$Tape" "from" "I" "JudoHall") (List.mem_of_getElem? (i := 259) (by decide +kernel))), (List.forall_mem_cons.mpr ⟨va_Nw.of rfl (hts (.fieldLinkNest "JudoHall$Parser" 121 "JudoHall$Tape" "value" "I" "JudoHall") (List.mem_of_getElem? (i := 262) (by decide +kernel))), (List.forall_mem_cons.mpr ⟨va_Nw.of rfl (hts (.fieldLinkNest "JudoHall$Parser" 124 "JudoHall$Laws" "time" "I" "JudoHall") (List.mem_of_getElem? (i := 293) (by decide +kernel))), (List.forall_mem_cons.mpr ⟨va_Nw.of rfl (hts (.fieldLinkNest "JudoHall$Parser" 127 "JudoHall$Laws" "golden" "I" "JudoHall") (List.mem_of_getElem? (i := 296) (by decide +kernel))), (List.forall_mem_cons.mpr ⟨va_Nw.of rfl (hts (.fieldLinkNest "JudoHall$Parser" 130 "JudoHall$Laws" "signs" "I" "JudoHall") (List.mem_of_getElem? (i := 299) (by decide +kernel))), (List.forall_mem_cons.mpr ⟨va_Nw.of rfl (hts (.fieldLinkNest "JudoHall$Parser" 136 "JudoHall$Laws" "points" "LJudoHall$Row;" "JudoHall") (List.mem_of_getElem? (i := 313) (by decide +kernel))), (List.forall_mem_cons.mpr ⟨va_Nw.of rfl (hts (.fieldLinkNest "JudoHall$Parser" 139 "JudoHall$Laws" "lines" "I" "JudoHall") (List.mem_of_getElem? (i := 303) (by decide +kernel))), (List.forall_mem_cons.mpr ⟨va_Nw.of rfl (hts (.fieldLinkNest "JudoHall$Parser" 175 "JudoHall$Laws" "parts" "I" "JudoHall") (List.mem_of_getElem? (i := 306) (by decide +kernel))), (fun _ h => absurd h List.not_mem_nil)⟩)⟩)⟩)⟩)⟩)⟩)⟩)⟩)⟩)⟩)⟩)⟩)⟩)⟩)⟩)⟩)⟩)⟩)⟩)⟩)⟩), List.forall_mem_cons.mpr ⟨va_Nw.of rfl (hts (.methodLinkNest "JudoHall$Board" 55 yX11_isClass "JudoHall") (List.mem_of_getElem? (i := 1218) (by decide +kernel))), fun _ h => absurd h List.not_mem_nil⟩⟩
  have hB : KB G s := ⟨hK, hKN⟩
  have hsf := flat_of_before _ hgv
  obtain ⟨A, hAe⟩ : ∃ A : Nat → Prop, A = fun q => s.heap.size ≤ q := ⟨_, rfl⟩
  have hA : ∀ q : Nat, s.heap.size ≤ q → A q := fun q h => by rw [hAe]; exact h
  have hAl : ∀ q : Nat, A q → s.heap.size ≤ q := fun q h => by rw [hAe] at h; exact h
  have hAn : ∀ a : Nat, a < s.heap.size → ¬ A a := fun a h z => absurd (hAl a z) (Nat.not_le.mpr h)
  have hbA : ¬ A b := hAn b hbl
  obtain ⟨tz, -, -, -, htz, -⟩ := Cond.exactly_spec (args := #[Value.ref b]) (first := s) (o := none) (s := s) (idx := []) (hsf (.exactly (.static "java/util/ArrayList" "DEFAULTCAPACITY_EMPTY_ELEMENTDATA" "[Ljava/lang/Object;") "[Ljava/lang/Object;") (by decide +kernel))
  have hZ1 := va_Zof (A := A) (hts (.laysStatic "java/util/ArrayList" "DEFAULTCAPACITY_EMPTY_ELEMENTDATA" "[Ljava/lang/Object;") (List.mem_of_getElem? (i := 542) (by decide +kernel))) (hts (.initialized "java/util/ArrayList") (List.mem_of_getElem? (i := 170) (by decide +kernel))) htz hAn
  obtain ⟨v1, hv1, hZv1⟩ : ∃ v : Value, (v = .null ∨ ∃ a, v = .ref a) ∧ va_Z "java/lang/Throwable" "UNASSIGNED_STACK" "[Ljava/lang/StackTraceElement;" v A s s.heap := by
    rcases va_Zqof (A := A) (hts (.laysStatic "java/lang/Throwable" "UNASSIGNED_STACK" "[Ljava/lang/StackTraceElement;") (List.mem_of_getElem? (i := 1578) (by decide +kernel))) (hts (.initialized "java/lang/Throwable") (List.mem_of_getElem? (i := 172) (by decide +kernel))) (hsf (.isRef (.static "java/lang/Throwable" "UNASSIGNED_STACK" "[Ljava/lang/StackTraceElement;")) (by decide +kernel)) hAn with h | ⟨t, h⟩
    · exact ⟨_, Or.inl rfl, h⟩
    · exact ⟨_, Or.inr ⟨t, rfl⟩, h⟩
  obtain ⟨v2, hv2, hZv2⟩ : ∃ v : Value, (v = .null ∨ ∃ a, v = .ref a) ∧ va_Z "java/lang/Throwable" "SUPPRESSED_SENTINEL" "Ljava/util/List;" v A s s.heap := by
    rcases va_Zqof (A := A) (hts (.laysStatic "java/lang/Throwable" "SUPPRESSED_SENTINEL" "Ljava/util/List;") (List.mem_of_getElem? (i := 1580) (by decide +kernel))) (hts (.initialized "java/lang/Throwable") (List.mem_of_getElem? (i := 172) (by decide +kernel))) (hsf (.isRef (.static "java/lang/Throwable" "SUPPRESSED_SENTINEL" "Ljava/util/List;")) (by decide +kernel)) hAn with h | ⟨t, h⟩
    · exact ⟨_, Or.inl rfl, h⟩
    · exact ⟨_, Or.inr ⟨t, rfl⟩, h⟩
  obtain ⟨hd, hdE, hdT⟩ := va_Tof (A := A) (tm := (.static "JudoHall$Parser" "HEAD" "[I")) (ty := .int) (N := 6) (f := hdF) (by decide) (hsf (.arrayOf (.static "JudoHall$Parser" "HEAD" "[I") .int) (by decide +kernel)) (va_eqt (hsf (.eq (.length (.static "JudoHall$Parser" "HEAD" "[I")) (.int 6)) (by decide +kernel))) (fun j hj => by
    match j, hj with
    | 0, _ => exact va_eqt (hsf (.eq (.elem (.static "JudoHall$Parser" "HEAD" "[I") (.int 0)) (.int 4)) (by decide +kernel))
    | 1, _ => exact va_eqt (hsf (.eq (.elem (.static "JudoHall$Parser" "HEAD" "[I") (.int 1)) (.int 3)) (by decide +kernel))
    | 2, _ => exact va_eqt (hsf (.eq (.elem (.static "JudoHall$Parser" "HEAD" "[I") (.int 2)) (.int 19)) (by decide +kernel))
    | 3, _ => exact va_eqt (hsf (.eq (.elem (.static "JudoHall$Parser" "HEAD" "[I") (.int 3)) (.int 5)) (by decide +kernel))
    | 4, _ => exact va_eqt (hsf (.eq (.elem (.static "JudoHall$Parser" "HEAD" "[I") (.int 4)) (.int 3)) (by decide +kernel))
    | 5, _ => exact va_eqt (hsf (.eq (.elem (.static "JudoHall$Parser" "HEAD" "[I") (.int 5)) (.int 19)) (by decide +kernel))
    | j + 6, h => exact absurd h (by omega)) hAn
  have hZh := va_Zof (A := A) (hts (.laysStatic "JudoHall$Parser" "HEAD" "[I") (List.mem_of_getElem? (i := 745) (by decide +kernel))) (hts (.initialized "JudoHall$Parser") (List.mem_of_getElem? (i := 160) (by decide +kernel))) hdE hAn
  obtain ⟨Z, hE⟩ : ∃ Z : gS, ST Z A s s.heap := ⟨(tz, hd, v1, v2, ()), hZ1, hZv1, hZv2, hZh, hdT, hv1, hv2⟩
  obtain ⟨sr, -, -, -, hsr, -⟩ := Cond.exactly_spec (args := #[Value.ref b]) (first := s) (o := none) (s := s) (idx := []) (hsf (.exactly (.string "JudoHallModel" 318) "java/lang/String") (by decide +kernel))
  have hR : vk_R "JudoHallModel" 318 "time" sr s ∧ va_Nw (.castable "JudoHallModel$Stop" "JudoHallModel$Stop") s := ⟨vk_R.of (hts (.stringRef "JudoHallModel" 318 "time") (List.mem_of_getElem? (i := 1921) (by decide +kernel))) hsr, va_Nw.of rfl (hts (.castable "JudoHallModel$Stop" "JudoHallModel$Stop") (List.mem_of_getElem? (i := 1555) (by decide +kernel)))⟩
  have hS : va_S A s.heap s.heap [] := va_S.rf
  have hP : va_P (gD G) vwCl [] s.heap := fun k q h => by simp at h
  have hD : va_D A [] := ⟨fun i j p q h => by simp at h, fun k q h => by simp at h⟩
  have hl := lv_entry ([.ref b]) (n := 4) (Nat.le_of_ble_eq_true rfl)
  rw [lg_entry_eq]
  generalize (lg_sl ([.ref b]) ++ List.replicate (4 - (lg_sl ([.ref b])).length) Slot.unset).toArray = ls at hl ⊢
  have hl : lv_has ls 4 [(0, .ref b)] := hl
  refine va_new (D := gD G) (ci := 12) (fs := [.null, .null, .null, .null, .null, .null, .null, .null, .null, .null, .null]) (C := RX11) (T := TX11) (N := 11) hx hb hts in_wsX110 tyX11 tyX11_ok hown (hts (.classLink RL 7 RX11) (List.mem_of_getElem? (i := 183) (by decide +kernel))) (hts (.instantiable RX11 11) (List.mem_of_getElem? (i := 184) (by decide +kernel))) (hts (.initialized RX11) (List.mem_of_getElem? (i := 154) (by decide +kernel))) hK hP hD hS hA rfl dvX11 (Nat.le_of_ble_eq_true rfl) (Nat.le_of_ble_eq_true rfl) dL_law_0 (fun q_1 H hP hD hS => ?_)
  have hP : va_P (gD G) vwCl [(q_1, .inr (12, [.null, .null, .null, .null, .null, .null, .null, .null, .null, .null, .null]))] H := hP
  have hD : va_D A [(q_1, .inr (12, [.null, .null, .null, .null, .null, .null, .null, .null, .null, .null, .null]))] := hD
  refine lv_dup hx hb dL_law_3 rfl ?_
  have hPc := hP.sub (ws' := [(q_1, .inr (12, [.null, .null, .null, .null, .null, .null, .null, .null, .null, .null, .null]))]) [0] rfl
  have hDc := hD.sub (ws' := [(q_1, .inr (12, [.null, .null, .null, .null, .null, .null, .null, .null, .null, .null, .null]))]) [0] (by decide) rfl
  have hFc := va_free (wc := [(q_1, .inr (12, [.null, .null, .null, .null, .null, .null, .null, .null, .null, .null, .null]))]) hD hS hA [0] rfl
  refine va_callv (va_runI (As := []) (rest := [.ref q_1]) ⟨hx, hb, hml, hown, hts⟩ (c_JudoHall_init l G Z q_1 H.size) (cwI 0 hts (fun w9 h9 => ⟨(in_c_JudoHall_init _ h9), gd_c_JudoHall_init w9 h9⟩) rfl rfl rfl (hts (.initialized RX11) (List.mem_of_getElem? (i := 154) (by decide +kernel))) (hts (.methodLink RL 9 yX11_init) (List.mem_of_getElem? (i := 185) (by decide +kernel))) (hts (.instanceMethod yX11_init) (List.mem_of_getElem? (i := 186) (by decide +kernel))) rfl kSX11_init ⟨Nat.le_of_ble_eq_true rfl, Nat.le_of_ble_eq_true rfl⟩) (preS_e (As := [.ref q_1]) hPc hB hDc ((hE.kept hS.2.1).narrow hFc)) rfl rfl hl.1 rfl (lv_room (Nat.le_of_ble_eq_true rfl)) dL_law_4 ⟨Nat.le_of_ble_eq_true rfl, Nat.le_of_ble_eq_true rfl⟩) hS (fun q _ h => hFc q h) hFc (fun u t H1 locs ht hvm hw hB1 hz1 hk1 hS => ?_)
  obtain ⟨bk, tp, ps, rl, u1, bd, fr, u2, pn, nl, u3, ca, bc, bb, bs, bc2, bb2, bs2, ty, ty2, p1, p2, p3, dr, p4, p5, p6, b1, b2, b3, b4, b5, f1, n1, pe, pm, n2, n3, pt, pb, px, pg, pe2, pm2, px2, pg2, l1, l2, l3, hP1, hD1⟩ := hB1
  rw [ht] at hP1
  obtain ⟨hP, hD⟩ := va_join (wr := []) (w1 := [(q_1, .inr (12, [.ref bk, .ref tp, .ref ps, .ref rl, u1, .ref bd, .ref fr, u2, .ref pn, .ref nl, u3])), (bk, .inr (2, [.ref ca, .ref bc, .ref bb, .ref bs, .int 0, .int 0])), (ca, .inl (gI G, 2088, .inl bk0)), (bc, .inr (10, [.ref bc2])), (bc2, .inl (gI G, 512, .inl (fl 512 0 (fun _ => 0)))), (bb, .inr (10, [.ref bb2])), (bb2, .inl (gI G, 512, .inl (fl 512 0 (fun _ => 0)))), (bs, .inr (10, [.ref bs2])), (bs2, .inl (gI G, 500, .inl (fl 500 0 (fun _ => 0)))), (tp, .inr (11, [.ref ty, .int 0, .int 0, .int 0, .int 0, .int 0])), (ty, .inr (10, [.ref ty2])), (ty2, .inl (gI G, 3000, .inl (fl 3000 0 (fun _ => 0)))), (ps, .inr (6, [.ref tp, p1, p2, p3, .ref dr, .int 0, .int 0, .int 0, .int (-1), .int 0, .int 0, .int 0, .int 0, .int 0])), (dr, .inr (5, [.int 0, .int 0, .int 0, .int 0, .int 0, .int 0, p4, p5, p6])), (rl, .inr (9, [.ref bk])), (bd, .inr (1, [.ref bk, b1, b2, b3, b4, b5])), (fr, .inr (4, [.ref bk, .ref bd, f1, .int 0])), (pn, .inr (7, [.ref bk, .ref bd, n1, .ref pe, .ref pm, n2, n3, .ref pt, .ref pb, .ref px, .ref pg, .int 0, .int 0, .int 0])), (pe, .inr (10, [.ref pe2])), (pe2, .inl (gI G, 148, .inl (fl 148 (-1) (fun _ => 0)))), (pm, .inr (10, [.ref pm2])), (pm2, .inl (gI G, 4, .inl (fl 4 0 (fun _ => 0)))), (px, .inr (10, [.ref px2])), (px2, .inl (gI G, 148, .inl (fl 148 (-1) (fun _ => 0)))), (pg, .inr (10, [.ref pg2])), (pg2, .inl (gI G, 148, .inl (fl 148 (-1) (fun _ => 0)))), (nl, .inr (5, [.int 0, .int 0, .int 0, .int 0, .int 0, .int 0, l1, l2, l3]))]) hP hD [0] [] rfl rfl (by decide) (by decide) hk1 hFc hP1 hD1
  generalize H1 = H at hP hS ⊢
  have hP : va_P (gD G) vwCl [(q_1, .inr (12, [.ref bk, .ref tp, .ref ps, .ref rl, u1, .ref bd, .ref fr, u2, .ref pn, .ref nl, u3])), (bk, .inr (2, [.ref ca, .ref bc, .ref bb, .ref bs, .int 0, .int 0])), (ca, .inl (gI G, 2088, .inl bk0)), (bc, .inr (10, [.ref bc2])), (bc2, .inl (gI G, 512, .inl (fl 512 0 (fun _ => 0)))), (bb, .inr (10, [.ref bb2])), (bb2, .inl (gI G, 512, .inl (fl 512 0 (fun _ => 0)))), (bs, .inr (10, [.ref bs2])), (bs2, .inl (gI G, 500, .inl (fl 500 0 (fun _ => 0)))), (tp, .inr (11, [.ref ty, .int 0, .int 0, .int 0, .int 0, .int 0])), (ty, .inr (10, [.ref ty2])), (ty2, .inl (gI G, 3000, .inl (fl 3000 0 (fun _ => 0)))), (ps, .inr (6, [.ref tp, p1, p2, p3, .ref dr, .int 0, .int 0, .int 0, .int (-1), .int 0, .int 0, .int 0, .int 0, .int 0])), (dr, .inr (5, [.int 0, .int 0, .int 0, .int 0, .int 0, .int 0, p4, p5, p6])), (rl, .inr (9, [.ref bk])), (bd, .inr (1, [.ref bk, b1, b2, b3, b4, b5])), (fr, .inr (4, [.ref bk, .ref bd, f1, .int 0])), (pn, .inr (7, [.ref bk, .ref bd, n1, .ref pe, .ref pm, n2, n3, .ref pt, .ref pb, .ref px, .ref pg, .int 0, .int 0, .int 0])), (pe, .inr (10, [.ref pe2])), (pe2, .inl (gI G, 148, .inl (fl 148 (-1) (fun _ => 0)))), (pm, .inr (10, [.ref pm2])), (pm2, .inl (gI G, 4, .inl (fl 4 0 (fun _ => 0)))), (px, .inr (10, [.ref px2])), (px2, .inl (gI G, 148, .inl (fl 148 (-1) (fun _ => 0)))), (pg, .inr (10, [.ref pg2])), (pg2, .inl (gI G, 148, .inl (fl 148 (-1) (fun _ => 0)))), (nl, .inr (5, [.int 0, .int 0, .int 0, .int 0, .int 0, .int 0, l1, l2, l3]))] H := hP
  have hD : va_D A [(q_1, .inr (12, [.ref bk, .ref tp, .ref ps, .ref rl, u1, .ref bd, .ref fr, u2, .ref pn, .ref nl, u3])), (bk, .inr (2, [.ref ca, .ref bc, .ref bb, .ref bs, .int 0, .int 0])), (ca, .inl (gI G, 2088, .inl bk0)), (bc, .inr (10, [.ref bc2])), (bc2, .inl (gI G, 512, .inl (fl 512 0 (fun _ => 0)))), (bb, .inr (10, [.ref bb2])), (bb2, .inl (gI G, 512, .inl (fl 512 0 (fun _ => 0)))), (bs, .inr (10, [.ref bs2])), (bs2, .inl (gI G, 500, .inl (fl 500 0 (fun _ => 0)))), (tp, .inr (11, [.ref ty, .int 0, .int 0, .int 0, .int 0, .int 0])), (ty, .inr (10, [.ref ty2])), (ty2, .inl (gI G, 3000, .inl (fl 3000 0 (fun _ => 0)))), (ps, .inr (6, [.ref tp, p1, p2, p3, .ref dr, .int 0, .int 0, .int 0, .int (-1), .int 0, .int 0, .int 0, .int 0, .int 0])), (dr, .inr (5, [.int 0, .int 0, .int 0, .int 0, .int 0, .int 0, p4, p5, p6])), (rl, .inr (9, [.ref bk])), (bd, .inr (1, [.ref bk, b1, b2, b3, b4, b5])), (fr, .inr (4, [.ref bk, .ref bd, f1, .int 0])), (pn, .inr (7, [.ref bk, .ref bd, n1, .ref pe, .ref pm, n2, n3, .ref pt, .ref pb, .ref px, .ref pg, .int 0, .int 0, .int 0])), (pe, .inr (10, [.ref pe2])), (pe2, .inl (gI G, 148, .inl (fl 148 (-1) (fun _ => 0)))), (pm, .inr (10, [.ref pm2])), (pm2, .inl (gI G, 4, .inl (fl 4 0 (fun _ => 0)))), (px, .inr (10, [.ref px2])), (px2, .inl (gI G, 148, .inl (fl 148 (-1) (fun _ => 0)))), (pg, .inr (10, [.ref pg2])), (pg2, .inl (gI G, 148, .inl (fl 148 (-1) (fun _ => 0)))), (nl, .inr (5, [.int 0, .int 0, .int 0, .int 0, .int 0, .int 0, l1, l2, l3]))] := hD
  refine W.eq (g2 := F0 m 7 ls [.ref q_1]) rfl ?_
  refine lv_astore_n (lv' := [(1, .ref q_1), (0, .ref b)]) hx hb dL_law_7 rfl hl (by decide) rfl (fun ls hl => ?_)
  refine va_new (D := gD G) (ci := 14) (fs := [.null, .null, .int 0, .int 0, .int 0, .null, .null, .null, .null, .null, .null, .null, .null, .null, .null, .null, .null, .null, .null, .null, .null, .null, .null, .null, .null, .null, .null, .int 0, .int 0, .int 0, .int 0, .int 0, .null, .null, .null, .null, .null, .null, .null, .null, .null, .null, .int 0, .int 0, .int 0, .int 0, .int 0, .int 0, .int 0, .int 0, .int 0, .int 0, .null, .int 0, .null, .int 0, .null, .null, .null, .null, .null, .null, .null, .null, .null, .null, .null, .null, .null, .int 0, .null, .null]) (C := RX13) (T := TX13) (N := 72) hx hb hts in_wsX130 tyX13 tyX13_ok hown (hts (.classLink RL 10 RX13) (List.mem_of_getElem? (i := 1547) (by decide +kernel))) (hts (.instantiable RX13 72) (List.mem_of_getElem? (i := 1548) (by decide +kernel))) (hts (.initialized RX13) (List.mem_of_getElem? (i := 171) (by decide +kernel))) hK hP hD hS hA rfl dvX13 (Nat.le_of_ble_eq_true rfl) (Nat.le_of_ble_eq_true rfl) dL_law_8 (fun q_3 H hP hD hS => ?_)
  have hP : va_P (gD G) vwCl [(q_1, .inr (12, [.ref bk, .ref tp, .ref ps, .ref rl, u1, .ref bd, .ref fr, u2, .ref pn, .ref nl, u3])), (bk, .inr (2, [.ref ca, .ref bc, .ref bb, .ref bs, .int 0, .int 0])), (ca, .inl (gI G, 2088, .inl bk0)), (bc, .inr (10, [.ref bc2])), (bc2, .inl (gI G, 512, .inl (fl 512 0 (fun _ => 0)))), (bb, .inr (10, [.ref bb2])), (bb2, .inl (gI G, 512, .inl (fl 512 0 (fun _ => 0)))), (bs, .inr (10, [.ref bs2])), (bs2, .inl (gI G, 500, .inl (fl 500 0 (fun _ => 0)))), (tp, .inr (11, [.ref ty, .int 0, .int 0, .int 0, .int 0, .int 0])), (ty, .inr (10, [.ref ty2])), (ty2, .inl (gI G, 3000, .inl (fl 3000 0 (fun _ => 0)))), (ps, .inr (6, [.ref tp, p1, p2, p3, .ref dr, .int 0, .int 0, .int 0, .int (-1), .int 0, .int 0, .int 0, .int 0, .int 0])), (dr, .inr (5, [.int 0, .int 0, .int 0, .int 0, .int 0, .int 0, p4, p5, p6])), (rl, .inr (9, [.ref bk])), (bd, .inr (1, [.ref bk, b1, b2, b3, b4, b5])), (fr, .inr (4, [.ref bk, .ref bd, f1, .int 0])), (pn, .inr (7, [.ref bk, .ref bd, n1, .ref pe, .ref pm, n2, n3, .ref pt, .ref pb, .ref px, .ref pg, .int 0, .int 0, .int 0])), (pe, .inr (10, [.ref pe2])), (pe2, .inl (gI G, 148, .inl (fl 148 (-1) (fun _ => 0)))), (pm, .inr (10, [.ref pm2])), (pm2, .inl (gI G, 4, .inl (fl 4 0 (fun _ => 0)))), (px, .inr (10, [.ref px2])), (px2, .inl (gI G, 148, .inl (fl 148 (-1) (fun _ => 0)))), (pg, .inr (10, [.ref pg2])), (pg2, .inl (gI G, 148, .inl (fl 148 (-1) (fun _ => 0)))), (nl, .inr (5, [.int 0, .int 0, .int 0, .int 0, .int 0, .int 0, l1, l2, l3])), (q_3, .inr (14, [.null, .null, .int 0, .int 0, .int 0, .null, .null, .null, .null, .null, .null, .null, .null, .null, .null, .null, .null, .null, .null, .null, .null, .null, .null, .null, .null, .null, .null, .int 0, .int 0, .int 0, .int 0, .int 0, .null, .null, .null, .null, .null, .null, .null, .null, .null, .null, .int 0, .int 0, .int 0, .int 0, .int 0, .int 0, .int 0, .int 0, .int 0, .int 0, .null, .int 0, .null, .int 0, .null, .null, .null, .null, .null, .null, .null, .null, .null, .null, .null, .null, .null, .int 0, .null, .null]))] H := hP
  have hD : va_D A [(q_1, .inr (12, [.ref bk, .ref tp, .ref ps, .ref rl, u1, .ref bd, .ref fr, u2, .ref pn, .ref nl, u3])), (bk, .inr (2, [.ref ca, .ref bc, .ref bb, .ref bs, .int 0, .int 0])), (ca, .inl (gI G, 2088, .inl bk0)), (bc, .inr (10, [.ref bc2])), (bc2, .inl (gI G, 512, .inl (fl 512 0 (fun _ => 0)))), (bb, .inr (10, [.ref bb2])), (bb2, .inl (gI G, 512, .inl (fl 512 0 (fun _ => 0)))), (bs, .inr (10, [.ref bs2])), (bs2, .inl (gI G, 500, .inl (fl 500 0 (fun _ => 0)))), (tp, .inr (11, [.ref ty, .int 0, .int 0, .int 0, .int 0, .int 0])), (ty, .inr (10, [.ref ty2])), (ty2, .inl (gI G, 3000, .inl (fl 3000 0 (fun _ => 0)))), (ps, .inr (6, [.ref tp, p1, p2, p3, .ref dr, .int 0, .int 0, .int 0, .int (-1), .int 0, .int 0, .int 0, .int 0, .int 0])), (dr, .inr (5, [.int 0, .int 0, .int 0, .int 0, .int 0, .int 0, p4, p5, p6])), (rl, .inr (9, [.ref bk])), (bd, .inr (1, [.ref bk, b1, b2, b3, b4, b5])), (fr, .inr (4, [.ref bk, .ref bd, f1, .int 0])), (pn, .inr (7, [.ref bk, .ref bd, n1, .ref pe, .ref pm, n2, n3, .ref pt, .ref pb, .ref px, .ref pg, .int 0, .int 0, .int 0])), (pe, .inr (10, [.ref pe2])), (pe2, .inl (gI G, 148, .inl (fl 148 (-1) (fun _ => 0)))), (pm, .inr (10, [.ref pm2])), (pm2, .inl (gI G, 4, .inl (fl 4 0 (fun _ => 0)))), (px, .inr (10, [.ref px2])), (px2, .inl (gI G, 148, .inl (fl 148 (-1) (fun _ => 0)))), (pg, .inr (10, [.ref pg2])), (pg2, .inl (gI G, 148, .inl (fl 148 (-1) (fun _ => 0)))), (nl, .inr (5, [.int 0, .int 0, .int 0, .int 0, .int 0, .int 0, l1, l2, l3])), (q_3, .inr (14, [.null, .null, .int 0, .int 0, .int 0, .null, .null, .null, .null, .null, .null, .null, .null, .null, .null, .null, .null, .null, .null, .null, .null, .null, .null, .null, .null, .null, .null, .int 0, .int 0, .int 0, .int 0, .int 0, .null, .null, .null, .null, .null, .null, .null, .null, .null, .null, .int 0, .int 0, .int 0, .int 0, .int 0, .int 0, .int 0, .int 0, .int 0, .int 0, .null, .int 0, .null, .int 0, .null, .null, .null, .null, .null, .null, .null, .null, .null, .null, .null, .null, .null, .int 0, .null, .null]))] := hD
  refine lv_dup hx hb dL_law_11 rfl ?_
  have hPc := hP.sub (ws' := [(q_3, .inr (14, [.null, .null, .int 0, .int 0, .int 0, .null, .null, .null, .null, .null, .null, .null, .null, .null, .null, .null, .null, .null, .null, .null, .null, .null, .null, .null, .null, .null, .null, .int 0, .int 0, .int 0, .int 0, .int 0, .null, .null, .null, .null, .null, .null, .null, .null, .null, .null, .int 0, .int 0, .int 0, .int 0, .int 0, .int 0, .int 0, .int 0, .int 0, .int 0, .null, .int 0, .null, .int 0, .null, .null, .null, .null, .null, .null, .null, .null, .null, .null, .null, .null, .null, .int 0, .null, .null]))]) [27] rfl
  have hDc := hD.sub (ws' := [(q_3, .inr (14, [.null, .null, .int 0, .int 0, .int 0, .null, .null, .null, .null, .null, .null, .null, .null, .null, .null, .null, .null, .null, .null, .null, .null, .null, .null, .null, .null, .null, .null, .int 0, .int 0, .int 0, .int 0, .int 0, .null, .null, .null, .null, .null, .null, .null, .null, .null, .null, .int 0, .int 0, .int 0, .int 0, .int 0, .int 0, .int 0, .int 0, .int 0, .int 0, .null, .int 0, .null, .int 0, .null, .null, .null, .null, .null, .null, .null, .null, .null, .null, .null, .null, .null, .int 0, .null, .null]))]) [27] (by decide) rfl
  have hFc := va_free (wc := [(q_3, .inr (14, [.null, .null, .int 0, .int 0, .int 0, .null, .null, .null, .null, .null, .null, .null, .null, .null, .null, .null, .null, .null, .null, .null, .null, .null, .null, .null, .null, .null, .null, .int 0, .int 0, .int 0, .int 0, .int 0, .null, .null, .null, .null, .null, .null, .null, .null, .null, .null, .int 0, .int 0, .int 0, .int 0, .int 0, .int 0, .int 0, .int 0, .int 0, .int 0, .null, .int 0, .null, .int 0, .null, .null, .null, .null, .null, .null, .null, .null, .null, .null, .null, .null, .null, .int 0, .null, .null]))]) hD hS hA [27] rfl
  refine va_callv (va_runI (As := []) (rest := [.ref q_3]) ⟨hx, hb, hml, hown, hts⟩ (c_Model_init l G Z q_3 H.size) (cwI 0 hts (fun w9 h9 => ⟨(in_c_Model_init _ h9), gd_c_Model_init w9 h9⟩) rfl rfl rfl (hts (.initialized RX13) (List.mem_of_getElem? (i := 171) (by decide +kernel))) (hts (.methodLink RL 12 yX13_init) (List.mem_of_getElem? (i := 1549) (by decide +kernel))) (hts (.instanceMethod yX13_init) (List.mem_of_getElem? (i := 1550) (by decide +kernel))) rfl kSX13_init ⟨Nat.le_of_ble_eq_true rfl, Nat.le_of_ble_eq_true rfl⟩) (preS_e (As := [.ref q_3]) hPc hB hDc ((hE.kept hS.2.1).narrow hFc)) rfl rfl hl.1 rfl (lv_room (Nat.le_of_ble_eq_true rfl)) dL_law_12 ⟨Nat.le_of_ble_eq_true rfl, Nat.le_of_ble_eq_true rfl⟩) hS (fun q _ h => hFc q h) hFc (fun u t H1 locs ht hvm hw hB1 hz1 hk1 hS => ?_)
  obtain ⟨Q, hP1, hD1⟩ := hB1
  rw [ht] at hP1
  obtain ⟨hP, hD⟩ := va_join (wr := [(q_1, .inr (12, [.ref bk, .ref tp, .ref ps, .ref rl, u1, .ref bd, .ref fr, u2, .ref pn, .ref nl, u3])), (bk, .inr (2, [.ref ca, .ref bc, .ref bb, .ref bs, .int 0, .int 0])), (ca, .inl (gI G, 2088, .inl bk0)), (bc, .inr (10, [.ref bc2])), (bc2, .inl (gI G, 512, .inl (fl 512 0 (fun _ => 0)))), (bb, .inr (10, [.ref bb2])), (bb2, .inl (gI G, 512, .inl (fl 512 0 (fun _ => 0)))), (bs, .inr (10, [.ref bs2])), (bs2, .inl (gI G, 500, .inl (fl 500 0 (fun _ => 0)))), (tp, .inr (11, [.ref ty, .int 0, .int 0, .int 0, .int 0, .int 0])), (ty, .inr (10, [.ref ty2])), (ty2, .inl (gI G, 3000, .inl (fl 3000 0 (fun _ => 0)))), (ps, .inr (6, [.ref tp, p1, p2, p3, .ref dr, .int 0, .int 0, .int 0, .int (-1), .int 0, .int 0, .int 0, .int 0, .int 0])), (dr, .inr (5, [.int 0, .int 0, .int 0, .int 0, .int 0, .int 0, p4, p5, p6])), (rl, .inr (9, [.ref bk])), (bd, .inr (1, [.ref bk, b1, b2, b3, b4, b5])), (fr, .inr (4, [.ref bk, .ref bd, f1, .int 0])), (pn, .inr (7, [.ref bk, .ref bd, n1, .ref pe, .ref pm, n2, n3, .ref pt, .ref pb, .ref px, .ref pg, .int 0, .int 0, .int 0])), (pe, .inr (10, [.ref pe2])), (pe2, .inl (gI G, 148, .inl (fl 148 (-1) (fun _ => 0)))), (pm, .inr (10, [.ref pm2])), (pm2, .inl (gI G, 4, .inl (fl 4 0 (fun _ => 0)))), (px, .inr (10, [.ref px2])), (px2, .inl (gI G, 148, .inl (fl 148 (-1) (fun _ => 0)))), (pg, .inr (10, [.ref pg2])), (pg2, .inl (gI G, 148, .inl (fl 148 (-1) (fun _ => 0)))), (nl, .inr (5, [.int 0, .int 0, .int 0, .int 0, .int 0, .int 0, l1, l2, l3]))]) (w1 := [(q_3, .inr (14, [.ref (Q 0), .ref (Q 1), .int 0, .int 0, .int 10, .ref (Q 5), .ref (Q 6), .ref (Q 7), .ref (Q 8), .ref (Q 9), .ref (Q 10), .ref (Q 11), .ref (Q 12), .ref (Q 13), .ref (Q 14), .ref (Q 15), .ref (Q 16), .ref (Q 17), .ref (Q 18), .ref (Q 19), .ref (Q 20), .ref (Q 21), .ref (Q 22), .ref (Q 23), .ref (Q 24), .ref (Q 25), .ref (Q 26), .int 0, .int 0, .int 0, .int 0, .int 0, .ref (Q 32), .ref (Q 33), .ref (Q 34), .ref (Q 35), .ref (Q 36), .ref (Q 37), .ref (Q 38), .ref (Q 39), .ref (Q 40), .ref (Q 40), .int 0, .int 0, .int 0, .int 0, .int 0, .int 0, .int 0, .int 0, .int (-1), .int 0, .ref (Q 52), .int 0, .ref (Q 54), .int 0, .ref (Q 56), .ref (Q 57), .ref (Q 58), .ref (Q 59), .ref (Q 60), .ref (Q 61), .ref (Q 62), .ref (Q 63), .ref (Q 64), .ref (Q 65), .ref (Q 66), .ref (Q 67), .ref (Q 68), .int 0, .ref (Q 70), .ref (Q 71)])), (Q 0, .inl (gI G, 4, .inl moLo)), (Q 1, .inl (gI G, 4, .inl moHi)), (Q 5, .inl (gI G, 96, .inl (fun _ => 0))), (Q 6, .inl (gI G, 96, .inl (fun _ => 0))), (Q 7, .inl (gI G, 96, .inl (fun _ => 0))), (Q 8, .inl (gI G, 96, .inl (fun _ => 0))), (Q 9, .inl (gI G, 96, .inl (fun _ => 0))), (Q 10, .inl (gI G, 96, .inl (fun _ => 0))), (Q 11, .inl (gI G, 96, .inl (fun _ => 0))), (Q 40, .inl (gB G, 3000, .inl (fun _ => 0))), (Q 52, .inl (gI G, 2000, .inl (fun _ => 0))), (Q 61, .inl (gI G, 160, .inl (fun _ => 0))), (Q 62, .inl (gI G, 160, .inl (fun _ => 0))), (Q 63, .inl (gI G, 160, .inl (fun _ => 0))), (Q 64, .inl (gI G, 160, .inl (fun _ => 0))), (Q 65, .inl (gI G, 160, .inl (fun _ => 0))), (Q 71, .inl (gI G, 4, .inl (fun _ => 0))), (Q 12, .inl (gI G, 4, .inl moDr)), (Q 13, .inl (gI G, 4, .inl (fun _ => 0))), (Q 22, .inl (gI G, 4, .inl moOn)), (Q 39, .inr (13, [.null, .null, .null, .null, .null, .int 0]))]) hP hD [27] [0, 1, 2, 3, 4, 5, 6, 7, 8, 9, 10, 11, 12, 13, 14, 15, 16, 17, 18, 19, 20, 21, 22, 23, 24, 25, 26] rfl rfl (by decide) (by decide) hk1 hFc hP1 hD1
  generalize H1 = H at hP hS ⊢
  have hP : va_P (gD G) vwCl [(q_1, .inr (12, [.ref bk, .ref tp, .ref ps, .ref rl, u1, .ref bd, .ref fr, u2, .ref pn, .ref nl, u3])), (bk, .inr (2, [.ref ca, .ref bc, .ref bb, .ref bs, .int 0, .int 0])), (ca, .inl (gI G, 2088, .inl bk0)), (bc, .inr (10, [.ref bc2])), (bc2, .inl (gI G, 512, .inl (fl 512 0 (fun _ => 0)))), (bb, .inr (10, [.ref bb2])), (bb2, .inl (gI G, 512, .inl (fl 512 0 (fun _ => 0)))), (bs, .inr (10, [.ref bs2])), (bs2, .inl (gI G, 500, .inl (fl 500 0 (fun _ => 0)))), (tp, .inr (11, [.ref ty, .int 0, .int 0, .int 0, .int 0, .int 0])), (ty, .inr (10, [.ref ty2])), (ty2, .inl (gI G, 3000, .inl (fl 3000 0 (fun _ => 0)))), (ps, .inr (6, [.ref tp, p1, p2, p3, .ref dr, .int 0, .int 0, .int 0, .int (-1), .int 0, .int 0, .int 0, .int 0, .int 0])), (dr, .inr (5, [.int 0, .int 0, .int 0, .int 0, .int 0, .int 0, p4, p5, p6])), (rl, .inr (9, [.ref bk])), (bd, .inr (1, [.ref bk, b1, b2, b3, b4, b5])), (fr, .inr (4, [.ref bk, .ref bd, f1, .int 0])), (pn, .inr (7, [.ref bk, .ref bd, n1, .ref pe, .ref pm, n2, n3, .ref pt, .ref pb, .ref px, .ref pg, .int 0, .int 0, .int 0])), (pe, .inr (10, [.ref pe2])), (pe2, .inl (gI G, 148, .inl (fl 148 (-1) (fun _ => 0)))), (pm, .inr (10, [.ref pm2])), (pm2, .inl (gI G, 4, .inl (fl 4 0 (fun _ => 0)))), (px, .inr (10, [.ref px2])), (px2, .inl (gI G, 148, .inl (fl 148 (-1) (fun _ => 0)))), (pg, .inr (10, [.ref pg2])), (pg2, .inl (gI G, 148, .inl (fl 148 (-1) (fun _ => 0)))), (nl, .inr (5, [.int 0, .int 0, .int 0, .int 0, .int 0, .int 0, l1, l2, l3])), (q_3, .inr (14, [.ref (Q 0), .ref (Q 1), .int 0, .int 0, .int 10, .ref (Q 5), .ref (Q 6), .ref (Q 7), .ref (Q 8), .ref (Q 9), .ref (Q 10), .ref (Q 11), .ref (Q 12), .ref (Q 13), .ref (Q 14), .ref (Q 15), .ref (Q 16), .ref (Q 17), .ref (Q 18), .ref (Q 19), .ref (Q 20), .ref (Q 21), .ref (Q 22), .ref (Q 23), .ref (Q 24), .ref (Q 25), .ref (Q 26), .int 0, .int 0, .int 0, .int 0, .int 0, .ref (Q 32), .ref (Q 33), .ref (Q 34), .ref (Q 35), .ref (Q 36), .ref (Q 37), .ref (Q 38), .ref (Q 39), .ref (Q 40), .ref (Q 40), .int 0, .int 0, .int 0, .int 0, .int 0, .int 0, .int 0, .int 0, .int (-1), .int 0, .ref (Q 52), .int 0, .ref (Q 54), .int 0, .ref (Q 56), .ref (Q 57), .ref (Q 58), .ref (Q 59), .ref (Q 60), .ref (Q 61), .ref (Q 62), .ref (Q 63), .ref (Q 64), .ref (Q 65), .ref (Q 66), .ref (Q 67), .ref (Q 68), .int 0, .ref (Q 70), .ref (Q 71)])), (Q 0, .inl (gI G, 4, .inl moLo)), (Q 1, .inl (gI G, 4, .inl moHi)), (Q 5, .inl (gI G, 96, .inl (fun _ => 0))), (Q 6, .inl (gI G, 96, .inl (fun _ => 0))), (Q 7, .inl (gI G, 96, .inl (fun _ => 0))), (Q 8, .inl (gI G, 96, .inl (fun _ => 0))), (Q 9, .inl (gI G, 96, .inl (fun _ => 0))), (Q 10, .inl (gI G, 96, .inl (fun _ => 0))), (Q 11, .inl (gI G, 96, .inl (fun _ => 0))), (Q 40, .inl (gB G, 3000, .inl (fun _ => 0))), (Q 52, .inl (gI G, 2000, .inl (fun _ => 0))), (Q 61, .inl (gI G, 160, .inl (fun _ => 0))), (Q 62, .inl (gI G, 160, .inl (fun _ => 0))), (Q 63, .inl (gI G, 160, .inl (fun _ => 0))), (Q 64, .inl (gI G, 160, .inl (fun _ => 0))), (Q 65, .inl (gI G, 160, .inl (fun _ => 0))), (Q 71, .inl (gI G, 4, .inl (fun _ => 0))), (Q 12, .inl (gI G, 4, .inl moDr)), (Q 13, .inl (gI G, 4, .inl (fun _ => 0))), (Q 22, .inl (gI G, 4, .inl moOn)), (Q 39, .inr (13, [.null, .null, .null, .null, .null, .int 0]))] H := hP
  have hD : va_D A [(q_1, .inr (12, [.ref bk, .ref tp, .ref ps, .ref rl, u1, .ref bd, .ref fr, u2, .ref pn, .ref nl, u3])), (bk, .inr (2, [.ref ca, .ref bc, .ref bb, .ref bs, .int 0, .int 0])), (ca, .inl (gI G, 2088, .inl bk0)), (bc, .inr (10, [.ref bc2])), (bc2, .inl (gI G, 512, .inl (fl 512 0 (fun _ => 0)))), (bb, .inr (10, [.ref bb2])), (bb2, .inl (gI G, 512, .inl (fl 512 0 (fun _ => 0)))), (bs, .inr (10, [.ref bs2])), (bs2, .inl (gI G, 500, .inl (fl 500 0 (fun _ => 0)))), (tp, .inr (11, [.ref ty, .int 0, .int 0, .int 0, .int 0, .int 0])), (ty, .inr (10, [.ref ty2])), (ty2, .inl (gI G, 3000, .inl (fl 3000 0 (fun _ => 0)))), (ps, .inr (6, [.ref tp, p1, p2, p3, .ref dr, .int 0, .int 0, .int 0, .int (-1), .int 0, .int 0, .int 0, .int 0, .int 0])), (dr, .inr (5, [.int 0, .int 0, .int 0, .int 0, .int 0, .int 0, p4, p5, p6])), (rl, .inr (9, [.ref bk])), (bd, .inr (1, [.ref bk, b1, b2, b3, b4, b5])), (fr, .inr (4, [.ref bk, .ref bd, f1, .int 0])), (pn, .inr (7, [.ref bk, .ref bd, n1, .ref pe, .ref pm, n2, n3, .ref pt, .ref pb, .ref px, .ref pg, .int 0, .int 0, .int 0])), (pe, .inr (10, [.ref pe2])), (pe2, .inl (gI G, 148, .inl (fl 148 (-1) (fun _ => 0)))), (pm, .inr (10, [.ref pm2])), (pm2, .inl (gI G, 4, .inl (fl 4 0 (fun _ => 0)))), (px, .inr (10, [.ref px2])), (px2, .inl (gI G, 148, .inl (fl 148 (-1) (fun _ => 0)))), (pg, .inr (10, [.ref pg2])), (pg2, .inl (gI G, 148, .inl (fl 148 (-1) (fun _ => 0)))), (nl, .inr (5, [.int 0, .int 0, .int 0, .int 0, .int 0, .int 0, l1, l2, l3])), (q_3, .inr (14, [.ref (Q 0), .ref (Q 1), .int 0, .int 0, .int 10, .ref (Q 5), .ref (Q 6), .ref (Q 7), .ref (Q 8), .ref (Q 9), .ref (Q 10), .ref (Q 11), .ref (Q 12), .ref (Q 13), .ref (Q 14), .ref (Q 15), .ref (Q 16), .ref (Q 17), .ref (Q 18), .ref (Q 19), .ref (Q 20), .ref (Q 21), .ref (Q 22), .ref (Q 23), .ref (Q 24), .ref (Q 25), .ref (Q 26), .int 0, .int 0, .int 0, .int 0, .int 0, .ref (Q 32), .ref (Q 33), .ref (Q 34), .ref (Q 35), .ref (Q 36), .ref (Q 37), .ref (Q 38), .ref (Q 39), .ref (Q 40), .ref (Q 40), .int 0, .int 0, .int 0, .int 0, .int 0, .int 0, .int 0, .int 0, .int (-1), .int 0, .ref (Q 52), .int 0, .ref (Q 54), .int 0, .ref (Q 56), .ref (Q 57), .ref (Q 58), .ref (Q 59), .ref (Q 60), .ref (Q 61), .ref (Q 62), .ref (Q 63), .ref (Q 64), .ref (Q 65), .ref (Q 66), .ref (Q 67), .ref (Q 68), .int 0, .ref (Q 70), .ref (Q 71)])), (Q 0, .inl (gI G, 4, .inl moLo)), (Q 1, .inl (gI G, 4, .inl moHi)), (Q 5, .inl (gI G, 96, .inl (fun _ => 0))), (Q 6, .inl (gI G, 96, .inl (fun _ => 0))), (Q 7, .inl (gI G, 96, .inl (fun _ => 0))), (Q 8, .inl (gI G, 96, .inl (fun _ => 0))), (Q 9, .inl (gI G, 96, .inl (fun _ => 0))), (Q 10, .inl (gI G, 96, .inl (fun _ => 0))), (Q 11, .inl (gI G, 96, .inl (fun _ => 0))), (Q 40, .inl (gB G, 3000, .inl (fun _ => 0))), (Q 52, .inl (gI G, 2000, .inl (fun _ => 0))), (Q 61, .inl (gI G, 160, .inl (fun _ => 0))), (Q 62, .inl (gI G, 160, .inl (fun _ => 0))), (Q 63, .inl (gI G, 160, .inl (fun _ => 0))), (Q 64, .inl (gI G, 160, .inl (fun _ => 0))), (Q 65, .inl (gI G, 160, .inl (fun _ => 0))), (Q 71, .inl (gI G, 4, .inl (fun _ => 0))), (Q 12, .inl (gI G, 4, .inl moDr)), (Q 13, .inl (gI G, 4, .inl (fun _ => 0))), (Q 22, .inl (gI G, 4, .inl moOn)), (Q 39, .inr (13, [.null, .null, .null, .null, .null, .int 0]))] := hD
  refine W.eq (g2 := F0 m 15 ls [.ref q_3]) rfl ?_
  refine lv_astore_n (lv' := [(2, .ref q_3), (1, .ref q_1), (0, .ref b)]) hx hb dL_law_15 rfl hl (by decide) rfl (fun ls hl => ?_)
  refine lv_iconst (v := 0) hx hb dL_law_16 (by decide) ?_
  refine lv_istore_n (lv' := [(3, .int 0), (2, .ref q_3), (1, .ref q_1), (0, .ref b)]) hx hb dL_law_17 rfl hl (by decide) rfl (fun ls hl => ?_)
  rcases Nat.lt_or_ge L 6 with hL6 | hL6
  · refine lv_iload_n hx hb dL_law_18 rfl (lv_at hl 0 rfl) ?_
    refine lv_aload_n hx hb dL_law_19 rfl (lv_at hl 3 rfl) ?_
    refine va_slen hx hb hX hbl hbA hS dL_law_20 ?_
    refine lv_bipush (v := 6) hx hb dL_law_21 (by decide) ?_
    refine lv_isub hx hb dL_law_23 ?_
    refine lv_icmp_gt (tgt := 959) hx hb dL_law_24 (by decide) (fun _ => ?_) (fun c9 => absurd (pk_sneg (a := L) (b := 6) (by decide) hL6) c9)
    refine lv_iconst (v := 1) hx hb dL_law_959 (by decide) ?_
    refine va_forget (fun q hq => hAl q.base (hS.2.2 q hq)) ?_
    refine W.widen (k := 600002) (n := 7302232) (Nat.le_of_ble_eq_true rfl) (Nat.le_of_ble_eq_true rfl) ?_
    exact lw_ret hx hb hr hlocks dL_law_960
  have hL7 : L = 6 := Nat.le_antisymm hL hL6
  subst hL7
  refine lv_iload_n hx hb dL_law_18 rfl (lv_at hl 0 rfl) ?_
  refine lv_aload_n hx hb dL_law_19 rfl (lv_at hl 3 rfl) ?_
  refine va_slen hx hb hX hbl hbA hS dL_law_20 ?_
  refine gx_ti (y := 6) (by decide) ?_
  refine lv_bipush (v := 6) hx hb dL_law_21 (by decide) ?_
  refine lv_isub hx hb dL_law_23 ?_
  refine gx_ti (y := 0) (by decide) ?_
  refine lv_icmp_gt (tgt := 959) hx hb dL_law_24 (by decide) (fun c9 => absurd c9 (by decide)) (fun _ => ?_)
  refine lv_aload_n hx hb dL_law_27 rfl (lv_at hl 3 rfl) ?_
  refine lv_iload_n hx hb dL_law_28 rfl (lv_at hl 0 rfl) ?_
  refine va_sld hx hb hX hbl hbA hS (i := 0) (gx_in (by decide)) dL_law_29 ?_
  refine gx_ti (y := xs 0) rfl ?_
  refine lv_bipush (v := 31) hx hb dL_law_30 (by decide) ?_
  refine lv_iand hx hb dL_law_32 ?_
  by_cases c_5 : ((xs 0) &&& 31) < 0
  · refine lv_tableOut (tgt := 953) hx hb dL_law_33 (Or.inl (gx_n0 c_5)) (by decide) ?_
    refine lv_iinc (v := 6) (lv' := [(3, .int 6), (2, .ref q_3), (1, .ref q_1), (0, .ref b)]) hx hb dL_law_953 hl (k := 0) rfl (by decide) (by decide) rfl (fun ls hl => ?_)
    refine lv_goto (tgt := 18) hx hb dL_law_956 (by decide) ?_
    refine lv_iload_n hx hb dL_law_18 rfl (lv_at hl 0 rfl) ?_
    refine lv_aload_n hx hb dL_law_19 rfl (lv_at hl 3 rfl) ?_
    refine va_slen hx hb hX hbl hbA hS dL_law_20 ?_
    refine gx_ti (y := 6) (by decide) ?_
    refine lv_bipush (v := 6) hx hb dL_law_21 (by decide) ?_
    refine lv_isub hx hb dL_law_23 ?_
    refine gx_ti (y := 0) (by decide) ?_
    refine lv_icmp_gt (tgt := 959) hx hb dL_law_24 (by decide) (fun _ => ?_) (fun c9 => absurd (by decide) c9)
    refine lv_iconst (v := 1) hx hb dL_law_959 (by decide) ?_
    refine va_forget (fun q hq => hAl q.base (hS.2.2 q hq)) ?_
    refine W.widen (k := 600002) (n := 7302232) (Nat.le_of_ble_eq_true rfl) (Nat.le_of_ble_eq_true rfl) ?_
    exact lw_ret hx hb hr hlocks dL_law_960
  by_cases c_6 : 25 ≤ ((xs 0) &&& 31)
  · refine lv_tableOut (tgt := 953) hx hb dL_law_33 (Or.inr (gx_nh (k := 25) (by decide) c_6)) (by decide) ?_
    refine lv_iinc (v := 6) (lv' := [(3, .int 6), (2, .ref q_3), (1, .ref q_1), (0, .ref b)]) hx hb dL_law_953 hl (k := 0) rfl (by decide) (by decide) rfl (fun ls hl => ?_)
    refine lv_goto (tgt := 18) hx hb dL_law_956 (by decide) ?_
    refine lv_iload_n hx hb dL_law_18 rfl (lv_at hl 0 rfl) ?_
    refine lv_aload_n hx hb dL_law_19 rfl (lv_at hl 3 rfl) ?_
    refine va_slen hx hb hX hbl hbA hS dL_law_20 ?_
    refine gx_ti (y := 6) (by decide) ?_
    refine lv_bipush (v := 6) hx hb dL_law_21 (by decide) ?_
    refine lv_isub hx hb dL_law_23 ?_
    refine gx_ti (y := 0) (by decide) ?_
    refine lv_icmp_gt (tgt := 959) hx hb dL_law_24 (by decide) (fun _ => ?_) (fun c9 => absurd (by decide) c9)
    refine lv_iconst (v := 1) hx hb dL_law_959 (by decide) ?_
    refine va_forget (fun q hq => hAl q.base (hS.2.2 q hq)) ?_
    refine W.widen (k := 600002) (n := 7302232) (Nat.le_of_ble_eq_true rfl) (Nat.le_of_ble_eq_true rfl) ?_
    exact lw_ret hx hb hr hlocks dL_law_960
  rcases gx_c25 c_5 c_6 with c_7 | c_8 | c_9 | c_10 | c_11 | c_12 | c_13 | c_14 | c_15 | c_16 | c_17 | c_18 | c_19 | c_20 | c_21 | c_22 | c_23 | c_24 | c_25 | c_26 | c_27 | c_28 | c_29 | c_30 | c_31
  · refine lv_tableIn (off := 115) (tgt := 148) hx hb dL_law_33 (by rw [c_7]; decide) (by rw [c_7]; decide) (by rw [c_7]; rfl) (by decide) ?_
    have hP := hP.sub (ws' := [(q_1, .inr (12, [.ref bk, .ref tp, .ref ps, .ref rl, u1, .ref bd, .ref fr, u2, .ref pn, .ref nl, u3])), (tp, .inr (11, [.ref ty, .int 0, .int 0, .int 0, .int 0, .int 0])), (ty, .inr (10, [.ref ty2])), (ty2, .inl (gI G, 3000, .inl (fl 3000 0 (fun _ => 0)))), (q_3, .inr (14, [.ref (Q 0), .ref (Q 1), .int 0, .int 0, .int 10, .ref (Q 5), .ref (Q 6), .ref (Q 7), .ref (Q 8), .ref (Q 9), .ref (Q 10), .ref (Q 11), .ref (Q 12), .ref (Q 13), .ref (Q 14), .ref (Q 15), .ref (Q 16), .ref (Q 17), .ref (Q 18), .ref (Q 19), .ref (Q 20), .ref (Q 21), .ref (Q 22), .ref (Q 23), .ref (Q 24), .ref (Q 25), .ref (Q 26), .int 0, .int 0, .int 0, .int 0, .int 0, .ref (Q 32), .ref (Q 33), .ref (Q 34), .ref (Q 35), .ref (Q 36), .ref (Q 37), .ref (Q 38), .ref (Q 39), .ref (Q 40), .ref (Q 40), .int 0, .int 0, .int 0, .int 0, .int 0, .int 0, .int 0, .int 0, .int (-1), .int 0, .ref (Q 52), .int 0, .ref (Q 54), .int 0, .ref (Q 56), .ref (Q 57), .ref (Q 58), .ref (Q 59), .ref (Q 60), .ref (Q 61), .ref (Q 62), .ref (Q 63), .ref (Q 64), .ref (Q 65), .ref (Q 66), .ref (Q 67), .ref (Q 68), .int 0, .ref (Q 70), .ref (Q 71)])), (Q 40, .inl (gB G, 3000, .inl (fun _ => 0)))]) [0, 9, 10, 11, 27, 37] rfl
    have hD := hD.sub (ws' := [(q_1, .inr (12, [.ref bk, .ref tp, .ref ps, .ref rl, u1, .ref bd, .ref fr, u2, .ref pn, .ref nl, u3])), (tp, .inr (11, [.ref ty, .int 0, .int 0, .int 0, .int 0, .int 0])), (ty, .inr (10, [.ref ty2])), (ty2, .inl (gI G, 3000, .inl (fl 3000 0 (fun _ => 0)))), (q_3, .inr (14, [.ref (Q 0), .ref (Q 1), .int 0, .int 0, .int 10, .ref (Q 5), .ref (Q 6), .ref (Q 7), .ref (Q 8), .ref (Q 9), .ref (Q 10), .ref (Q 11), .ref (Q 12), .ref (Q 13), .ref (Q 14), .ref (Q 15), .ref (Q 16), .ref (Q 17), .ref (Q 18), .ref (Q 19), .ref (Q 20), .ref (Q 21), .ref (Q 22), .ref (Q 23), .ref (Q 24), .ref (Q 25), .ref (Q 26), .int 0, .int 0, .int 0, .int 0, .int 0, .ref (Q 32), .ref (Q 33), .ref (Q 34), .ref (Q 35), .ref (Q 36), .ref (Q 37), .ref (Q 38), .ref (Q 39), .ref (Q 40), .ref (Q 40), .int 0, .int 0, .int 0, .int 0, .int 0, .int 0, .int 0, .int 0, .int (-1), .int 0, .ref (Q 52), .int 0, .ref (Q 54), .int 0, .ref (Q 56), .ref (Q 57), .ref (Q 58), .ref (Q 59), .ref (Q 60), .ref (Q 61), .ref (Q 62), .ref (Q 63), .ref (Q 64), .ref (Q 65), .ref (Q 66), .ref (Q 67), .ref (Q 68), .int 0, .ref (Q 70), .ref (Q 71)])), (Q 40, .inl (gB G, 3000, .inl (fun _ => 0)))]) [0, 9, 10, 11, 27, 37] (by decide) rfl
    refine lv_aload_n hx hb dL_law_148 rfl (lv_at hl 2 rfl) ?_
    refine lv_aload_n hx hb dL_law_149 rfl (lv_at hl 3 rfl) ?_
    refine lv_iload_n hx hb dL_law_150 rfl (lv_at hl 0 rfl) ?_
    refine lv_iconst (v := 1) hx hb dL_law_151 (by decide) ?_
    refine lv_iadd hx hb dL_law_152 ?_
    refine gx_ti (y := 1) (by decide) ?_
    refine va_sld hx hb hX hbl hbA hS (i := 1) (gx_in (by decide)) dL_law_153 ?_
    refine gx_ti (y := xs 1) rfl ?_
    refine lv_aload_n hx hb dL_law_154 rfl (lv_at hl 3 rfl) ?_
    refine lv_iload_n hx hb dL_law_155 rfl (lv_at hl 0 rfl) ?_
    refine lv_iconst (v := 2) hx hb dL_law_156 (by decide) ?_
    refine lv_iadd hx hb dL_law_157 ?_
    refine gx_ti (y := 2) (by decide) ?_
    refine va_sld hx hb hX hbl hbA hS (i := 2) (gx_in (by decide)) dL_law_158 ?_
    refine gx_ti (y := xs 2) rfl ?_
    refine lv_aload_n hx hb dL_law_159 rfl (lv_at hl 3 rfl) ?_
    refine lv_iload_n hx hb dL_law_160 rfl (lv_at hl 0 rfl) ?_
    refine lv_iconst (v := 3) hx hb dL_law_161 (by decide) ?_
    refine lv_iadd hx hb dL_law_162 ?_
    refine gx_ti (y := 3) (by decide) ?_
    refine va_sld hx hb hX hbl hbA hS (i := 3) (gx_in (by decide)) dL_law_163 ?_
    refine gx_ti (y := xs 3) rfl ?_
    refine lv_aload_n hx hb dL_law_164 rfl (lv_at hl 3 rfl) ?_
    refine lv_iload_n hx hb dL_law_165 rfl (lv_at hl 0 rfl) ?_
    refine lv_iconst (v := 4) hx hb dL_law_166 (by decide) ?_
    refine lv_iadd hx hb dL_law_167 ?_
    refine gx_ti (y := 4) (by decide) ?_
    refine va_sld hx hb hX hbl hbA hS (i := 4) (gx_in (by decide)) dL_law_168 ?_
    refine gx_ti (y := xs 4) rfl ?_
    refine lv_aload_n hx hb dL_law_169 rfl (lv_at hl 3 rfl) ?_
    refine lv_iload_n hx hb dL_law_170 rfl (lv_at hl 0 rfl) ?_
    refine lv_iconst (v := 5) hx hb dL_law_171 (by decide) ?_
    refine lv_iadd hx hb dL_law_172 ?_
    refine gx_ti (y := 5) (by decide) ?_
    refine va_sld hx hb hX hbl hbA hS (i := 5) (gx_in (by decide)) dL_law_173 ?_
    refine gx_ti (y := xs 5) rfl ?_
    have hPc := hP.sub (ws' := [(q_1, .inr (12, [.ref bk, .ref tp, .ref ps, .ref rl, u1, .ref bd, .ref fr, u2, .ref pn, .ref nl, u3])), (tp, .inr (11, [.ref ty, .int 0, .int 0, .int 0, .int 0, .int 0])), (ty, .inr (10, [.ref ty2])), (ty2, .inl (gI G, 3000, .inl (fl 3000 0 (fun _ => 0))))]) [0, 1, 2, 3] rfl
    have hDc := hD.sub (ws' := [(q_1, .inr (12, [.ref bk, .ref tp, .ref ps, .ref rl, u1, .ref bd, .ref fr, u2, .ref pn, .ref nl, u3])), (tp, .inr (11, [.ref ty, .int 0, .int 0, .int 0, .int 0, .int 0])), (ty, .inr (10, [.ref ty2])), (ty2, .inl (gI G, 3000, .inl (fl 3000 0 (fun _ => 0))))]) [0, 1, 2, 3] (by decide) rfl
    have hFc := va_free (wc := [(q_1, .inr (12, [.ref bk, .ref tp, .ref ps, .ref rl, u1, .ref bd, .ref fr, u2, .ref pn, .ref nl, u3])), (tp, .inr (11, [.ref ty, .int 0, .int 0, .int 0, .int 0, .int 0])), (ty, .inr (10, [.ref ty2])), (ty2, .inl (gI G, 3000, .inl (fl 3000 0 (fun _ => 0))))]) hD hS hA [0, 1, 2, 3] rfl
    refine va_calli (va_runV (As := [.int (xs 1), .int (xs 2), .int (xs 3), .int (xs 4), .int (xs 5)]) (rest := []) ⟨hx, hb, hml, hown, hts⟩ (q_feed l G q_1 bk tp ps rl u1 bd fr u2 pn nl u3 ty ty2 (xs 1) (xs 2) (xs 3) (xs 4) (xs 5) H.size) (cwV 5 hts (gdV (List.mem_of_getElem? (i := 589) (by decide +kernel)) (List.mem_of_getElem? (i := 590) (by decide +kernel)) (List.mem_of_getElem? (i := 591) (by decide +kernel)) (List.mem_of_getElem? (i := 154) (by decide +kernel)) (fun w9 h9 => ⟨(in_q_feed _ h9), gd_q_feed w9 h9⟩)) rfl rfl rfl kVX11_feed ⟨Nat.le_of_ble_eq_true rfl, Nat.le_of_ble_eq_true rfl⟩) (preV_m (As := [.int (xs 1), .int (xs 2), .int (xs 3), .int (xs 4), .int (xs 5)]) hPc hB hDc rfl rfl) rfl rfl hl.1 rfl (lv_room (Nat.le_of_ble_eq_true rfl)) dL_law_174 ⟨Nat.le_of_ble_eq_true rfl, Nat.le_of_ble_eq_true rfl⟩) hS (fun q _ h => hFc q h) hFc (fun r_32 u t H1 locs ht hvm hw hB1 hz1 hk1 hS => ?_)
    obtain ⟨hP1, hD1⟩ := hB1
    rw [ht] at hP1
    obtain ⟨hP, hD⟩ := va_join (wr := [(q_3, .inr (14, [.ref (Q 0), .ref (Q 1), .int 0, .int 0, .int 10, .ref (Q 5), .ref (Q 6), .ref (Q 7), .ref (Q 8), .ref (Q 9), .ref (Q 10), .ref (Q 11), .ref (Q 12), .ref (Q 13), .ref (Q 14), .ref (Q 15), .ref (Q 16), .ref (Q 17), .ref (Q 18), .ref (Q 19), .ref (Q 20), .ref (Q 21), .ref (Q 22), .ref (Q 23), .ref (Q 24), .ref (Q 25), .ref (Q 26), .int 0, .int 0, .int 0, .int 0, .int 0, .ref (Q 32), .ref (Q 33), .ref (Q 34), .ref (Q 35), .ref (Q 36), .ref (Q 37), .ref (Q 38), .ref (Q 39), .ref (Q 40), .ref (Q 40), .int 0, .int 0, .int 0, .int 0, .int 0, .int 0, .int 0, .int 0, .int (-1), .int 0, .ref (Q 52), .int 0, .ref (Q 54), .int 0, .ref (Q 56), .ref (Q 57), .ref (Q 58), .ref (Q 59), .ref (Q 60), .ref (Q 61), .ref (Q 62), .ref (Q 63), .ref (Q 64), .ref (Q 65), .ref (Q 66), .ref (Q 67), .ref (Q 68), .int 0, .ref (Q 70), .ref (Q 71)])), (Q 40, .inl (gB G, 3000, .inl (fun _ => 0)))]) (w1 := []) hP hD [0, 1, 2, 3] [4, 5] rfl rfl (by decide) (by decide) hk1 hFc hP1 hD1
    generalize H1 = H at hP hS ⊢
    have hP : va_P (gD G) vwCl [(q_3, .inr (14, [.ref (Q 0), .ref (Q 1), .int 0, .int 0, .int 10, .ref (Q 5), .ref (Q 6), .ref (Q 7), .ref (Q 8), .ref (Q 9), .ref (Q 10), .ref (Q 11), .ref (Q 12), .ref (Q 13), .ref (Q 14), .ref (Q 15), .ref (Q 16), .ref (Q 17), .ref (Q 18), .ref (Q 19), .ref (Q 20), .ref (Q 21), .ref (Q 22), .ref (Q 23), .ref (Q 24), .ref (Q 25), .ref (Q 26), .int 0, .int 0, .int 0, .int 0, .int 0, .ref (Q 32), .ref (Q 33), .ref (Q 34), .ref (Q 35), .ref (Q 36), .ref (Q 37), .ref (Q 38), .ref (Q 39), .ref (Q 40), .ref (Q 40), .int 0, .int 0, .int 0, .int 0, .int 0, .int 0, .int 0, .int 0, .int (-1), .int 0, .ref (Q 52), .int 0, .ref (Q 54), .int 0, .ref (Q 56), .ref (Q 57), .ref (Q 58), .ref (Q 59), .ref (Q 60), .ref (Q 61), .ref (Q 62), .ref (Q 63), .ref (Q 64), .ref (Q 65), .ref (Q 66), .ref (Q 67), .ref (Q 68), .int 0, .ref (Q 70), .ref (Q 71)])), (Q 40, .inl (gB G, 3000, .inl (fun _ => 0)))] H := hP
    have hD : va_D A [(q_3, .inr (14, [.ref (Q 0), .ref (Q 1), .int 0, .int 0, .int 10, .ref (Q 5), .ref (Q 6), .ref (Q 7), .ref (Q 8), .ref (Q 9), .ref (Q 10), .ref (Q 11), .ref (Q 12), .ref (Q 13), .ref (Q 14), .ref (Q 15), .ref (Q 16), .ref (Q 17), .ref (Q 18), .ref (Q 19), .ref (Q 20), .ref (Q 21), .ref (Q 22), .ref (Q 23), .ref (Q 24), .ref (Q 25), .ref (Q 26), .int 0, .int 0, .int 0, .int 0, .int 0, .ref (Q 32), .ref (Q 33), .ref (Q 34), .ref (Q 35), .ref (Q 36), .ref (Q 37), .ref (Q 38), .ref (Q 39), .ref (Q 40), .ref (Q 40), .int 0, .int 0, .int 0, .int 0, .int 0, .int 0, .int 0, .int 0, .int (-1), .int 0, .ref (Q 52), .int 0, .ref (Q 54), .int 0, .ref (Q 56), .ref (Q 57), .ref (Q 58), .ref (Q 59), .ref (Q 60), .ref (Q 61), .ref (Q 62), .ref (Q 63), .ref (Q 64), .ref (Q 65), .ref (Q 66), .ref (Q 67), .ref (Q 68), .int 0, .ref (Q 70), .ref (Q 71)])), (Q 40, .inl (gB G, 3000, .inl (fun _ => 0)))] := hD
    have hw : r_32 = 20 := hw
    refine gx_ti hw ?_
    refine W.eq (g2 := F0 m 177 ls [.int 20]) rfl ?_
    refine lv_aload_n hx hb dL_law_177 rfl (lv_at hl 1 rfl) ?_
    refine lv_aload_n hx hb dL_law_178 rfl (lv_at hl 3 rfl) ?_
    refine lv_iload_n hx hb dL_law_179 rfl (lv_at hl 0 rfl) ?_
    refine lv_iconst (v := 1) hx hb dL_law_180 (by decide) ?_
    refine lv_iadd hx hb dL_law_181 ?_
    refine gx_ti (y := 1) (by decide) ?_
    refine va_sld hx hb hX hbl hbA hS (i := 1) (gx_in (by decide)) dL_law_182 ?_
    refine gx_ti (y := xs 1) rfl ?_
    refine lv_aload_n hx hb dL_law_183 rfl (lv_at hl 3 rfl) ?_
    refine lv_iload_n hx hb dL_law_184 rfl (lv_at hl 0 rfl) ?_
    refine lv_iconst (v := 2) hx hb dL_law_185 (by decide) ?_
    refine lv_iadd hx hb dL_law_186 ?_
    refine gx_ti (y := 2) (by decide) ?_
    refine va_sld hx hb hX hbl hbA hS (i := 2) (gx_in (by decide)) dL_law_187 ?_
    refine gx_ti (y := xs 2) rfl ?_
    refine lv_aload_n hx hb dL_law_188 rfl (lv_at hl 3 rfl) ?_
    refine lv_iload_n hx hb dL_law_189 rfl (lv_at hl 0 rfl) ?_
    refine lv_iconst (v := 3) hx hb dL_law_190 (by decide) ?_
    refine lv_iadd hx hb dL_law_191 ?_
    refine gx_ti (y := 3) (by decide) ?_
    refine va_sld hx hb hX hbl hbA hS (i := 3) (gx_in (by decide)) dL_law_192 ?_
    refine gx_ti (y := xs 3) rfl ?_
    refine lv_aload_n hx hb dL_law_193 rfl (lv_at hl 3 rfl) ?_
    refine lv_iload_n hx hb dL_law_194 rfl (lv_at hl 0 rfl) ?_
    refine lv_iconst (v := 4) hx hb dL_law_195 (by decide) ?_
    refine lv_iadd hx hb dL_law_196 ?_
    refine gx_ti (y := 4) (by decide) ?_
    refine va_sld hx hb hX hbl hbA hS (i := 4) (gx_in (by decide)) dL_law_197 ?_
    refine gx_ti (y := xs 4) rfl ?_
    refine lv_aload_n hx hb dL_law_198 rfl (lv_at hl 3 rfl) ?_
    refine lv_iload_n hx hb dL_law_199 rfl (lv_at hl 0 rfl) ?_
    refine lv_iconst (v := 5) hx hb dL_law_200 (by decide) ?_
    refine lv_iadd hx hb dL_law_201 ?_
    refine gx_ti (y := 5) (by decide) ?_
    refine va_sld hx hb hX hbl hbA hS (i := 5) (gx_in (by decide)) dL_law_202 ?_
    refine gx_ti (y := xs 5) rfl ?_
    have hPc := hP.sub (ws' := [(q_3, .inr (14, [.ref (Q 0), .ref (Q 1), .int 0, .int 0, .int 10, .ref (Q 5), .ref (Q 6), .ref (Q 7), .ref (Q 8), .ref (Q 9), .ref (Q 10), .ref (Q 11), .ref (Q 12), .ref (Q 13), .ref (Q 14), .ref (Q 15), .ref (Q 16), .ref (Q 17), .ref (Q 18), .ref (Q 19), .ref (Q 20), .ref (Q 21), .ref (Q 22), .ref (Q 23), .ref (Q 24), .ref (Q 25), .ref (Q 26), .int 0, .int 0, .int 0, .int 0, .int 0, .ref (Q 32), .ref (Q 33), .ref (Q 34), .ref (Q 35), .ref (Q 36), .ref (Q 37), .ref (Q 38), .ref (Q 39), .ref (Q 40), .ref (Q 40), .int 0, .int 0, .int 0, .int 0, .int 0, .int 0, .int 0, .int 0, .int (-1), .int 0, .ref (Q 52), .int 0, .ref (Q 54), .int 0, .ref (Q 56), .ref (Q 57), .ref (Q 58), .ref (Q 59), .ref (Q 60), .ref (Q 61), .ref (Q 62), .ref (Q 63), .ref (Q 64), .ref (Q 65), .ref (Q 66), .ref (Q 67), .ref (Q 68), .int 0, .ref (Q 70), .ref (Q 71)])), (Q 40, .inl (gB G, 3000, .inl (fun _ => 0)))]) [0, 1] rfl
    have hDc := hD.sub (ws' := [(q_3, .inr (14, [.ref (Q 0), .ref (Q 1), .int 0, .int 0, .int 10, .ref (Q 5), .ref (Q 6), .ref (Q 7), .ref (Q 8), .ref (Q 9), .ref (Q 10), .ref (Q 11), .ref (Q 12), .ref (Q 13), .ref (Q 14), .ref (Q 15), .ref (Q 16), .ref (Q 17), .ref (Q 18), .ref (Q 19), .ref (Q 20), .ref (Q 21), .ref (Q 22), .ref (Q 23), .ref (Q 24), .ref (Q 25), .ref (Q 26), .int 0, .int 0, .int 0, .int 0, .int 0, .ref (Q 32), .ref (Q 33), .ref (Q 34), .ref (Q 35), .ref (Q 36), .ref (Q 37), .ref (Q 38), .ref (Q 39), .ref (Q 40), .ref (Q 40), .int 0, .int 0, .int 0, .int 0, .int 0, .int 0, .int 0, .int 0, .int (-1), .int 0, .ref (Q 52), .int 0, .ref (Q 54), .int 0, .ref (Q 56), .ref (Q 57), .ref (Q 58), .ref (Q 59), .ref (Q 60), .ref (Q 61), .ref (Q 62), .ref (Q 63), .ref (Q 64), .ref (Q 65), .ref (Q 66), .ref (Q 67), .ref (Q 68), .int 0, .ref (Q 70), .ref (Q 71)])), (Q 40, .inl (gB G, 3000, .inl (fun _ => 0)))]) [0, 1] (by decide) rfl
    have hFc := va_free (wc := [(q_3, .inr (14, [.ref (Q 0), .ref (Q 1), .int 0, .int 0, .int 10, .ref (Q 5), .ref (Q 6), .ref (Q 7), .ref (Q 8), .ref (Q 9), .ref (Q 10), .ref (Q 11), .ref (Q 12), .ref (Q 13), .ref (Q 14), .ref (Q 15), .ref (Q 16), .ref (Q 17), .ref (Q 18), .ref (Q 19), .ref (Q 20), .ref (Q 21), .ref (Q 22), .ref (Q 23), .ref (Q 24), .ref (Q 25), .ref (Q 26), .int 0, .int 0, .int 0, .int 0, .int 0, .ref (Q 32), .ref (Q 33), .ref (Q 34), .ref (Q 35), .ref (Q 36), .ref (Q 37), .ref (Q 38), .ref (Q 39), .ref (Q 40), .ref (Q 40), .int 0, .int 0, .int 0, .int 0, .int 0, .int 0, .int 0, .int 0, .int (-1), .int 0, .ref (Q 52), .int 0, .ref (Q 54), .int 0, .ref (Q 56), .ref (Q 57), .ref (Q 58), .ref (Q 59), .ref (Q 60), .ref (Q 61), .ref (Q 62), .ref (Q 63), .ref (Q 64), .ref (Q 65), .ref (Q 66), .ref (Q 67), .ref (Q 68), .int 0, .ref (Q 70), .ref (Q 71)])), (Q 40, .inl (gB G, 3000, .inl (fun _ => 0)))]) hD hS hA [0, 1] rfl
    refine va_calli (va_runV (As := [.int (xs 1), .int (xs 2), .int (xs 3), .int (xs 4), .int (xs 5)]) (rest := [.int 20]) ⟨hx, hb, hml, hown, hts⟩ (m_feed l G q_3 Q (fun _ => 0) (xs 1) (xs 2) (xs 3) (xs 4) (xs 5) H.size) (cwV 5 hts (gdV (List.mem_of_getElem? (i := 2154) (by decide +kernel)) (List.mem_of_getElem? (i := 2155) (by decide +kernel)) (List.mem_of_getElem? (i := 2156) (by decide +kernel)) (List.mem_of_getElem? (i := 171) (by decide +kernel)) (fun w9 h9 => ⟨(in_m_feed _ h9), gd_m_feed w9 h9⟩)) rfl rfl rfl kVX13_feed ⟨Nat.le_of_ble_eq_true rfl, Nat.le_of_ble_eq_true rfl⟩) (preV_m (As := [.int (xs 1), .int (xs 2), .int (xs 3), .int (xs 4), .int (xs 5)]) hPc hB hDc rfl rfl) rfl rfl hl.1 rfl (lv_room (Nat.le_of_ble_eq_true rfl)) dL_law_203 ⟨Nat.le_of_ble_eq_true rfl, Nat.le_of_ble_eq_true rfl⟩) hS (fun q _ h => hFc q h) hFc (fun r_33 u t H1 locs ht hvm hw hB1 hz1 hk1 hS => ?_)
    obtain ⟨hP1, hD1⟩ := hB1
    rw [ht] at hP1
    obtain ⟨hP, hD⟩ := va_join (wr := []) (w1 := []) hP hD [0, 1] [] rfl rfl (by decide) (by decide) hk1 hFc hP1 hD1
    generalize H1 = H at hP hS ⊢
    have hP : va_P (gD G) vwCl [] H := hP
    have hD : va_D A [] := hD
    have hw : r_33 = 20 := hw
    refine gx_ti hw ?_
    refine W.eq (g2 := F0 m 206 ls [.int 20, .int 20]) rfl ?_
    refine lv_icmp_eq (tgt := 953) hx hb dL_law_206 (by decide) (fun _ => ?_) (fun c9 => absurd (by decide) c9)
    refine lv_iinc (v := 6) (lv' := [(3, .int 6), (2, .ref q_3), (1, .ref q_1), (0, .ref b)]) hx hb dL_law_953 hl (k := 0) rfl (by decide) (by decide) rfl (fun ls hl => ?_)
    refine lv_goto (tgt := 18) hx hb dL_law_956 (by decide) ?_
    refine lv_iload_n hx hb dL_law_18 rfl (lv_at hl 0 rfl) ?_
    refine lv_aload_n hx hb dL_law_19 rfl (lv_at hl 3 rfl) ?_
    refine va_slen hx hb hX hbl hbA hS dL_law_20 ?_
    refine gx_ti (y := 6) (by decide) ?_
    refine lv_bipush (v := 6) hx hb dL_law_21 (by decide) ?_
    refine lv_isub hx hb dL_law_23 ?_
    refine gx_ti (y := 0) (by decide) ?_
    refine lv_icmp_gt (tgt := 959) hx hb dL_law_24 (by decide) (fun _ => ?_) (fun c9 => absurd (by decide) c9)
    refine lv_iconst (v := 1) hx hb dL_law_959 (by decide) ?_
    refine va_forget (fun q hq => hAl q.base (hS.2.2 q hq)) ?_
    refine W.widen (k := 600002) (n := 7302232) (Nat.le_of_ble_eq_true rfl) (Nat.le_of_ble_eq_true rfl) ?_
    exact lw_ret hx hb hr hlocks dL_law_960
  · refine lv_tableIn (off := 178) (tgt := 211) hx hb dL_law_33 (by rw [c_8]; decide) (by rw [c_8]; decide) (by rw [c_8]; rfl) (by decide) ?_
    have hP := hP.sub (ws' := [(q_1, .inr (12, [.ref bk, .ref tp, .ref ps, .ref rl, u1, .ref bd, .ref fr, u2, .ref pn, .ref nl, u3])), (tp, .inr (11, [.ref ty, .int 0, .int 0, .int 0, .int 0, .int 0])), (q_3, .inr (14, [.ref (Q 0), .ref (Q 1), .int 0, .int 0, .int 10, .ref (Q 5), .ref (Q 6), .ref (Q 7), .ref (Q 8), .ref (Q 9), .ref (Q 10), .ref (Q 11), .ref (Q 12), .ref (Q 13), .ref (Q 14), .ref (Q 15), .ref (Q 16), .ref (Q 17), .ref (Q 18), .ref (Q 19), .ref (Q 20), .ref (Q 21), .ref (Q 22), .ref (Q 23), .ref (Q 24), .ref (Q 25), .ref (Q 26), .int 0, .int 0, .int 0, .int 0, .int 0, .ref (Q 32), .ref (Q 33), .ref (Q 34), .ref (Q 35), .ref (Q 36), .ref (Q 37), .ref (Q 38), .ref (Q 39), .ref (Q 40), .ref (Q 40), .int 0, .int 0, .int 0, .int 0, .int 0, .int 0, .int 0, .int 0, .int (-1), .int 0, .ref (Q 52), .int 0, .ref (Q 54), .int 0, .ref (Q 56), .ref (Q 57), .ref (Q 58), .ref (Q 59), .ref (Q 60), .ref (Q 61), .ref (Q 62), .ref (Q 63), .ref (Q 64), .ref (Q 65), .ref (Q 66), .ref (Q 67), .ref (Q 68), .int 0, .ref (Q 70), .ref (Q 71)]))]) [0, 9, 27] rfl
    have hD := hD.sub (ws' := [(q_1, .inr (12, [.ref bk, .ref tp, .ref ps, .ref rl, u1, .ref bd, .ref fr, u2, .ref pn, .ref nl, u3])), (tp, .inr (11, [.ref ty, .int 0, .int 0, .int 0, .int 0, .int 0])), (q_3, .inr (14, [.ref (Q 0), .ref (Q 1), .int 0, .int 0, .int 10, .ref (Q 5), .ref (Q 6), .ref (Q 7), .ref (Q 8), .ref (Q 9), .ref (Q 10), .ref (Q 11), .ref (Q 12), .ref (Q 13), .ref (Q 14), .ref (Q 15), .ref (Q 16), .ref (Q 17), .ref (Q 18), .ref (Q 19), .ref (Q 20), .ref (Q 21), .ref (Q 22), .ref (Q 23), .ref (Q 24), .ref (Q 25), .ref (Q 26), .int 0, .int 0, .int 0, .int 0, .int 0, .ref (Q 32), .ref (Q 33), .ref (Q 34), .ref (Q 35), .ref (Q 36), .ref (Q 37), .ref (Q 38), .ref (Q 39), .ref (Q 40), .ref (Q 40), .int 0, .int 0, .int 0, .int 0, .int 0, .int 0, .int 0, .int 0, .int (-1), .int 0, .ref (Q 52), .int 0, .ref (Q 54), .int 0, .ref (Q 56), .ref (Q 57), .ref (Q 58), .ref (Q 59), .ref (Q 60), .ref (Q 61), .ref (Q 62), .ref (Q 63), .ref (Q 64), .ref (Q 65), .ref (Q 66), .ref (Q 67), .ref (Q 68), .int 0, .ref (Q 70), .ref (Q 71)]))]) [0, 9, 27] (by decide) rfl
    refine lv_aload_n hx hb dL_law_211 rfl (lv_at hl 2 rfl) ?_
    refine lv_aload_n hx hb dL_law_212 rfl (lv_at hl 3 rfl) ?_
    refine lv_iload_n hx hb dL_law_213 rfl (lv_at hl 0 rfl) ?_
    refine lv_iconst (v := 1) hx hb dL_law_214 (by decide) ?_
    refine lv_iadd hx hb dL_law_215 ?_
    refine gx_ti (y := 1) (by decide) ?_
    refine va_sld hx hb hX hbl hbA hS (i := 1) (gx_in (by decide)) dL_law_216 ?_
    refine gx_ti (y := xs 1) rfl ?_
    have hPc := hP.sub (ws' := [(q_1, .inr (12, [.ref bk, .ref tp, .ref ps, .ref rl, u1, .ref bd, .ref fr, u2, .ref pn, .ref nl, u3])), (tp, .inr (11, [.ref ty, .int 0, .int 0, .int 0, .int 0, .int 0]))]) [0, 1] rfl
    have hDc := hD.sub (ws' := [(q_1, .inr (12, [.ref bk, .ref tp, .ref ps, .ref rl, u1, .ref bd, .ref fr, u2, .ref pn, .ref nl, u3])), (tp, .inr (11, [.ref ty, .int 0, .int 0, .int 0, .int 0, .int 0]))]) [0, 1] (by decide) rfl
    have hFc := va_free (wc := [(q_1, .inr (12, [.ref bk, .ref tp, .ref ps, .ref rl, u1, .ref bd, .ref fr, u2, .ref pn, .ref nl, u3])), (tp, .inr (11, [.ref ty, .int 0, .int 0, .int 0, .int 0, .int 0]))]) hD hS hA [0, 1] rfl
    refine va_calli (va_runV (As := [.int (xs 1)]) (rest := []) ⟨hx, hb, hml, hown, hts⟩ (q_end l G q_1 bk tp ps rl u1 bd fr u2 pn nl u3 ty (xs 1) H.size) (cwV 1 hts (gdV (List.mem_of_getElem? (i := 601) (by decide +kernel)) (List.mem_of_getElem? (i := 602) (by decide +kernel)) (List.mem_of_getElem? (i := 603) (by decide +kernel)) (List.mem_of_getElem? (i := 154) (by decide +kernel)) (fun w9 h9 => ⟨(in_q_end _ h9), gd_q_end w9 h9⟩)) rfl rfl rfl kVX11_end ⟨Nat.le_of_ble_eq_true rfl, Nat.le_of_ble_eq_true rfl⟩) (preV_m (As := [.int (xs 1)]) hPc hB hDc rfl rfl) rfl rfl hl.1 rfl (lv_room (Nat.le_of_ble_eq_true rfl)) dL_law_217 ⟨Nat.le_of_ble_eq_true rfl, Nat.le_of_ble_eq_true rfl⟩) hS (fun q _ h => hFc q h) hFc (fun r_34 u t H1 locs ht hvm hw hB1 hz1 hk1 hS => ?_)
    obtain ⟨hP1, hD1⟩ := hB1
    rw [ht] at hP1
    obtain ⟨hP, hD⟩ := va_join (wr := [(q_3, .inr (14, [.ref (Q 0), .ref (Q 1), .int 0, .int 0, .int 10, .ref (Q 5), .ref (Q 6), .ref (Q 7), .ref (Q 8), .ref (Q 9), .ref (Q 10), .ref (Q 11), .ref (Q 12), .ref (Q 13), .ref (Q 14), .ref (Q 15), .ref (Q 16), .ref (Q 17), .ref (Q 18), .ref (Q 19), .ref (Q 20), .ref (Q 21), .ref (Q 22), .ref (Q 23), .ref (Q 24), .ref (Q 25), .ref (Q 26), .int 0, .int 0, .int 0, .int 0, .int 0, .ref (Q 32), .ref (Q 33), .ref (Q 34), .ref (Q 35), .ref (Q 36), .ref (Q 37), .ref (Q 38), .ref (Q 39), .ref (Q 40), .ref (Q 40), .int 0, .int 0, .int 0, .int 0, .int 0, .int 0, .int 0, .int 0, .int (-1), .int 0, .ref (Q 52), .int 0, .ref (Q 54), .int 0, .ref (Q 56), .ref (Q 57), .ref (Q 58), .ref (Q 59), .ref (Q 60), .ref (Q 61), .ref (Q 62), .ref (Q 63), .ref (Q 64), .ref (Q 65), .ref (Q 66), .ref (Q 67), .ref (Q 68), .int 0, .ref (Q 70), .ref (Q 71)]))]) (w1 := []) hP hD [0, 1] [2] rfl rfl (by decide) (by decide) hk1 hFc hP1 hD1
    generalize H1 = H at hP hS ⊢
    have hP : va_P (gD G) vwCl [(q_3, .inr (14, [.ref (Q 0), .ref (Q 1), .int 0, .int 0, .int 10, .ref (Q 5), .ref (Q 6), .ref (Q 7), .ref (Q 8), .ref (Q 9), .ref (Q 10), .ref (Q 11), .ref (Q 12), .ref (Q 13), .ref (Q 14), .ref (Q 15), .ref (Q 16), .ref (Q 17), .ref (Q 18), .ref (Q 19), .ref (Q 20), .ref (Q 21), .ref (Q 22), .ref (Q 23), .ref (Q 24), .ref (Q 25), .ref (Q 26), .int 0, .int 0, .int 0, .int 0, .int 0, .ref (Q 32), .ref (Q 33), .ref (Q 34), .ref (Q 35), .ref (Q 36), .ref (Q 37), .ref (Q 38), .ref (Q 39), .ref (Q 40), .ref (Q 40), .int 0, .int 0, .int 0, .int 0, .int 0, .int 0, .int 0, .int 0, .int (-1), .int 0, .ref (Q 52), .int 0, .ref (Q 54), .int 0, .ref (Q 56), .ref (Q 57), .ref (Q 58), .ref (Q 59), .ref (Q 60), .ref (Q 61), .ref (Q 62), .ref (Q 63), .ref (Q 64), .ref (Q 65), .ref (Q 66), .ref (Q 67), .ref (Q 68), .int 0, .ref (Q 70), .ref (Q 71)]))] H := hP
    have hD : va_D A [(q_3, .inr (14, [.ref (Q 0), .ref (Q 1), .int 0, .int 0, .int 10, .ref (Q 5), .ref (Q 6), .ref (Q 7), .ref (Q 8), .ref (Q 9), .ref (Q 10), .ref (Q 11), .ref (Q 12), .ref (Q 13), .ref (Q 14), .ref (Q 15), .ref (Q 16), .ref (Q 17), .ref (Q 18), .ref (Q 19), .ref (Q 20), .ref (Q 21), .ref (Q 22), .ref (Q 23), .ref (Q 24), .ref (Q 25), .ref (Q 26), .int 0, .int 0, .int 0, .int 0, .int 0, .ref (Q 32), .ref (Q 33), .ref (Q 34), .ref (Q 35), .ref (Q 36), .ref (Q 37), .ref (Q 38), .ref (Q 39), .ref (Q 40), .ref (Q 40), .int 0, .int 0, .int 0, .int 0, .int 0, .int 0, .int 0, .int 0, .int (-1), .int 0, .ref (Q 52), .int 0, .ref (Q 54), .int 0, .ref (Q 56), .ref (Q 57), .ref (Q 58), .ref (Q 59), .ref (Q 60), .ref (Q 61), .ref (Q 62), .ref (Q 63), .ref (Q 64), .ref (Q 65), .ref (Q 66), .ref (Q 67), .ref (Q 68), .int 0, .ref (Q 70), .ref (Q 71)]))] := hD
    have hw : r_34 = (if (xs 1) = 0 then 0 else (-1)) := hw
    refine gx_ti hw ?_
    refine W.eq (g2 := F0 m 220 ls [.int (if (xs 1) = 0 then 0 else (-1))]) rfl ?_
    refine lv_aload_n hx hb dL_law_220 rfl (lv_at hl 1 rfl) ?_
    refine lv_aload_n hx hb dL_law_221 rfl (lv_at hl 3 rfl) ?_
    refine lv_iload_n hx hb dL_law_222 rfl (lv_at hl 0 rfl) ?_
    refine lv_iconst (v := 1) hx hb dL_law_223 (by decide) ?_
    refine lv_iadd hx hb dL_law_224 ?_
    refine gx_ti (y := 1) (by decide) ?_
    refine va_sld hx hb hX hbl hbA hS (i := 1) (gx_in (by decide)) dL_law_225 ?_
    refine gx_ti (y := xs 1) rfl ?_
    have hPc := hP.sub (ws' := [(q_3, .inr (14, [.ref (Q 0), .ref (Q 1), .int 0, .int 0, .int 10, .ref (Q 5), .ref (Q 6), .ref (Q 7), .ref (Q 8), .ref (Q 9), .ref (Q 10), .ref (Q 11), .ref (Q 12), .ref (Q 13), .ref (Q 14), .ref (Q 15), .ref (Q 16), .ref (Q 17), .ref (Q 18), .ref (Q 19), .ref (Q 20), .ref (Q 21), .ref (Q 22), .ref (Q 23), .ref (Q 24), .ref (Q 25), .ref (Q 26), .int 0, .int 0, .int 0, .int 0, .int 0, .ref (Q 32), .ref (Q 33), .ref (Q 34), .ref (Q 35), .ref (Q 36), .ref (Q 37), .ref (Q 38), .ref (Q 39), .ref (Q 40), .ref (Q 40), .int 0, .int 0, .int 0, .int 0, .int 0, .int 0, .int 0, .int 0, .int (-1), .int 0, .ref (Q 52), .int 0, .ref (Q 54), .int 0, .ref (Q 56), .ref (Q 57), .ref (Q 58), .ref (Q 59), .ref (Q 60), .ref (Q 61), .ref (Q 62), .ref (Q 63), .ref (Q 64), .ref (Q 65), .ref (Q 66), .ref (Q 67), .ref (Q 68), .int 0, .ref (Q 70), .ref (Q 71)]))]) [0] rfl
    have hDc := hD.sub (ws' := [(q_3, .inr (14, [.ref (Q 0), .ref (Q 1), .int 0, .int 0, .int 10, .ref (Q 5), .ref (Q 6), .ref (Q 7), .ref (Q 8), .ref (Q 9), .ref (Q 10), .ref (Q 11), .ref (Q 12), .ref (Q 13), .ref (Q 14), .ref (Q 15), .ref (Q 16), .ref (Q 17), .ref (Q 18), .ref (Q 19), .ref (Q 20), .ref (Q 21), .ref (Q 22), .ref (Q 23), .ref (Q 24), .ref (Q 25), .ref (Q 26), .int 0, .int 0, .int 0, .int 0, .int 0, .ref (Q 32), .ref (Q 33), .ref (Q 34), .ref (Q 35), .ref (Q 36), .ref (Q 37), .ref (Q 38), .ref (Q 39), .ref (Q 40), .ref (Q 40), .int 0, .int 0, .int 0, .int 0, .int 0, .int 0, .int 0, .int 0, .int (-1), .int 0, .ref (Q 52), .int 0, .ref (Q 54), .int 0, .ref (Q 56), .ref (Q 57), .ref (Q 58), .ref (Q 59), .ref (Q 60), .ref (Q 61), .ref (Q 62), .ref (Q 63), .ref (Q 64), .ref (Q 65), .ref (Q 66), .ref (Q 67), .ref (Q 68), .int 0, .ref (Q 70), .ref (Q 71)]))]) [0] (by decide) rfl
    have hFc := va_free (wc := [(q_3, .inr (14, [.ref (Q 0), .ref (Q 1), .int 0, .int 0, .int 10, .ref (Q 5), .ref (Q 6), .ref (Q 7), .ref (Q 8), .ref (Q 9), .ref (Q 10), .ref (Q 11), .ref (Q 12), .ref (Q 13), .ref (Q 14), .ref (Q 15), .ref (Q 16), .ref (Q 17), .ref (Q 18), .ref (Q 19), .ref (Q 20), .ref (Q 21), .ref (Q 22), .ref (Q 23), .ref (Q 24), .ref (Q 25), .ref (Q 26), .int 0, .int 0, .int 0, .int 0, .int 0, .ref (Q 32), .ref (Q 33), .ref (Q 34), .ref (Q 35), .ref (Q 36), .ref (Q 37), .ref (Q 38), .ref (Q 39), .ref (Q 40), .ref (Q 40), .int 0, .int 0, .int 0, .int 0, .int 0, .int 0, .int 0, .int 0, .int (-1), .int 0, .ref (Q 52), .int 0, .ref (Q 54), .int 0, .ref (Q 56), .ref (Q 57), .ref (Q 58), .ref (Q 59), .ref (Q 60), .ref (Q 61), .ref (Q 62), .ref (Q 63), .ref (Q 64), .ref (Q 65), .ref (Q 66), .ref (Q 67), .ref (Q 68), .int 0, .ref (Q 70), .ref (Q 71)]))]) hD hS hA [0] rfl
    refine va_calli (va_runV (As := [.int (xs 1)]) (rest := [.int (if (xs 1) = 0 then 0 else (-1))]) ⟨hx, hb, hml, hown, hts⟩ (m_end l G q_3 Q (xs 1) H.size) (cwV 1 hts (gdV (List.mem_of_getElem? (i := 2162) (by decide +kernel)) (List.mem_of_getElem? (i := 2163) (by decide +kernel)) (List.mem_of_getElem? (i := 2164) (by decide +kernel)) (List.mem_of_getElem? (i := 171) (by decide +kernel)) (fun w9 h9 => ⟨(in_m_end _ h9), gd_m_end w9 h9⟩)) rfl rfl rfl kVX13_end ⟨Nat.le_of_ble_eq_true rfl, Nat.le_of_ble_eq_true rfl⟩) (preV_m (As := [.int (xs 1)]) hPc hB hDc rfl rfl) rfl rfl hl.1 rfl (lv_room (Nat.le_of_ble_eq_true rfl)) dL_law_226 ⟨Nat.le_of_ble_eq_true rfl, Nat.le_of_ble_eq_true rfl⟩) hS (fun q _ h => hFc q h) hFc (fun r_35 u t H1 locs ht hvm hw hB1 hz1 hk1 hS => ?_)
    obtain ⟨hP1, hD1⟩ := hB1
    rw [ht] at hP1
    obtain ⟨hP, hD⟩ := va_join (wr := []) (w1 := []) hP hD [0] [] rfl rfl (by decide) (by decide) hk1 hFc hP1 hD1
    generalize H1 = H at hP hS ⊢
    have hP : va_P (gD G) vwCl [] H := hP
    have hD : va_D A [] := hD
    have hw : r_35 = (if (xs 1) = 0 then 0 else (-1)) := hw
    refine gx_ti hw ?_
    refine W.eq (g2 := F0 m 229 ls [.int (if (xs 1) = 0 then 0 else (-1)), .int (if (xs 1) = 0 then 0 else (-1))]) rfl ?_
    refine lv_icmp_eq (tgt := 953) hx hb dL_law_229 (by decide) (fun _ => ?_) (fun c9 => absurd rfl c9)
    refine lv_iinc (v := 6) (lv' := [(3, .int 6), (2, .ref q_3), (1, .ref q_1), (0, .ref b)]) hx hb dL_law_953 hl (k := 0) rfl (by decide) (by decide) rfl (fun ls hl => ?_)
    refine lv_goto (tgt := 18) hx hb dL_law_956 (by decide) ?_
    refine lv_iload_n hx hb dL_law_18 rfl (lv_at hl 0 rfl) ?_
    refine lv_aload_n hx hb dL_law_19 rfl (lv_at hl 3 rfl) ?_
    refine va_slen hx hb hX hbl hbA hS dL_law_20 ?_
    refine gx_ti (y := 6) (by decide) ?_
    refine lv_bipush (v := 6) hx hb dL_law_21 (by decide) ?_
    refine lv_isub hx hb dL_law_23 ?_
    refine gx_ti (y := 0) (by decide) ?_
    refine lv_icmp_gt (tgt := 959) hx hb dL_law_24 (by decide) (fun _ => ?_) (fun c9 => absurd (by decide) c9)
    refine lv_iconst (v := 1) hx hb dL_law_959 (by decide) ?_
    refine va_forget (fun q hq => hAl q.base (hS.2.2 q hq)) ?_
    refine W.widen (k := 600002) (n := 7302232) (Nat.le_of_ble_eq_true rfl) (Nat.le_of_ble_eq_true rfl) ?_
    exact lw_ret hx hb hr hlocks dL_law_960
  · refine lv_tableIn (off := 201) (tgt := 234) hx hb dL_law_33 (by rw [c_9]; decide) (by rw [c_9]; decide) (by rw [c_9]; rfl) (by decide) ?_
    have hP := hP.sub (ws' := [(q_1, .inr (12, [.ref bk, .ref tp, .ref ps, .ref rl, u1, .ref bd, .ref fr, u2, .ref pn, .ref nl, u3])), (bk, .inr (2, [.ref ca, .ref bc, .ref bb, .ref bs, .int 0, .int 0])), (ca, .inl (gI G, 2088, .inl bk0)), (tp, .inr (11, [.ref ty, .int 0, .int 0, .int 0, .int 0, .int 0])), (ps, .inr (6, [.ref tp, p1, p2, p3, .ref dr, .int 0, .int 0, .int 0, .int (-1), .int 0, .int 0, .int 0, .int 0, .int 0])), (dr, .inr (5, [.int 0, .int 0, .int 0, .int 0, .int 0, .int 0, p4, p5, p6])), (fr, .inr (4, [.ref bk, .ref bd, f1, .int 0])), (q_3, .inr (14, [.ref (Q 0), .ref (Q 1), .int 0, .int 0, .int 10, .ref (Q 5), .ref (Q 6), .ref (Q 7), .ref (Q 8), .ref (Q 9), .ref (Q 10), .ref (Q 11), .ref (Q 12), .ref (Q 13), .ref (Q 14), .ref (Q 15), .ref (Q 16), .ref (Q 17), .ref (Q 18), .ref (Q 19), .ref (Q 20), .ref (Q 21), .ref (Q 22), .ref (Q 23), .ref (Q 24), .ref (Q 25), .ref (Q 26), .int 0, .int 0, .int 0, .int 0, .int 0, .ref (Q 32), .ref (Q 33), .ref (Q 34), .ref (Q 35), .ref (Q 36), .ref (Q 37), .ref (Q 38), .ref (Q 39), .ref (Q 40), .ref (Q 40), .int 0, .int 0, .int 0, .int 0, .int 0, .int 0, .int 0, .int 0, .int (-1), .int 0, .ref (Q 52), .int 0, .ref (Q 54), .int 0, .ref (Q 56), .ref (Q 57), .ref (Q 58), .ref (Q 59), .ref (Q 60), .ref (Q 61), .ref (Q 62), .ref (Q 63), .ref (Q 64), .ref (Q 65), .ref (Q 66), .ref (Q 67), .ref (Q 68), .int 0, .ref (Q 70), .ref (Q 71)])), (Q 22, .inl (gI G, 4, .inl moOn)), (Q 39, .inr (13, [.null, .null, .null, .null, .null, .int 0]))]) [0, 1, 2, 9, 12, 13, 16, 27, 47, 48] rfl
    have hD := hD.sub (ws' := [(q_1, .inr (12, [.ref bk, .ref tp, .ref ps, .ref rl, u1, .ref bd, .ref fr, u2, .ref pn, .ref nl, u3])), (bk, .inr (2, [.ref ca, .ref bc, .ref bb, .ref bs, .int 0, .int 0])), (ca, .inl (gI G, 2088, .inl bk0)), (tp, .inr (11, [.ref ty, .int 0, .int 0, .int 0, .int 0, .int 0])), (ps, .inr (6, [.ref tp, p1, p2, p3, .ref dr, .int 0, .int 0, .int 0, .int (-1), .int 0, .int 0, .int 0, .int 0, .int 0])), (dr, .inr (5, [.int 0, .int 0, .int 0, .int 0, .int 0, .int 0, p4, p5, p6])), (fr, .inr (4, [.ref bk, .ref bd, f1, .int 0])), (q_3, .inr (14, [.ref (Q 0), .ref (Q 1), .int 0, .int 0, .int 10, .ref (Q 5), .ref (Q 6), .ref (Q 7), .ref (Q 8), .ref (Q 9), .ref (Q 10), .ref (Q 11), .ref (Q 12), .ref (Q 13), .ref (Q 14), .ref (Q 15), .ref (Q 16), .ref (Q 17), .ref (Q 18), .ref (Q 19), .ref (Q 20), .ref (Q 21), .ref (Q 22), .ref (Q 23), .ref (Q 24), .ref (Q 25), .ref (Q 26), .int 0, .int 0, .int 0, .int 0, .int 0, .ref (Q 32), .ref (Q 33), .ref (Q 34), .ref (Q 35), .ref (Q 36), .ref (Q 37), .ref (Q 38), .ref (Q 39), .ref (Q 40), .ref (Q 40), .int 0, .int 0, .int 0, .int 0, .int 0, .int 0, .int 0, .int 0, .int (-1), .int 0, .ref (Q 52), .int 0, .ref (Q 54), .int 0, .ref (Q 56), .ref (Q 57), .ref (Q 58), .ref (Q 59), .ref (Q 60), .ref (Q 61), .ref (Q 62), .ref (Q 63), .ref (Q 64), .ref (Q 65), .ref (Q 66), .ref (Q 67), .ref (Q 68), .int 0, .ref (Q 70), .ref (Q 71)])), (Q 22, .inl (gI G, 4, .inl moOn)), (Q 39, .inr (13, [.null, .null, .null, .null, .null, .int 0]))]) [0, 1, 2, 9, 12, 13, 16, 27, 47, 48] (by decide) rfl
    refine lv_aload_n hx hb dL_law_234 rfl (lv_at hl 2 rfl) ?_
    have hPc := hP.sub (ws' := [(q_1, .inr (12, [.ref bk, .ref tp, .ref ps, .ref rl, u1, .ref bd, .ref fr, u2, .ref pn, .ref nl, u3])), (fr, .inr (4, [.ref bk, .ref bd, f1, .int 0])), (ps, .inr (6, [.ref tp, p1, p2, p3, .ref dr, .int 0, .int 0, .int 0, .int (-1), .int 0, .int 0, .int 0, .int 0, .int 0])), (tp, .inr (11, [.ref ty, .int 0, .int 0, .int 0, .int 0, .int 0])), (dr, .inr (5, [.int 0, .int 0, .int 0, .int 0, .int 0, .int 0, p4, p5, p6])), (bk, .inr (2, [.ref ca, .ref bc, .ref bb, .ref bs, .int 0, .int 0])), (ca, .inl (gI G, 2088, .inl bk0))]) [0, 6, 4, 3, 5, 1, 2] rfl
    have hDc := hD.sub (ws' := [(q_1, .inr (12, [.ref bk, .ref tp, .ref ps, .ref rl, u1, .ref bd, .ref fr, u2, .ref pn, .ref nl, u3])), (fr, .inr (4, [.ref bk, .ref bd, f1, .int 0])), (ps, .inr (6, [.ref tp, p1, p2, p3, .ref dr, .int 0, .int 0, .int 0, .int (-1), .int 0, .int 0, .int 0, .int 0, .int 0])), (tp, .inr (11, [.ref ty, .int 0, .int 0, .int 0, .int 0, .int 0])), (dr, .inr (5, [.int 0, .int 0, .int 0, .int 0, .int 0, .int 0, p4, p5, p6])), (bk, .inr (2, [.ref ca, .ref bc, .ref bb, .ref bs, .int 0, .int 0])), (ca, .inl (gI G, 2088, .inl bk0))]) [0, 6, 4, 3, 5, 1, 2] (by decide) rfl
    have hFc := va_free (wc := [(q_1, .inr (12, [.ref bk, .ref tp, .ref ps, .ref rl, u1, .ref bd, .ref fr, u2, .ref pn, .ref nl, u3])), (fr, .inr (4, [.ref bk, .ref bd, f1, .int 0])), (ps, .inr (6, [.ref tp, p1, p2, p3, .ref dr, .int 0, .int 0, .int 0, .int (-1), .int 0, .int 0, .int 0, .int 0, .int 0])), (tp, .inr (11, [.ref ty, .int 0, .int 0, .int 0, .int 0, .int 0])), (dr, .inr (5, [.int 0, .int 0, .int 0, .int 0, .int 0, .int 0, p4, p5, p6])), (bk, .inr (2, [.ref ca, .ref bc, .ref bb, .ref bs, .int 0, .int 0])), (ca, .inl (gI G, 2088, .inl bk0))]) hD hS hA [0, 6, 4, 3, 5, 1, 2] rfl
    refine va_calli (va_runV (As := []) (rest := []) ⟨hx, hb, hml, hown, hts⟩ (q_laws l G Z q_1 bk tp ps rl u1 bd fr u2 pn nl u3 f1 p1 p2 p3 dr ty p4 p5 p6 ca bc bb bs H.size) (cwV 0 hts (gdV (List.mem_of_getElem? (i := 605) (by decide +kernel)) (List.mem_of_getElem? (i := 606) (by decide +kernel)) (List.mem_of_getElem? (i := 607) (by decide +kernel)) (List.mem_of_getElem? (i := 154) (by decide +kernel)) (fun w9 h9 => ⟨(in_q_laws _ h9), gd_q_laws w9 h9⟩)) rfl rfl rfl kVX11_laws ⟨Nat.le_of_ble_eq_true rfl, Nat.le_of_ble_eq_true rfl⟩) (preV_e (As := []) hPc hB hDc ((hE.kept hS.2.1).narrow hFc) rfl rfl) rfl rfl hl.1 rfl (lv_room (Nat.le_of_ble_eq_true rfl)) dL_law_235 ⟨Nat.le_of_ble_eq_true rfl, Nat.le_of_ble_eq_true rfl⟩) hS (fun q _ h => hFc q h) hFc (fun r_36 u t H1 locs ht hvm hw hB1 hz1 hk1 hS => ?_)
    obtain ⟨hP1, hD1⟩ := hB1
    rw [ht] at hP1
    obtain ⟨hP, hD⟩ := va_join (wr := [(q_3, .inr (14, [.ref (Q 0), .ref (Q 1), .int 0, .int 0, .int 10, .ref (Q 5), .ref (Q 6), .ref (Q 7), .ref (Q 8), .ref (Q 9), .ref (Q 10), .ref (Q 11), .ref (Q 12), .ref (Q 13), .ref (Q 14), .ref (Q 15), .ref (Q 16), .ref (Q 17), .ref (Q 18), .ref (Q 19), .ref (Q 20), .ref (Q 21), .ref (Q 22), .ref (Q 23), .ref (Q 24), .ref (Q 25), .ref (Q 26), .int 0, .int 0, .int 0, .int 0, .int 0, .ref (Q 32), .ref (Q 33), .ref (Q 34), .ref (Q 35), .ref (Q 36), .ref (Q 37), .ref (Q 38), .ref (Q 39), .ref (Q 40), .ref (Q 40), .int 0, .int 0, .int 0, .int 0, .int 0, .int 0, .int 0, .int 0, .int (-1), .int 0, .ref (Q 52), .int 0, .ref (Q 54), .int 0, .ref (Q 56), .ref (Q 57), .ref (Q 58), .ref (Q 59), .ref (Q 60), .ref (Q 61), .ref (Q 62), .ref (Q 63), .ref (Q 64), .ref (Q 65), .ref (Q 66), .ref (Q 67), .ref (Q 68), .int 0, .ref (Q 70), .ref (Q 71)])), (Q 22, .inl (gI G, 4, .inl moOn)), (Q 39, .inr (13, [.null, .null, .null, .null, .null, .int 0]))]) (w1 := []) hP hD [0, 6, 4, 3, 5, 1, 2] [7, 8, 9] rfl rfl (by decide) (by decide) hk1 hFc hP1 hD1
    generalize H1 = H at hP hS ⊢
    have hP : va_P (gD G) vwCl [(q_3, .inr (14, [.ref (Q 0), .ref (Q 1), .int 0, .int 0, .int 10, .ref (Q 5), .ref (Q 6), .ref (Q 7), .ref (Q 8), .ref (Q 9), .ref (Q 10), .ref (Q 11), .ref (Q 12), .ref (Q 13), .ref (Q 14), .ref (Q 15), .ref (Q 16), .ref (Q 17), .ref (Q 18), .ref (Q 19), .ref (Q 20), .ref (Q 21), .ref (Q 22), .ref (Q 23), .ref (Q 24), .ref (Q 25), .ref (Q 26), .int 0, .int 0, .int 0, .int 0, .int 0, .ref (Q 32), .ref (Q 33), .ref (Q 34), .ref (Q 35), .ref (Q 36), .ref (Q 37), .ref (Q 38), .ref (Q 39), .ref (Q 40), .ref (Q 40), .int 0, .int 0, .int 0, .int 0, .int 0, .int 0, .int 0, .int 0, .int (-1), .int 0, .ref (Q 52), .int 0, .ref (Q 54), .int 0, .ref (Q 56), .ref (Q 57), .ref (Q 58), .ref (Q 59), .ref (Q 60), .ref (Q 61), .ref (Q 62), .ref (Q 63), .ref (Q 64), .ref (Q 65), .ref (Q 66), .ref (Q 67), .ref (Q 68), .int 0, .ref (Q 70), .ref (Q 71)])), (Q 22, .inl (gI G, 4, .inl moOn)), (Q 39, .inr (13, [.null, .null, .null, .null, .null, .int 0]))] H := hP
    have hD : va_D A [(q_3, .inr (14, [.ref (Q 0), .ref (Q 1), .int 0, .int 0, .int 10, .ref (Q 5), .ref (Q 6), .ref (Q 7), .ref (Q 8), .ref (Q 9), .ref (Q 10), .ref (Q 11), .ref (Q 12), .ref (Q 13), .ref (Q 14), .ref (Q 15), .ref (Q 16), .ref (Q 17), .ref (Q 18), .ref (Q 19), .ref (Q 20), .ref (Q 21), .ref (Q 22), .ref (Q 23), .ref (Q 24), .ref (Q 25), .ref (Q 26), .int 0, .int 0, .int 0, .int 0, .int 0, .ref (Q 32), .ref (Q 33), .ref (Q 34), .ref (Q 35), .ref (Q 36), .ref (Q 37), .ref (Q 38), .ref (Q 39), .ref (Q 40), .ref (Q 40), .int 0, .int 0, .int 0, .int 0, .int 0, .int 0, .int 0, .int 0, .int (-1), .int 0, .ref (Q 52), .int 0, .ref (Q 54), .int 0, .ref (Q 56), .ref (Q 57), .ref (Q 58), .ref (Q 59), .ref (Q 60), .ref (Q 61), .ref (Q 62), .ref (Q 63), .ref (Q 64), .ref (Q 65), .ref (Q 66), .ref (Q 67), .ref (Q 68), .int 0, .ref (Q 70), .ref (Q 71)])), (Q 22, .inl (gI G, 4, .inl moOn)), (Q 39, .inr (13, [.null, .null, .null, .null, .null, .int 0]))] := hD
    have hw : r_36 = (-1) := hw
    refine gx_ti hw ?_
    refine W.eq (g2 := F0 m 238 ls [.int (-1)]) rfl ?_
    refine lv_aload_n hx hb dL_law_238 rfl (lv_at hl 1 rfl) ?_
    have hPc := hP.sub (ws' := [(q_3, .inr (14, [.ref (Q 0), .ref (Q 1), .int 0, .int 0, .int 10, .ref (Q 5), .ref (Q 6), .ref (Q 7), .ref (Q 8), .ref (Q 9), .ref (Q 10), .ref (Q 11), .ref (Q 12), .ref (Q 13), .ref (Q 14), .ref (Q 15), .ref (Q 16), .ref (Q 17), .ref (Q 18), .ref (Q 19), .ref (Q 20), .ref (Q 21), .ref (Q 22), .ref (Q 23), .ref (Q 24), .ref (Q 25), .ref (Q 26), .int 0, .int 0, .int 0, .int 0, .int 0, .ref (Q 32), .ref (Q 33), .ref (Q 34), .ref (Q 35), .ref (Q 36), .ref (Q 37), .ref (Q 38), .ref (Q 39), .ref (Q 40), .ref (Q 40), .int 0, .int 0, .int 0, .int 0, .int 0, .int 0, .int 0, .int 0, .int (-1), .int 0, .ref (Q 52), .int 0, .ref (Q 54), .int 0, .ref (Q 56), .ref (Q 57), .ref (Q 58), .ref (Q 59), .ref (Q 60), .ref (Q 61), .ref (Q 62), .ref (Q 63), .ref (Q 64), .ref (Q 65), .ref (Q 66), .ref (Q 67), .ref (Q 68), .int 0, .ref (Q 70), .ref (Q 71)])), (Q 22, .inl (gI G, 4, .inl moOn)), (Q 39, .inr (13, [.null, .null, .null, .null, .null, .int 0]))]) [0, 1, 2] rfl
    have hDc := hD.sub (ws' := [(q_3, .inr (14, [.ref (Q 0), .ref (Q 1), .int 0, .int 0, .int 10, .ref (Q 5), .ref (Q 6), .ref (Q 7), .ref (Q 8), .ref (Q 9), .ref (Q 10), .ref (Q 11), .ref (Q 12), .ref (Q 13), .ref (Q 14), .ref (Q 15), .ref (Q 16), .ref (Q 17), .ref (Q 18), .ref (Q 19), .ref (Q 20), .ref (Q 21), .ref (Q 22), .ref (Q 23), .ref (Q 24), .ref (Q 25), .ref (Q 26), .int 0, .int 0, .int 0, .int 0, .int 0, .ref (Q 32), .ref (Q 33), .ref (Q 34), .ref (Q 35), .ref (Q 36), .ref (Q 37), .ref (Q 38), .ref (Q 39), .ref (Q 40), .ref (Q 40), .int 0, .int 0, .int 0, .int 0, .int 0, .int 0, .int 0, .int 0, .int (-1), .int 0, .ref (Q 52), .int 0, .ref (Q 54), .int 0, .ref (Q 56), .ref (Q 57), .ref (Q 58), .ref (Q 59), .ref (Q 60), .ref (Q 61), .ref (Q 62), .ref (Q 63), .ref (Q 64), .ref (Q 65), .ref (Q 66), .ref (Q 67), .ref (Q 68), .int 0, .ref (Q 70), .ref (Q 71)])), (Q 22, .inl (gI G, 4, .inl moOn)), (Q 39, .inr (13, [.null, .null, .null, .null, .null, .int 0]))]) [0, 1, 2] (by decide) rfl
    have hFc := va_free (wc := [(q_3, .inr (14, [.ref (Q 0), .ref (Q 1), .int 0, .int 0, .int 10, .ref (Q 5), .ref (Q 6), .ref (Q 7), .ref (Q 8), .ref (Q 9), .ref (Q 10), .ref (Q 11), .ref (Q 12), .ref (Q 13), .ref (Q 14), .ref (Q 15), .ref (Q 16), .ref (Q 17), .ref (Q 18), .ref (Q 19), .ref (Q 20), .ref (Q 21), .ref (Q 22), .ref (Q 23), .ref (Q 24), .ref (Q 25), .ref (Q 26), .int 0, .int 0, .int 0, .int 0, .int 0, .ref (Q 32), .ref (Q 33), .ref (Q 34), .ref (Q 35), .ref (Q 36), .ref (Q 37), .ref (Q 38), .ref (Q 39), .ref (Q 40), .ref (Q 40), .int 0, .int 0, .int 0, .int 0, .int 0, .int 0, .int 0, .int 0, .int (-1), .int 0, .ref (Q 52), .int 0, .ref (Q 54), .int 0, .ref (Q 56), .ref (Q 57), .ref (Q 58), .ref (Q 59), .ref (Q 60), .ref (Q 61), .ref (Q 62), .ref (Q 63), .ref (Q 64), .ref (Q 65), .ref (Q 66), .ref (Q 67), .ref (Q 68), .int 0, .ref (Q 70), .ref (Q 71)])), (Q 22, .inl (gI G, 4, .inl moOn)), (Q 39, .inr (13, [.null, .null, .null, .null, .null, .int 0]))]) hD hS hA [0, 1, 2] rfl
    refine va_calli (th_runVW (As := []) (rest := [.int (-1)]) ⟨hx, hb, hml, hown, hts⟩ (m_laws l G q_3 Q sr H.size) (th_cw 0 hts (gdV (List.mem_of_getElem? (i := 2142) (by decide +kernel)) (List.mem_of_getElem? (i := 2143) (by decide +kernel)) (List.mem_of_getElem? (i := 2144) (by decide +kernel)) (List.mem_of_getElem? (i := 171) (by decide +kernel)) (fun w9 h9 => ⟨(in_m_laws _ h9), gd_m_laws w9 h9⟩)) rfl rfl rfl kVX13_laws ⟨Nat.le_of_ble_eq_true rfl, Nat.le_of_ble_eq_true rfl⟩) (preV_l (As := []) hPc hB hDc hR rfl rfl) rfl rfl hl.1 rfl (lv_room (Nat.le_of_ble_eq_true rfl)) dL_law_239 ⟨Nat.le_of_ble_eq_true rfl, Nat.le_of_ble_eq_true rfl⟩) hS (fun q _ h => hFc q h) hFc (fun r_37 u t H1 locs ht hvm hw hB1 hz1 hk1 hS => ?_)
    obtain ⟨hP1, hD1⟩ := hB1
    rw [ht] at hP1
    obtain ⟨hP, hD⟩ := va_join (wr := []) (w1 := []) hP hD [0, 1, 2] [] rfl rfl (by decide) (by decide) hk1 hFc hP1 hD1
    generalize H1 = H at hP hS ⊢
    have hP : va_P (gD G) vwCl [] H := hP
    have hD : va_D A [] := hD
    have hw : r_37 = (-1) := hw
    refine gx_ti hw ?_
    refine W.eq (g2 := F0 m 242 ls [.int (-1), .int (-1)]) rfl ?_
    refine lv_icmp_eq (tgt := 953) hx hb dL_law_242 (by decide) (fun _ => ?_) (fun c9 => absurd (by decide) c9)
    refine lv_iinc (v := 6) (lv' := [(3, .int 6), (2, .ref q_3), (1, .ref q_1), (0, .ref b)]) hx hb dL_law_953 hl (k := 0) rfl (by decide) (by decide) rfl (fun ls hl => ?_)
    refine lv_goto (tgt := 18) hx hb dL_law_956 (by decide) ?_
    refine lv_iload_n hx hb dL_law_18 rfl (lv_at hl 0 rfl) ?_
    refine lv_aload_n hx hb dL_law_19 rfl (lv_at hl 3 rfl) ?_
    refine va_slen hx hb hX hbl hbA hS dL_law_20 ?_
    refine gx_ti (y := 6) (by decide) ?_
    refine lv_bipush (v := 6) hx hb dL_law_21 (by decide) ?_
    refine lv_isub hx hb dL_law_23 ?_
    refine gx_ti (y := 0) (by decide) ?_
    refine lv_icmp_gt (tgt := 959) hx hb dL_law_24 (by decide) (fun _ => ?_) (fun c9 => absurd (by decide) c9)
    refine lv_iconst (v := 1) hx hb dL_law_959 (by decide) ?_
    refine va_forget (fun q hq => hAl q.base (hS.2.2 q hq)) ?_
    refine W.widen (k := 600002) (n := 7302232) (Nat.le_of_ble_eq_true rfl) (Nat.le_of_ble_eq_true rfl) ?_
    exact lw_ret hx hb hr hlocks dL_law_960
  · refine lv_tableIn (off := 214) (tgt := 247) hx hb dL_law_33 (by rw [c_10]; decide) (by rw [c_10]; decide) (by rw [c_10]; rfl) (by decide) ?_
    have hP := hP.sub (ws' := [(q_1, .inr (12, [.ref bk, .ref tp, .ref ps, .ref rl, u1, .ref bd, .ref fr, u2, .ref pn, .ref nl, u3])), (ps, .inr (6, [.ref tp, p1, p2, p3, .ref dr, .int 0, .int 0, .int 0, .int (-1), .int 0, .int 0, .int 0, .int 0, .int 0])), (q_3, .inr (14, [.ref (Q 0), .ref (Q 1), .int 0, .int 0, .int 10, .ref (Q 5), .ref (Q 6), .ref (Q 7), .ref (Q 8), .ref (Q 9), .ref (Q 10), .ref (Q 11), .ref (Q 12), .ref (Q 13), .ref (Q 14), .ref (Q 15), .ref (Q 16), .ref (Q 17), .ref (Q 18), .ref (Q 19), .ref (Q 20), .ref (Q 21), .ref (Q 22), .ref (Q 23), .ref (Q 24), .ref (Q 25), .ref (Q 26), .int 0, .int 0, .int 0, .int 0, .int 0, .ref (Q 32), .ref (Q 33), .ref (Q 34), .ref (Q 35), .ref (Q 36), .ref (Q 37), .ref (Q 38), .ref (Q 39), .ref (Q 40), .ref (Q 40), .int 0, .int 0, .int 0, .int 0, .int 0, .int 0, .int 0, .int 0, .int (-1), .int 0, .ref (Q 52), .int 0, .ref (Q 54), .int 0, .ref (Q 56), .ref (Q 57), .ref (Q 58), .ref (Q 59), .ref (Q 60), .ref (Q 61), .ref (Q 62), .ref (Q 63), .ref (Q 64), .ref (Q 65), .ref (Q 66), .ref (Q 67), .ref (Q 68), .int 0, .ref (Q 70), .ref (Q 71)]))]) [0, 12, 27] rfl
    have hD := hD.sub (ws' := [(q_1, .inr (12, [.ref bk, .ref tp, .ref ps, .ref rl, u1, .ref bd, .ref fr, u2, .ref pn, .ref nl, u3])), (ps, .inr (6, [.ref tp, p1, p2, p3, .ref dr, .int 0, .int 0, .int 0, .int (-1), .int 0, .int 0, .int 0, .int 0, .int 0])), (q_3, .inr (14, [.ref (Q 0), .ref (Q 1), .int 0, .int 0, .int 10, .ref (Q 5), .ref (Q 6), .ref (Q 7), .ref (Q 8), .ref (Q 9), .ref (Q 10), .ref (Q 11), .ref (Q 12), .ref (Q 13), .ref (Q 14), .ref (Q 15), .ref (Q 16), .ref (Q 17), .ref (Q 18), .ref (Q 19), .ref (Q 20), .ref (Q 21), .ref (Q 22), .ref (Q 23), .ref (Q 24), .ref (Q 25), .ref (Q 26), .int 0, .int 0, .int 0, .int 0, .int 0, .ref (Q 32), .ref (Q 33), .ref (Q 34), .ref (Q 35), .ref (Q 36), .ref (Q 37), .ref (Q 38), .ref (Q 39), .ref (Q 40), .ref (Q 40), .int 0, .int 0, .int 0, .int 0, .int 0, .int 0, .int 0, .int 0, .int (-1), .int 0, .ref (Q 52), .int 0, .ref (Q 54), .int 0, .ref (Q 56), .ref (Q 57), .ref (Q 58), .ref (Q 59), .ref (Q 60), .ref (Q 61), .ref (Q 62), .ref (Q 63), .ref (Q 64), .ref (Q 65), .ref (Q 66), .ref (Q 67), .ref (Q 68), .int 0, .ref (Q 70), .ref (Q 71)]))]) [0, 12, 27] (by decide) rfl
    refine lv_aload_n hx hb dL_law_247 rfl (lv_at hl 2 rfl) ?_
    refine lv_aload_n hx hb dL_law_248 rfl (lv_at hl 3 rfl) ?_
    refine lv_iload_n hx hb dL_law_249 rfl (lv_at hl 0 rfl) ?_
    refine lv_iconst (v := 1) hx hb dL_law_250 (by decide) ?_
    refine lv_iadd hx hb dL_law_251 ?_
    refine gx_ti (y := 1) (by decide) ?_
    refine va_sld hx hb hX hbl hbA hS (i := 1) (gx_in (by decide)) dL_law_252 ?_
    refine gx_ti (y := xs 1) rfl ?_
    refine vp_callSi (va_Run.run (va_runV (As := [.int (xs 1)]) (rest := []) ⟨hx, hb, hml, hown, hts⟩ (q_fault l G q_1 bk tp ps rl u1 bd fr u2 pn nl u3 p1 p2 p3 dr (xs 1)) (cwV 1 hts (gdV (List.mem_of_getElem? (i := 971) (by decide +kernel)) (List.mem_of_getElem? (i := 972) (by decide +kernel)) (List.mem_of_getElem? (i := 973) (by decide +kernel)) (List.mem_of_getElem? (i := 154) (by decide +kernel)) (fun w9 h9 => ⟨(in_q_fault _ h9), gd_q_fault w9 h9⟩)) rfl rfl rfl kVX11_fault ⟨Nat.le_of_ble_eq_true rfl, Nat.le_of_ble_eq_true rfl⟩) (preV_p (As := [.int (xs 1)]) (hP.sub (ws' := [(q_1, .inr (12, [.ref bk, .ref tp, .ref ps, .ref rl, u1, .ref bd, .ref fr, u2, .ref pn, .ref nl, u3])), (ps, .inr (6, [.ref tp, p1, p2, p3, .ref dr, .int 0, .int 0, .int 0, .int (-1), .int 0, .int 0, .int 0, .int 0, .int 0]))]) [0, 1] rfl) hB rfl rfl) rfl rfl hl.1 rfl (lv_room (Nat.le_of_ble_eq_true rfl)) dL_law_253 ⟨Nat.le_of_ble_eq_true rfl, Nat.le_of_ble_eq_true rfl⟩)) (fun r_38 hr_38 => ?_)
    subst hr_38
    refine lv_aload_n hx hb dL_law_256 rfl (lv_at hl 1 rfl) ?_
    refine lv_aload_n hx hb dL_law_257 rfl (lv_at hl 3 rfl) ?_
    refine lv_iload_n hx hb dL_law_258 rfl (lv_at hl 0 rfl) ?_
    refine lv_iconst (v := 1) hx hb dL_law_259 (by decide) ?_
    refine lv_iadd hx hb dL_law_260 ?_
    refine gx_ti (y := 1) (by decide) ?_
    refine va_sld hx hb hX hbl hbA hS (i := 1) (gx_in (by decide)) dL_law_261 ?_
    refine gx_ti (y := xs 1) rfl ?_
    refine vp_callSi (va_Run.run (va_runV (As := [.int (xs 1)]) (rest := [.int (if (xs 1) = 0 then 0 else (-1))]) ⟨hx, hb, hml, hown, hts⟩ (m_fault l G q_3 Q (xs 1)) (cwV 1 hts (gdV (List.mem_of_getElem? (i := 2166) (by decide +kernel)) (List.mem_of_getElem? (i := 2167) (by decide +kernel)) (List.mem_of_getElem? (i := 2168) (by decide +kernel)) (List.mem_of_getElem? (i := 171) (by decide +kernel)) (fun w9 h9 => ⟨(in_m_fault _ h9), gd_m_fault w9 h9⟩)) rfl rfl rfl kVX13_fault ⟨Nat.le_of_ble_eq_true rfl, Nat.le_of_ble_eq_true rfl⟩) (preV_p (As := [.int (xs 1)]) (hP.sub (ws' := [(q_3, .inr (14, [.ref (Q 0), .ref (Q 1), .int 0, .int 0, .int 10, .ref (Q 5), .ref (Q 6), .ref (Q 7), .ref (Q 8), .ref (Q 9), .ref (Q 10), .ref (Q 11), .ref (Q 12), .ref (Q 13), .ref (Q 14), .ref (Q 15), .ref (Q 16), .ref (Q 17), .ref (Q 18), .ref (Q 19), .ref (Q 20), .ref (Q 21), .ref (Q 22), .ref (Q 23), .ref (Q 24), .ref (Q 25), .ref (Q 26), .int 0, .int 0, .int 0, .int 0, .int 0, .ref (Q 32), .ref (Q 33), .ref (Q 34), .ref (Q 35), .ref (Q 36), .ref (Q 37), .ref (Q 38), .ref (Q 39), .ref (Q 40), .ref (Q 40), .int 0, .int 0, .int 0, .int 0, .int 0, .int 0, .int 0, .int 0, .int (-1), .int 0, .ref (Q 52), .int 0, .ref (Q 54), .int 0, .ref (Q 56), .ref (Q 57), .ref (Q 58), .ref (Q 59), .ref (Q 60), .ref (Q 61), .ref (Q 62), .ref (Q 63), .ref (Q 64), .ref (Q 65), .ref (Q 66), .ref (Q 67), .ref (Q 68), .int 0, .ref (Q 70), .ref (Q 71)]))]) [2] rfl) hB rfl rfl) rfl rfl hl.1 rfl (lv_room (Nat.le_of_ble_eq_true rfl)) dL_law_262 ⟨Nat.le_of_ble_eq_true rfl, Nat.le_of_ble_eq_true rfl⟩)) (fun r_39 hr_39 => ?_)
    subst hr_39
    refine lv_icmp_eq (tgt := 953) hx hb dL_law_265 (by decide) (fun _ => ?_) (fun c9 => absurd rfl c9)
    refine lv_iinc (v := 6) (lv' := [(3, .int 6), (2, .ref q_3), (1, .ref q_1), (0, .ref b)]) hx hb dL_law_953 hl (k := 0) rfl (by decide) (by decide) rfl (fun ls hl => ?_)
    refine lv_goto (tgt := 18) hx hb dL_law_956 (by decide) ?_
    refine lv_iload_n hx hb dL_law_18 rfl (lv_at hl 0 rfl) ?_
    refine lv_aload_n hx hb dL_law_19 rfl (lv_at hl 3 rfl) ?_
    refine va_slen hx hb hX hbl hbA hS dL_law_20 ?_
    refine gx_ti (y := 6) (by decide) ?_
    refine lv_bipush (v := 6) hx hb dL_law_21 (by decide) ?_
    refine lv_isub hx hb dL_law_23 ?_
    refine gx_ti (y := 0) (by decide) ?_
    refine lv_icmp_gt (tgt := 959) hx hb dL_law_24 (by decide) (fun _ => ?_) (fun c9 => absurd (by decide) c9)
    refine lv_iconst (v := 1) hx hb dL_law_959 (by decide) ?_
    refine va_forget (fun q hq => hAl q.base (hS.2.2 q hq)) ?_
    refine W.widen (k := 600002) (n := 7302232) (Nat.le_of_ble_eq_true rfl) (Nat.le_of_ble_eq_true rfl) ?_
    exact lw_ret hx hb hr hlocks dL_law_960
  · refine lv_tableIn (off := 237) (tgt := 270) hx hb dL_law_33 (by rw [c_11]; decide) (by rw [c_11]; decide) (by rw [c_11]; rfl) (by decide) ?_
    have hP := hP.sub (ws' := [(q_1, .inr (12, [.ref bk, .ref tp, .ref ps, .ref rl, u1, .ref bd, .ref fr, u2, .ref pn, .ref nl, u3])), (bk, .inr (2, [.ref ca, .ref bc, .ref bb, .ref bs, .int 0, .int 0])), (ca, .inl (gI G, 2088, .inl bk0)), (bc, .inr (10, [.ref bc2])), (bc2, .inl (gI G, 512, .inl (fl 512 0 (fun _ => 0)))), (bb, .inr (10, [.ref bb2])), (bb2, .inl (gI G, 512, .inl (fl 512 0 (fun _ => 0)))), (bs, .inr (10, [.ref bs2])), (bs2, .inl (gI G, 500, .inl (fl 500 0 (fun _ => 0)))), (rl, .inr (9, [.ref bk])), (bd, .inr (1, [.ref bk, b1, b2, b3, b4, b5])), (q_3, .inr (14, [.ref (Q 0), .ref (Q 1), .int 0, .int 0, .int 10, .ref (Q 5), .ref (Q 6), .ref (Q 7), .ref (Q 8), .ref (Q 9), .ref (Q 10), .ref (Q 11), .ref (Q 12), .ref (Q 13), .ref (Q 14), .ref (Q 15), .ref (Q 16), .ref (Q 17), .ref (Q 18), .ref (Q 19), .ref (Q 20), .ref (Q 21), .ref (Q 22), .ref (Q 23), .ref (Q 24), .ref (Q 25), .ref (Q 26), .int 0, .int 0, .int 0, .int 0, .int 0, .ref (Q 32), .ref (Q 33), .ref (Q 34), .ref (Q 35), .ref (Q 36), .ref (Q 37), .ref (Q 38), .ref (Q 39), .ref (Q 40), .ref (Q 40), .int 0, .int 0, .int 0, .int 0, .int 0, .int 0, .int 0, .int 0, .int (-1), .int 0, .ref (Q 52), .int 0, .ref (Q 54), .int 0, .ref (Q 56), .ref (Q 57), .ref (Q 58), .ref (Q 59), .ref (Q 60), .ref (Q 61), .ref (Q 62), .ref (Q 63), .ref (Q 64), .ref (Q 65), .ref (Q 66), .ref (Q 67), .ref (Q 68), .int 0, .ref (Q 70), .ref (Q 71)])), (Q 0, .inl (gI G, 4, .inl moLo)), (Q 1, .inl (gI G, 4, .inl moHi)), (Q 52, .inl (gI G, 2000, .inl (fun _ => 0))), (Q 12, .inl (gI G, 4, .inl moDr))]) [0, 1, 2, 3, 4, 5, 6, 7, 8, 14, 15, 27, 28, 29, 38, 45] rfl
    have hD := hD.sub (ws' := [(q_1, .inr (12, [.ref bk, .ref tp, .ref ps, .ref rl, u1, .ref bd, .ref fr, u2, .ref pn, .ref nl, u3])), (bk, .inr (2, [.ref ca, .ref bc, .ref bb, .ref bs, .int 0, .int 0])), (ca, .inl (gI G, 2088, .inl bk0)), (bc, .inr (10, [.ref bc2])), (bc2, .inl (gI G, 512, .inl (fl 512 0 (fun _ => 0)))), (bb, .inr (10, [.ref bb2])), (bb2, .inl (gI G, 512, .inl (fl 512 0 (fun _ => 0)))), (bs, .inr (10, [.ref bs2])), (bs2, .inl (gI G, 500, .inl (fl 500 0 (fun _ => 0)))), (rl, .inr (9, [.ref bk])), (bd, .inr (1, [.ref bk, b1, b2, b3, b4, b5])), (q_3, .inr (14, [.ref (Q 0), .ref (Q 1), .int 0, .int 0, .int 10, .ref (Q 5), .ref (Q 6), .ref (Q 7), .ref (Q 8), .ref (Q 9), .ref (Q 10), .ref (Q 11), .ref (Q 12), .ref (Q 13), .ref (Q 14), .ref (Q 15), .ref (Q 16), .ref (Q 17), .ref (Q 18), .ref (Q 19), .ref (Q 20), .ref (Q 21), .ref (Q 22), .ref (Q 23), .ref (Q 24), .ref (Q 25), .ref (Q 26), .int 0, .int 0, .int 0, .int 0, .int 0, .ref (Q 32), .ref (Q 33), .ref (Q 34), .ref (Q 35), .ref (Q 36), .ref (Q 37), .ref (Q 38), .ref (Q 39), .ref (Q 40), .ref (Q 40), .int 0, .int 0, .int 0, .int 0, .int 0, .int 0, .int 0, .int 0, .int (-1), .int 0, .ref (Q 52), .int 0, .ref (Q 54), .int 0, .ref (Q 56), .ref (Q 57), .ref (Q 58), .ref (Q 59), .ref (Q 60), .ref (Q 61), .ref (Q 62), .ref (Q 63), .ref (Q 64), .ref (Q 65), .ref (Q 66), .ref (Q 67), .ref (Q 68), .int 0, .ref (Q 70), .ref (Q 71)])), (Q 0, .inl (gI G, 4, .inl moLo)), (Q 1, .inl (gI G, 4, .inl moHi)), (Q 52, .inl (gI G, 2000, .inl (fun _ => 0))), (Q 12, .inl (gI G, 4, .inl moDr))]) [0, 1, 2, 3, 4, 5, 6, 7, 8, 14, 15, 27, 28, 29, 38, 45] (by decide) rfl
    refine lv_aload_n hx hb dL_law_270 rfl (lv_at hl 2 rfl) ?_
    refine lv_aload_n hx hb dL_law_271 rfl (lv_at hl 3 rfl) ?_
    refine lv_iload_n hx hb dL_law_272 rfl (lv_at hl 0 rfl) ?_
    refine lv_iconst (v := 1) hx hb dL_law_273 (by decide) ?_
    refine lv_iadd hx hb dL_law_274 ?_
    refine gx_ti (y := 1) (by decide) ?_
    refine va_sld hx hb hX hbl hbA hS (i := 1) (gx_in (by decide)) dL_law_275 ?_
    refine gx_ti (y := xs 1) rfl ?_
    refine lv_aload_n hx hb dL_law_276 rfl (lv_at hl 3 rfl) ?_
    refine lv_iload_n hx hb dL_law_277 rfl (lv_at hl 0 rfl) ?_
    refine lv_iconst (v := 2) hx hb dL_law_278 (by decide) ?_
    refine lv_iadd hx hb dL_law_279 ?_
    refine gx_ti (y := 2) (by decide) ?_
    refine va_sld hx hb hX hbl hbA hS (i := 2) (gx_in (by decide)) dL_law_280 ?_
    refine gx_ti (y := xs 2) rfl ?_
    refine lv_aload_n hx hb dL_law_281 rfl (lv_at hl 3 rfl) ?_
    refine lv_iload_n hx hb dL_law_282 rfl (lv_at hl 0 rfl) ?_
    refine lv_iconst (v := 3) hx hb dL_law_283 (by decide) ?_
    refine lv_iadd hx hb dL_law_284 ?_
    refine gx_ti (y := 3) (by decide) ?_
    refine va_sld hx hb hX hbl hbA hS (i := 3) (gx_in (by decide)) dL_law_285 ?_
    refine gx_ti (y := xs 3) rfl ?_
    have hPc := hP.sub (ws' := [(q_1, .inr (12, [.ref bk, .ref tp, .ref ps, .ref rl, u1, .ref bd, .ref fr, u2, .ref pn, .ref nl, u3])), (rl, .inr (9, [.ref bk])), (bd, .inr (1, [.ref bk, b1, b2, b3, b4, b5])), (bk, .inr (2, [.ref ca, .ref bc, .ref bb, .ref bs, .int 0, .int 0])), (ca, .inl (gI G, 2088, .inl bk0)), (bc, .inr (10, [.ref bc2])), (bc2, .inl (gI G, 512, .inl (fl 512 0 (fun _ => 0)))), (bb, .inr (10, [.ref bb2])), (bb2, .inl (gI G, 512, .inl (fl 512 0 (fun _ => 0)))), (bs, .inr (10, [.ref bs2])), (bs2, .inl (gI G, 500, .inl (fl 500 0 (fun _ => 0))))]) [0, 9, 10, 1, 2, 3, 4, 5, 6, 7, 8] rfl
    have hDc := hD.sub (ws' := [(q_1, .inr (12, [.ref bk, .ref tp, .ref ps, .ref rl, u1, .ref bd, .ref fr, u2, .ref pn, .ref nl, u3])), (rl, .inr (9, [.ref bk])), (bd, .inr (1, [.ref bk, b1, b2, b3, b4, b5])), (bk, .inr (2, [.ref ca, .ref bc, .ref bb, .ref bs, .int 0, .int 0])), (ca, .inl (gI G, 2088, .inl bk0)), (bc, .inr (10, [.ref bc2])), (bc2, .inl (gI G, 512, .inl (fl 512 0 (fun _ => 0)))), (bb, .inr (10, [.ref bb2])), (bb2, .inl (gI G, 512, .inl (fl 512 0 (fun _ => 0)))), (bs, .inr (10, [.ref bs2])), (bs2, .inl (gI G, 500, .inl (fl 500 0 (fun _ => 0))))]) [0, 9, 10, 1, 2, 3, 4, 5, 6, 7, 8] (by decide) rfl
    have hFc := va_free (wc := [(q_1, .inr (12, [.ref bk, .ref tp, .ref ps, .ref rl, u1, .ref bd, .ref fr, u2, .ref pn, .ref nl, u3])), (rl, .inr (9, [.ref bk])), (bd, .inr (1, [.ref bk, b1, b2, b3, b4, b5])), (bk, .inr (2, [.ref ca, .ref bc, .ref bb, .ref bs, .int 0, .int 0])), (ca, .inl (gI G, 2088, .inl bk0)), (bc, .inr (10, [.ref bc2])), (bc2, .inl (gI G, 512, .inl (fl 512 0 (fun _ => 0)))), (bb, .inr (10, [.ref bb2])), (bb2, .inl (gI G, 512, .inl (fl 512 0 (fun _ => 0)))), (bs, .inr (10, [.ref bs2])), (bs2, .inl (gI G, 500, .inl (fl 500 0 (fun _ => 0))))]) hD hS hA [0, 9, 10, 1, 2, 3, 4, 5, 6, 7, 8] rfl
    refine va_calli (va_runV (As := [.int (xs 1), .int (xs 2), .int (xs 3)]) (rest := []) ⟨hx, hb, hml, hown, hts⟩ (q_limit l G q_1 bk tp ps rl u1 bd fr u2 pn nl u3 b1 b2 b3 b4 b5 ca bc bb bs bc2 bb2 bs2 (xs 1) (xs 2) (xs 3) H.size) (cwV 3 hts (gdV (List.mem_of_getElem? (i := 975) (by decide +kernel)) (List.mem_of_getElem? (i := 976) (by decide +kernel)) (List.mem_of_getElem? (i := 977) (by decide +kernel)) (List.mem_of_getElem? (i := 154) (by decide +kernel)) (fun w9 h9 => ⟨(in_q_limit _ h9), gd_q_limit w9 h9⟩)) rfl rfl rfl kVX11_limit ⟨Nat.le_of_ble_eq_true rfl, Nat.le_of_ble_eq_true rfl⟩) (preV_m (As := [.int (xs 1), .int (xs 2), .int (xs 3)]) hPc hB hDc rfl rfl) rfl rfl hl.1 rfl (lv_room (Nat.le_of_ble_eq_true rfl)) dL_law_286 ⟨Nat.le_of_ble_eq_true rfl, Nat.le_of_ble_eq_true rfl⟩) hS (fun q _ h => hFc q h) hFc (fun r_40 u t H1 locs ht hvm hw hB1 hz1 hk1 hS => ?_)
    obtain ⟨hP1, hD1⟩ := hB1
    rw [ht] at hP1
    obtain ⟨hP, hD⟩ := va_join (wr := [(q_3, .inr (14, [.ref (Q 0), .ref (Q 1), .int 0, .int 0, .int 10, .ref (Q 5), .ref (Q 6), .ref (Q 7), .ref (Q 8), .ref (Q 9), .ref (Q 10), .ref (Q 11), .ref (Q 12), .ref (Q 13), .ref (Q 14), .ref (Q 15), .ref (Q 16), .ref (Q 17), .ref (Q 18), .ref (Q 19), .ref (Q 20), .ref (Q 21), .ref (Q 22), .ref (Q 23), .ref (Q 24), .ref (Q 25), .ref (Q 26), .int 0, .int 0, .int 0, .int 0, .int 0, .ref (Q 32), .ref (Q 33), .ref (Q 34), .ref (Q 35), .ref (Q 36), .ref (Q 37), .ref (Q 38), .ref (Q 39), .ref (Q 40), .ref (Q 40), .int 0, .int 0, .int 0, .int 0, .int 0, .int 0, .int 0, .int 0, .int (-1), .int 0, .ref (Q 52), .int 0, .ref (Q 54), .int 0, .ref (Q 56), .ref (Q 57), .ref (Q 58), .ref (Q 59), .ref (Q 60), .ref (Q 61), .ref (Q 62), .ref (Q 63), .ref (Q 64), .ref (Q 65), .ref (Q 66), .ref (Q 67), .ref (Q 68), .int 0, .ref (Q 70), .ref (Q 71)])), (Q 0, .inl (gI G, 4, .inl moLo)), (Q 1, .inl (gI G, 4, .inl moHi)), (Q 52, .inl (gI G, 2000, .inl (fun _ => 0))), (Q 12, .inl (gI G, 4, .inl moDr))]) (w1 := []) hP hD [0, 9, 10, 1, 2, 3, 4, 5, 6, 7, 8] [11, 12, 13, 14, 15] rfl rfl (by decide) (by decide) hk1 hFc hP1 hD1
    generalize H1 = H at hP hS ⊢
    have hP : va_P (gD G) vwCl [(q_3, .inr (14, [.ref (Q 0), .ref (Q 1), .int 0, .int 0, .int 10, .ref (Q 5), .ref (Q 6), .ref (Q 7), .ref (Q 8), .ref (Q 9), .ref (Q 10), .ref (Q 11), .ref (Q 12), .ref (Q 13), .ref (Q 14), .ref (Q 15), .ref (Q 16), .ref (Q 17), .ref (Q 18), .ref (Q 19), .ref (Q 20), .ref (Q 21), .ref (Q 22), .ref (Q 23), .ref (Q 24), .ref (Q 25), .ref (Q 26), .int 0, .int 0, .int 0, .int 0, .int 0, .ref (Q 32), .ref (Q 33), .ref (Q 34), .ref (Q 35), .ref (Q 36), .ref (Q 37), .ref (Q 38), .ref (Q 39), .ref (Q 40), .ref (Q 40), .int 0, .int 0, .int 0, .int 0, .int 0, .int 0, .int 0, .int 0, .int (-1), .int 0, .ref (Q 52), .int 0, .ref (Q 54), .int 0, .ref (Q 56), .ref (Q 57), .ref (Q 58), .ref (Q 59), .ref (Q 60), .ref (Q 61), .ref (Q 62), .ref (Q 63), .ref (Q 64), .ref (Q 65), .ref (Q 66), .ref (Q 67), .ref (Q 68), .int 0, .ref (Q 70), .ref (Q 71)])), (Q 0, .inl (gI G, 4, .inl moLo)), (Q 1, .inl (gI G, 4, .inl moHi)), (Q 52, .inl (gI G, 2000, .inl (fun _ => 0))), (Q 12, .inl (gI G, 4, .inl moDr))] H := hP
    have hD : va_D A [(q_3, .inr (14, [.ref (Q 0), .ref (Q 1), .int 0, .int 0, .int 10, .ref (Q 5), .ref (Q 6), .ref (Q 7), .ref (Q 8), .ref (Q 9), .ref (Q 10), .ref (Q 11), .ref (Q 12), .ref (Q 13), .ref (Q 14), .ref (Q 15), .ref (Q 16), .ref (Q 17), .ref (Q 18), .ref (Q 19), .ref (Q 20), .ref (Q 21), .ref (Q 22), .ref (Q 23), .ref (Q 24), .ref (Q 25), .ref (Q 26), .int 0, .int 0, .int 0, .int 0, .int 0, .ref (Q 32), .ref (Q 33), .ref (Q 34), .ref (Q 35), .ref (Q 36), .ref (Q 37), .ref (Q 38), .ref (Q 39), .ref (Q 40), .ref (Q 40), .int 0, .int 0, .int 0, .int 0, .int 0, .int 0, .int 0, .int 0, .int (-1), .int 0, .ref (Q 52), .int 0, .ref (Q 54), .int 0, .ref (Q 56), .ref (Q 57), .ref (Q 58), .ref (Q 59), .ref (Q 60), .ref (Q 61), .ref (Q 62), .ref (Q 63), .ref (Q 64), .ref (Q 65), .ref (Q 66), .ref (Q 67), .ref (Q 68), .int 0, .ref (Q 70), .ref (Q 71)])), (Q 0, .inl (gI G, 4, .inl moLo)), (Q 1, .inl (gI G, 4, .inl moHi)), (Q 52, .inl (gI G, 2000, .inl (fun _ => 0))), (Q 12, .inl (gI G, 4, .inl moDr))] := hD
    have hw : r_40 = (if (xs 1) < 0 ∨ 4 ≤ (xs 1) ∨ (xs 2) < 0 ∨ 200000 < (xs 2) ∨ (xs 3) < 0 ∨ 200000 < (xs 3) ∨ (xs 3) < (xs 2) then (-2) else 1) := hw
    refine gx_ti hw ?_
    refine W.eq (g2 := F0 m 289 ls [.int (if (xs 1) < 0 ∨ 4 ≤ (xs 1) ∨ (xs 2) < 0 ∨ 200000 < (xs 2) ∨ (xs 3) < 0 ∨ 200000 < (xs 3) ∨ (xs 3) < (xs 2) then (-2) else 1)]) rfl ?_
    refine lv_aload_n hx hb dL_law_289 rfl (lv_at hl 1 rfl) ?_
    refine lv_aload_n hx hb dL_law_290 rfl (lv_at hl 3 rfl) ?_
    refine lv_iload_n hx hb dL_law_291 rfl (lv_at hl 0 rfl) ?_
    refine lv_iconst (v := 1) hx hb dL_law_292 (by decide) ?_
    refine lv_iadd hx hb dL_law_293 ?_
    refine gx_ti (y := 1) (by decide) ?_
    refine va_sld hx hb hX hbl hbA hS (i := 1) (gx_in (by decide)) dL_law_294 ?_
    refine gx_ti (y := xs 1) rfl ?_
    refine lv_aload_n hx hb dL_law_295 rfl (lv_at hl 3 rfl) ?_
    refine lv_iload_n hx hb dL_law_296 rfl (lv_at hl 0 rfl) ?_
    refine lv_iconst (v := 2) hx hb dL_law_297 (by decide) ?_
    refine lv_iadd hx hb dL_law_298 ?_
    refine gx_ti (y := 2) (by decide) ?_
    refine va_sld hx hb hX hbl hbA hS (i := 2) (gx_in (by decide)) dL_law_299 ?_
    refine gx_ti (y := xs 2) rfl ?_
    refine lv_aload_n hx hb dL_law_300 rfl (lv_at hl 3 rfl) ?_
    refine lv_iload_n hx hb dL_law_301 rfl (lv_at hl 0 rfl) ?_
    refine lv_iconst (v := 3) hx hb dL_law_302 (by decide) ?_
    refine lv_iadd hx hb dL_law_303 ?_
    refine gx_ti (y := 3) (by decide) ?_
    refine va_sld hx hb hX hbl hbA hS (i := 3) (gx_in (by decide)) dL_law_304 ?_
    refine gx_ti (y := xs 3) rfl ?_
    have hPc := hP.sub (ws' := [(q_3, .inr (14, [.ref (Q 0), .ref (Q 1), .int 0, .int 0, .int 10, .ref (Q 5), .ref (Q 6), .ref (Q 7), .ref (Q 8), .ref (Q 9), .ref (Q 10), .ref (Q 11), .ref (Q 12), .ref (Q 13), .ref (Q 14), .ref (Q 15), .ref (Q 16), .ref (Q 17), .ref (Q 18), .ref (Q 19), .ref (Q 20), .ref (Q 21), .ref (Q 22), .ref (Q 23), .ref (Q 24), .ref (Q 25), .ref (Q 26), .int 0, .int 0, .int 0, .int 0, .int 0, .ref (Q 32), .ref (Q 33), .ref (Q 34), .ref (Q 35), .ref (Q 36), .ref (Q 37), .ref (Q 38), .ref (Q 39), .ref (Q 40), .ref (Q 40), .int 0, .int 0, .int 0, .int 0, .int 0, .int 0, .int 0, .int 0, .int (-1), .int 0, .ref (Q 52), .int 0, .ref (Q 54), .int 0, .ref (Q 56), .ref (Q 57), .ref (Q 58), .ref (Q 59), .ref (Q 60), .ref (Q 61), .ref (Q 62), .ref (Q 63), .ref (Q 64), .ref (Q 65), .ref (Q 66), .ref (Q 67), .ref (Q 68), .int 0, .ref (Q 70), .ref (Q 71)])), (Q 12, .inl (gI G, 4, .inl moDr)), (Q 52, .inl (gI G, 2000, .inl (fun _ => 0))), (Q 0, .inl (gI G, 4, .inl moLo)), (Q 1, .inl (gI G, 4, .inl moHi))]) [0, 4, 3, 1, 2] rfl
    have hDc := hD.sub (ws' := [(q_3, .inr (14, [.ref (Q 0), .ref (Q 1), .int 0, .int 0, .int 10, .ref (Q 5), .ref (Q 6), .ref (Q 7), .ref (Q 8), .ref (Q 9), .ref (Q 10), .ref (Q 11), .ref (Q 12), .ref (Q 13), .ref (Q 14), .ref (Q 15), .ref (Q 16), .ref (Q 17), .ref (Q 18), .ref (Q 19), .ref (Q 20), .ref (Q 21), .ref (Q 22), .ref (Q 23), .ref (Q 24), .ref (Q 25), .ref (Q 26), .int 0, .int 0, .int 0, .int 0, .int 0, .ref (Q 32), .ref (Q 33), .ref (Q 34), .ref (Q 35), .ref (Q 36), .ref (Q 37), .ref (Q 38), .ref (Q 39), .ref (Q 40), .ref (Q 40), .int 0, .int 0, .int 0, .int 0, .int 0, .int 0, .int 0, .int 0, .int (-1), .int 0, .ref (Q 52), .int 0, .ref (Q 54), .int 0, .ref (Q 56), .ref (Q 57), .ref (Q 58), .ref (Q 59), .ref (Q 60), .ref (Q 61), .ref (Q 62), .ref (Q 63), .ref (Q 64), .ref (Q 65), .ref (Q 66), .ref (Q 67), .ref (Q 68), .int 0, .ref (Q 70), .ref (Q 71)])), (Q 12, .inl (gI G, 4, .inl moDr)), (Q 52, .inl (gI G, 2000, .inl (fun _ => 0))), (Q 0, .inl (gI G, 4, .inl moLo)), (Q 1, .inl (gI G, 4, .inl moHi))]) [0, 4, 3, 1, 2] (by decide) rfl
    have hFc := va_free (wc := [(q_3, .inr (14, [.ref (Q 0), .ref (Q 1), .int 0, .int 0, .int 10, .ref (Q 5), .ref (Q 6), .ref (Q 7), .ref (Q 8), .ref (Q 9), .ref (Q 10), .ref (Q 11), .ref (Q 12), .ref (Q 13), .ref (Q 14), .ref (Q 15), .ref (Q 16), .ref (Q 17), .ref (Q 18), .ref (Q 19), .ref (Q 20), .ref (Q 21), .ref (Q 22), .ref (Q 23), .ref (Q 24), .ref (Q 25), .ref (Q 26), .int 0, .int 0, .int 0, .int 0, .int 0, .ref (Q 32), .ref (Q 33), .ref (Q 34), .ref (Q 35), .ref (Q 36), .ref (Q 37), .ref (Q 38), .ref (Q 39), .ref (Q 40), .ref (Q 40), .int 0, .int 0, .int 0, .int 0, .int 0, .int 0, .int 0, .int 0, .int (-1), .int 0, .ref (Q 52), .int 0, .ref (Q 54), .int 0, .ref (Q 56), .ref (Q 57), .ref (Q 58), .ref (Q 59), .ref (Q 60), .ref (Q 61), .ref (Q 62), .ref (Q 63), .ref (Q 64), .ref (Q 65), .ref (Q 66), .ref (Q 67), .ref (Q 68), .int 0, .ref (Q 70), .ref (Q 71)])), (Q 12, .inl (gI G, 4, .inl moDr)), (Q 52, .inl (gI G, 2000, .inl (fun _ => 0))), (Q 0, .inl (gI G, 4, .inl moLo)), (Q 1, .inl (gI G, 4, .inl moHi))]) hD hS hA [0, 4, 3, 1, 2] rfl
    refine va_calli (va_runV (As := [.int (xs 1), .int (xs 2), .int (xs 3)]) (rest := [.int (if (xs 1) < 0 ∨ 4 ≤ (xs 1) ∨ (xs 2) < 0 ∨ 200000 < (xs 2) ∨ (xs 3) < 0 ∨ 200000 < (xs 3) ∨ (xs 3) < (xs 2) then (-2) else 1)]) ⟨hx, hb, hml, hown, hts⟩ (m_limit l G q_3 Q (fun _ => 0) moLo moHi (xs 1) (xs 2) (xs 3) H.size) (cwV 3 hts (gdV (List.mem_of_getElem? (i := 2170) (by decide +kernel)) (List.mem_of_getElem? (i := 2171) (by decide +kernel)) (List.mem_of_getElem? (i := 2172) (by decide +kernel)) (List.mem_of_getElem? (i := 171) (by decide +kernel)) (fun w9 h9 => ⟨(in_m_limit _ h9), gd_m_limit w9 h9⟩)) rfl rfl rfl kVX13_limit ⟨Nat.le_of_ble_eq_true rfl, Nat.le_of_ble_eq_true rfl⟩) (preV_m (As := [.int (xs 1), .int (xs 2), .int (xs 3)]) hPc hB hDc rfl rfl) rfl rfl hl.1 rfl (lv_room (Nat.le_of_ble_eq_true rfl)) dL_law_305 ⟨Nat.le_of_ble_eq_true rfl, Nat.le_of_ble_eq_true rfl⟩) hS (fun q _ h => hFc q h) hFc (fun r_41 u t H1 locs ht hvm hw hB1 hz1 hk1 hS => ?_)
    obtain ⟨hP1, hD1⟩ := hB1
    rw [ht] at hP1
    obtain ⟨hP, hD⟩ := va_join (wr := []) (w1 := []) hP hD [0, 4, 3, 1, 2] [] rfl rfl (by decide) (by decide) hk1 hFc hP1 hD1
    generalize H1 = H at hP hS ⊢
    have hP : va_P (gD G) vwCl [] H := hP
    have hD : va_D A [] := hD
    have hw : r_41 = (if (xs 1) < 0 ∨ 4 ≤ (xs 1) ∨ (xs 2) < 0 ∨ 200000 < (xs 2) ∨ (xs 3) < 0 ∨ 200000 < (xs 3) ∨ (xs 3) < (xs 2) then (-2) else 1) := hw
    refine gx_ti hw ?_
    refine W.eq (g2 := F0 m 308 ls [.int (if (xs 1) < 0 ∨ 4 ≤ (xs 1) ∨ (xs 2) < 0 ∨ 200000 < (xs 2) ∨ (xs 3) < 0 ∨ 200000 < (xs 3) ∨ (xs 3) < (xs 2) then (-2) else 1), .int (if (xs 1) < 0 ∨ 4 ≤ (xs 1) ∨ (xs 2) < 0 ∨ 200000 < (xs 2) ∨ (xs 3) < 0 ∨ 200000 < (xs 3) ∨ (xs 3) < (xs 2) then (-2) else 1)]) rfl ?_
    refine lv_icmp_eq (tgt := 953) hx hb dL_law_308 (by decide) (fun _ => ?_) (fun c9 => absurd rfl c9)
    refine lv_iinc (v := 6) (lv' := [(3, .int 6), (2, .ref q_3), (1, .ref q_1), (0, .ref b)]) hx hb dL_law_953 hl (k := 0) rfl (by decide) (by decide) rfl (fun ls hl => ?_)
    refine lv_goto (tgt := 18) hx hb dL_law_956 (by decide) ?_
    refine lv_iload_n hx hb dL_law_18 rfl (lv_at hl 0 rfl) ?_
    refine lv_aload_n hx hb dL_law_19 rfl (lv_at hl 3 rfl) ?_
    refine va_slen hx hb hX hbl hbA hS dL_law_20 ?_
    refine gx_ti (y := 6) (by decide) ?_
    refine lv_bipush (v := 6) hx hb dL_law_21 (by decide) ?_
    refine lv_isub hx hb dL_law_23 ?_
    refine gx_ti (y := 0) (by decide) ?_
    refine lv_icmp_gt (tgt := 959) hx hb dL_law_24 (by decide) (fun _ => ?_) (fun c9 => absurd (by decide) c9)
    refine lv_iconst (v := 1) hx hb dL_law_959 (by decide) ?_
    refine va_forget (fun q hq => hAl q.base (hS.2.2 q hq)) ?_
    refine W.widen (k := 600002) (n := 7302232) (Nat.le_of_ble_eq_true rfl) (Nat.le_of_ble_eq_true rfl) ?_
    exact lw_ret hx hb hr hlocks dL_law_960
  · refine lv_tableIn (off := 280) (tgt := 313) hx hb dL_law_33 (by rw [c_12]; decide) (by rw [c_12]; decide) (by rw [c_12]; rfl) (by decide) ?_
    have hP := hP.sub (ws' := [(q_1, .inr (12, [.ref bk, .ref tp, .ref ps, .ref rl, u1, .ref bd, .ref fr, u2, .ref pn, .ref nl, u3])), (bk, .inr (2, [.ref ca, .ref bc, .ref bb, .ref bs, .int 0, .int 0])), (ca, .inl (gI G, 2088, .inl bk0)), (bc, .inr (10, [.ref bc2])), (bc2, .inl (gI G, 512, .inl (fl 512 0 (fun _ => 0)))), (bb, .inr (10, [.ref bb2])), (bb2, .inl (gI G, 512, .inl (fl 512 0 (fun _ => 0)))), (bs, .inr (10, [.ref bs2])), (bs2, .inl (gI G, 500, .inl (fl 500 0 (fun _ => 0)))), (rl, .inr (9, [.ref bk])), (bd, .inr (1, [.ref bk, b1, b2, b3, b4, b5])), (q_3, .inr (14, [.ref (Q 0), .ref (Q 1), .int 0, .int 0, .int 10, .ref (Q 5), .ref (Q 6), .ref (Q 7), .ref (Q 8), .ref (Q 9), .ref (Q 10), .ref (Q 11), .ref (Q 12), .ref (Q 13), .ref (Q 14), .ref (Q 15), .ref (Q 16), .ref (Q 17), .ref (Q 18), .ref (Q 19), .ref (Q 20), .ref (Q 21), .ref (Q 22), .ref (Q 23), .ref (Q 24), .ref (Q 25), .ref (Q 26), .int 0, .int 0, .int 0, .int 0, .int 0, .ref (Q 32), .ref (Q 33), .ref (Q 34), .ref (Q 35), .ref (Q 36), .ref (Q 37), .ref (Q 38), .ref (Q 39), .ref (Q 40), .ref (Q 40), .int 0, .int 0, .int 0, .int 0, .int 0, .int 0, .int 0, .int 0, .int (-1), .int 0, .ref (Q 52), .int 0, .ref (Q 54), .int 0, .ref (Q 56), .ref (Q 57), .ref (Q 58), .ref (Q 59), .ref (Q 60), .ref (Q 61), .ref (Q 62), .ref (Q 63), .ref (Q 64), .ref (Q 65), .ref (Q 66), .ref (Q 67), .ref (Q 68), .int 0, .ref (Q 70), .ref (Q 71)])), (Q 5, .inl (gI G, 96, .inl (fun _ => 0))), (Q 6, .inl (gI G, 96, .inl (fun _ => 0))), (Q 7, .inl (gI G, 96, .inl (fun _ => 0))), (Q 8, .inl (gI G, 96, .inl (fun _ => 0))), (Q 9, .inl (gI G, 96, .inl (fun _ => 0))), (Q 10, .inl (gI G, 96, .inl (fun _ => 0))), (Q 11, .inl (gI G, 96, .inl (fun _ => 0))), (Q 52, .inl (gI G, 2000, .inl (fun _ => 0))), (Q 12, .inl (gI G, 4, .inl moDr))]) [0, 1, 2, 3, 4, 5, 6, 7, 8, 14, 15, 27, 30, 31, 32, 33, 34, 35, 36, 38, 45] rfl
    have hD := hD.sub (ws' := [(q_1, .inr (12, [.ref bk, .ref tp, .ref ps, .ref rl, u1, .ref bd, .ref fr, u2, .ref pn, .ref nl, u3])), (bk, .inr (2, [.ref ca, .ref bc, .ref bb, .ref bs, .int 0, .int 0])), (ca, .inl (gI G, 2088, .inl bk0)), (bc, .inr (10, [.ref bc2])), (bc2, .inl (gI G, 512, .inl (fl 512 0 (fun _ => 0)))), (bb, .inr (10, [.ref bb2])), (bb2, .inl (gI G, 512, .inl (fl 512 0 (fun _ => 0)))), (bs, .inr (10, [.ref bs2])), (bs2, .inl (gI G, 500, .inl (fl 500 0 (fun _ => 0)))), (rl, .inr (9, [.ref bk])), (bd, .inr (1, [.ref bk, b1, b2, b3, b4, b5])), (q_3, .inr (14, [.ref (Q 0), .ref (Q 1), .int 0, .int 0, .int 10, .ref (Q 5), .ref (Q 6), .ref (Q 7), .ref (Q 8), .ref (Q 9), .ref (Q 10), .ref (Q 11), .ref (Q 12), .ref (Q 13), .ref (Q 14), .ref (Q 15), .ref (Q 16), .ref (Q 17), .ref (Q 18), .ref (Q 19), .ref (Q 20), .ref (Q 21), .ref (Q 22), .ref (Q 23), .ref (Q 24), .ref (Q 25), .ref (Q 26), .int 0, .int 0, .int 0, .int 0, .int 0, .ref (Q 32), .ref (Q 33), .ref (Q 34), .ref (Q 35), .ref (Q 36), .ref (Q 37), .ref (Q 38), .ref (Q 39), .ref (Q 40), .ref (Q 40), .int 0, .int 0, .int 0, .int 0, .int 0, .int 0, .int 0, .int 0, .int (-1), .int 0, .ref (Q 52), .int 0, .ref (Q 54), .int 0, .ref (Q 56), .ref (Q 57), .ref (Q 58), .ref (Q 59), .ref (Q 60), .ref (Q 61), .ref (Q 62), .ref (Q 63), .ref (Q 64), .ref (Q 65), .ref (Q 66), .ref (Q 67), .ref (Q 68), .int 0, .ref (Q 70), .ref (Q 71)])), (Q 5, .inl (gI G, 96, .inl (fun _ => 0))), (Q 6, .inl (gI G, 96, .inl (fun _ => 0))), (Q 7, .inl (gI G, 96, .inl (fun _ => 0))), (Q 8, .inl (gI G, 96, .inl (fun _ => 0))), (Q 9, .inl (gI G, 96, .inl (fun _ => 0))), (Q 10, .inl (gI G, 96, .inl (fun _ => 0))), (Q 11, .inl (gI G, 96, .inl (fun _ => 0))), (Q 52, .inl (gI G, 2000, .inl (fun _ => 0))), (Q 12, .inl (gI G, 4, .inl moDr))]) [0, 1, 2, 3, 4, 5, 6, 7, 8, 14, 15, 27, 30, 31, 32, 33, 34, 35, 36, 38, 45] (by decide) rfl
    refine lv_aload_n hx hb dL_law_313 rfl (lv_at hl 2 rfl) ?_
    refine lv_aload_n hx hb dL_law_314 rfl (lv_at hl 3 rfl) ?_
    refine lv_iload_n hx hb dL_law_315 rfl (lv_at hl 0 rfl) ?_
    refine lv_iconst (v := 1) hx hb dL_law_316 (by decide) ?_
    refine lv_iadd hx hb dL_law_317 ?_
    refine gx_ti (y := 1) (by decide) ?_
    refine va_sld hx hb hX hbl hbA hS (i := 1) (gx_in (by decide)) dL_law_318 ?_
    refine gx_ti (y := xs 1) rfl ?_
    refine lv_aload_n hx hb dL_law_319 rfl (lv_at hl 3 rfl) ?_
    refine lv_iload_n hx hb dL_law_320 rfl (lv_at hl 0 rfl) ?_
    refine lv_iconst (v := 2) hx hb dL_law_321 (by decide) ?_
    refine lv_iadd hx hb dL_law_322 ?_
    refine gx_ti (y := 2) (by decide) ?_
    refine va_sld hx hb hX hbl hbA hS (i := 2) (gx_in (by decide)) dL_law_323 ?_
    refine gx_ti (y := xs 2) rfl ?_
    have hPc := hP.sub (ws' := [(q_1, .inr (12, [.ref bk, .ref tp, .ref ps, .ref rl, u1, .ref bd, .ref fr, u2, .ref pn, .ref nl, u3])), (rl, .inr (9, [.ref bk])), (bd, .inr (1, [.ref bk, b1, b2, b3, b4, b5])), (bk, .inr (2, [.ref ca, .ref bc, .ref bb, .ref bs, .int 0, .int 0])), (ca, .inl (gI G, 2088, .inl bk0)), (bc, .inr (10, [.ref bc2])), (bc2, .inl (gI G, 512, .inl (fl 512 0 (fun _ => 0)))), (bb, .inr (10, [.ref bb2])), (bb2, .inl (gI G, 512, .inl (fl 512 0 (fun _ => 0)))), (bs, .inr (10, [.ref bs2])), (bs2, .inl (gI G, 500, .inl (fl 500 0 (fun _ => 0))))]) [0, 9, 10, 1, 2, 3, 4, 5, 6, 7, 8] rfl
    have hDc := hD.sub (ws' := [(q_1, .inr (12, [.ref bk, .ref tp, .ref ps, .ref rl, u1, .ref bd, .ref fr, u2, .ref pn, .ref nl, u3])), (rl, .inr (9, [.ref bk])), (bd, .inr (1, [.ref bk, b1, b2, b3, b4, b5])), (bk, .inr (2, [.ref ca, .ref bc, .ref bb, .ref bs, .int 0, .int 0])), (ca, .inl (gI G, 2088, .inl bk0)), (bc, .inr (10, [.ref bc2])), (bc2, .inl (gI G, 512, .inl (fl 512 0 (fun _ => 0)))), (bb, .inr (10, [.ref bb2])), (bb2, .inl (gI G, 512, .inl (fl 512 0 (fun _ => 0)))), (bs, .inr (10, [.ref bs2])), (bs2, .inl (gI G, 500, .inl (fl 500 0 (fun _ => 0))))]) [0, 9, 10, 1, 2, 3, 4, 5, 6, 7, 8] (by decide) rfl
    have hFc := va_free (wc := [(q_1, .inr (12, [.ref bk, .ref tp, .ref ps, .ref rl, u1, .ref bd, .ref fr, u2, .ref pn, .ref nl, u3])), (rl, .inr (9, [.ref bk])), (bd, .inr (1, [.ref bk, b1, b2, b3, b4, b5])), (bk, .inr (2, [.ref ca, .ref bc, .ref bb, .ref bs, .int 0, .int 0])), (ca, .inl (gI G, 2088, .inl bk0)), (bc, .inr (10, [.ref bc2])), (bc2, .inl (gI G, 512, .inl (fl 512 0 (fun _ => 0)))), (bb, .inr (10, [.ref bb2])), (bb2, .inl (gI G, 512, .inl (fl 512 0 (fun _ => 0)))), (bs, .inr (10, [.ref bs2])), (bs2, .inl (gI G, 500, .inl (fl 500 0 (fun _ => 0))))]) hD hS hA [0, 9, 10, 1, 2, 3, 4, 5, 6, 7, 8] rfl
    refine va_calli (va_runV (As := [.int (xs 1), .int (xs 2)]) (rest := []) ⟨hx, hb, hml, hown, hts⟩ (q_enter l G q_1 bk tp ps rl u1 bd fr u2 pn nl u3 b1 b2 b3 b4 b5 ca bc bb bs bc2 bb2 bs2 (xs 1) (xs 2) H.size) (cwV 2 hts (gdV (List.mem_of_getElem? (i := 1013) (by decide +kernel)) (List.mem_of_getElem? (i := 1014) (by decide +kernel)) (List.mem_of_getElem? (i := 1015) (by decide +kernel)) (List.mem_of_getElem? (i := 154) (by decide +kernel)) (fun w9 h9 => ⟨(in_q_enter _ h9), gd_q_enter w9 h9⟩)) rfl rfl rfl kVX11_enter ⟨Nat.le_of_ble_eq_true rfl, Nat.le_of_ble_eq_true rfl⟩) (preV_m (As := [.int (xs 1), .int (xs 2)]) hPc hB hDc rfl rfl) rfl rfl hl.1 rfl (lv_room (Nat.le_of_ble_eq_true rfl)) dL_law_324 ⟨Nat.le_of_ble_eq_true rfl, Nat.le_of_ble_eq_true rfl⟩) hS (fun q _ h => hFc q h) hFc (fun r_42 u t H1 locs ht hvm hw hB1 hz1 hk1 hS => ?_)
    obtain ⟨hP1, hD1⟩ := hB1
    rw [ht] at hP1
    obtain ⟨hP, hD⟩ := va_join (wr := [(q_3, .inr (14, [.ref (Q 0), .ref (Q 1), .int 0, .int 0, .int 10, .ref (Q 5), .ref (Q 6), .ref (Q 7), .ref (Q 8), .ref (Q 9), .ref (Q 10), .ref (Q 11), .ref (Q 12), .ref (Q 13), .ref (Q 14), .ref (Q 15), .ref (Q 16), .ref (Q 17), .ref (Q 18), .ref (Q 19), .ref (Q 20), .ref (Q 21), .ref (Q 22), .ref (Q 23), .ref (Q 24), .ref (Q 25), .ref (Q 26), .int 0, .int 0, .int 0, .int 0, .int 0, .ref (Q 32), .ref (Q 33), .ref (Q 34), .ref (Q 35), .ref (Q 36), .ref (Q 37), .ref (Q 38), .ref (Q 39), .ref (Q 40), .ref (Q 40), .int 0, .int 0, .int 0, .int 0, .int 0, .int 0, .int 0, .int 0, .int (-1), .int 0, .ref (Q 52), .int 0, .ref (Q 54), .int 0, .ref (Q 56), .ref (Q 57), .ref (Q 58), .ref (Q 59), .ref (Q 60), .ref (Q 61), .ref (Q 62), .ref (Q 63), .ref (Q 64), .ref (Q 65), .ref (Q 66), .ref (Q 67), .ref (Q 68), .int 0, .ref (Q 70), .ref (Q 71)])), (Q 5, .inl (gI G, 96, .inl (fun _ => 0))), (Q 6, .inl (gI G, 96, .inl (fun _ => 0))), (Q 7, .inl (gI G, 96, .inl (fun _ => 0))), (Q 8, .inl (gI G, 96, .inl (fun _ => 0))), (Q 9, .inl (gI G, 96, .inl (fun _ => 0))), (Q 10, .inl (gI G, 96, .inl (fun _ => 0))), (Q 11, .inl (gI G, 96, .inl (fun _ => 0))), (Q 52, .inl (gI G, 2000, .inl (fun _ => 0))), (Q 12, .inl (gI G, 4, .inl moDr))]) (w1 := []) hP hD [0, 9, 10, 1, 2, 3, 4, 5, 6, 7, 8] [11, 12, 13, 14, 15, 16, 17, 18, 19, 20] rfl rfl (by decide) (by decide) hk1 hFc hP1 hD1
    generalize H1 = H at hP hS ⊢
    have hP : va_P (gD G) vwCl [(q_3, .inr (14, [.ref (Q 0), .ref (Q 1), .int 0, .int 0, .int 10, .ref (Q 5), .ref (Q 6), .ref (Q 7), .ref (Q 8), .ref (Q 9), .ref (Q 10), .ref (Q 11), .ref (Q 12), .ref (Q 13), .ref (Q 14), .ref (Q 15), .ref (Q 16), .ref (Q 17), .ref (Q 18), .ref (Q 19), .ref (Q 20), .ref (Q 21), .ref (Q 22), .ref (Q 23), .ref (Q 24), .ref (Q 25), .ref (Q 26), .int 0, .int 0, .int 0, .int 0, .int 0, .ref (Q 32), .ref (Q 33), .ref (Q 34), .ref (Q 35), .ref (Q 36), .ref (Q 37), .ref (Q 38), .ref (Q 39), .ref (Q 40), .ref (Q 40), .int 0, .int 0, .int 0, .int 0, .int 0, .int 0, .int 0, .int 0, .int (-1), .int 0, .ref (Q 52), .int 0, .ref (Q 54), .int 0, .ref (Q 56), .ref (Q 57), .ref (Q 58), .ref (Q 59), .ref (Q 60), .ref (Q 61), .ref (Q 62), .ref (Q 63), .ref (Q 64), .ref (Q 65), .ref (Q 66), .ref (Q 67), .ref (Q 68), .int 0, .ref (Q 70), .ref (Q 71)])), (Q 5, .inl (gI G, 96, .inl (fun _ => 0))), (Q 6, .inl (gI G, 96, .inl (fun _ => 0))), (Q 7, .inl (gI G, 96, .inl (fun _ => 0))), (Q 8, .inl (gI G, 96, .inl (fun _ => 0))), (Q 9, .inl (gI G, 96, .inl (fun _ => 0))), (Q 10, .inl (gI G, 96, .inl (fun _ => 0))), (Q 11, .inl (gI G, 96, .inl (fun _ => 0))), (Q 52, .inl (gI G, 2000, .inl (fun _ => 0))), (Q 12, .inl (gI G, 4, .inl moDr))] H := hP
    have hD : va_D A [(q_3, .inr (14, [.ref (Q 0), .ref (Q 1), .int 0, .int 0, .int 10, .ref (Q 5), .ref (Q 6), .ref (Q 7), .ref (Q 8), .ref (Q 9), .ref (Q 10), .ref (Q 11), .ref (Q 12), .ref (Q 13), .ref (Q 14), .ref (Q 15), .ref (Q 16), .ref (Q 17), .ref (Q 18), .ref (Q 19), .ref (Q 20), .ref (Q 21), .ref (Q 22), .ref (Q 23), .ref (Q 24), .ref (Q 25), .ref (Q 26), .int 0, .int 0, .int 0, .int 0, .int 0, .ref (Q 32), .ref (Q 33), .ref (Q 34), .ref (Q 35), .ref (Q 36), .ref (Q 37), .ref (Q 38), .ref (Q 39), .ref (Q 40), .ref (Q 40), .int 0, .int 0, .int 0, .int 0, .int 0, .int 0, .int 0, .int 0, .int (-1), .int 0, .ref (Q 52), .int 0, .ref (Q 54), .int 0, .ref (Q 56), .ref (Q 57), .ref (Q 58), .ref (Q 59), .ref (Q 60), .ref (Q 61), .ref (Q 62), .ref (Q 63), .ref (Q 64), .ref (Q 65), .ref (Q 66), .ref (Q 67), .ref (Q 68), .int 0, .ref (Q 70), .ref (Q 71)])), (Q 5, .inl (gI G, 96, .inl (fun _ => 0))), (Q 6, .inl (gI G, 96, .inl (fun _ => 0))), (Q 7, .inl (gI G, 96, .inl (fun _ => 0))), (Q 8, .inl (gI G, 96, .inl (fun _ => 0))), (Q 9, .inl (gI G, 96, .inl (fun _ => 0))), (Q 10, .inl (gI G, 96, .inl (fun _ => 0))), (Q 11, .inl (gI G, 96, .inl (fun _ => 0))), (Q 52, .inl (gI G, 2000, .inl (fun _ => 0))), (Q 12, .inl (gI G, 4, .inl moDr))] := hD
    have hw : r_42 = (if (xs 1) < 0 ∨ 16 ≤ (xs 1) ∨ (xs 2) < 0 ∨ 4 ≤ (xs 2) then (-2) else 0) := hw
    refine gx_ti hw ?_
    refine W.eq (g2 := F0 m 327 ls [.int (if (xs 1) < 0 ∨ 16 ≤ (xs 1) ∨ (xs 2) < 0 ∨ 4 ≤ (xs 2) then (-2) else 0)]) rfl ?_
    refine lv_aload_n hx hb dL_law_327 rfl (lv_at hl 1 rfl) ?_
    refine lv_aload_n hx hb dL_law_328 rfl (lv_at hl 3 rfl) ?_
    refine lv_iload_n hx hb dL_law_329 rfl (lv_at hl 0 rfl) ?_
    refine lv_iconst (v := 1) hx hb dL_law_330 (by decide) ?_
    refine lv_iadd hx hb dL_law_331 ?_
    refine gx_ti (y := 1) (by decide) ?_
    refine va_sld hx hb hX hbl hbA hS (i := 1) (gx_in (by decide)) dL_law_332 ?_
    refine gx_ti (y := xs 1) rfl ?_
    refine lv_aload_n hx hb dL_law_333 rfl (lv_at hl 3 rfl) ?_
    refine lv_iload_n hx hb dL_law_334 rfl (lv_at hl 0 rfl) ?_
    refine lv_iconst (v := 2) hx hb dL_law_335 (by decide) ?_
    refine lv_iadd hx hb dL_law_336 ?_
    refine gx_ti (y := 2) (by decide) ?_
    refine va_sld hx hb hX hbl hbA hS (i := 2) (gx_in (by decide)) dL_law_337 ?_
    refine gx_ti (y := xs 2) rfl ?_
    have hPc := hP.sub (ws' := [(q_3, .inr (14, [.ref (Q 0), .ref (Q 1), .int 0, .int 0, .int 10, .ref (Q 5), .ref (Q 6), .ref (Q 7), .ref (Q 8), .ref (Q 9), .ref (Q 10), .ref (Q 11), .ref (Q 12), .ref (Q 13), .ref (Q 14), .ref (Q 15), .ref (Q 16), .ref (Q 17), .ref (Q 18), .ref (Q 19), .ref (Q 20), .ref (Q 21), .ref (Q 22), .ref (Q 23), .ref (Q 24), .ref (Q 25), .ref (Q 26), .int 0, .int 0, .int 0, .int 0, .int 0, .ref (Q 32), .ref (Q 33), .ref (Q 34), .ref (Q 35), .ref (Q 36), .ref (Q 37), .ref (Q 38), .ref (Q 39), .ref (Q 40), .ref (Q 40), .int 0, .int 0, .int 0, .int 0, .int 0, .int 0, .int 0, .int 0, .int (-1), .int 0, .ref (Q 52), .int 0, .ref (Q 54), .int 0, .ref (Q 56), .ref (Q 57), .ref (Q 58), .ref (Q 59), .ref (Q 60), .ref (Q 61), .ref (Q 62), .ref (Q 63), .ref (Q 64), .ref (Q 65), .ref (Q 66), .ref (Q 67), .ref (Q 68), .int 0, .ref (Q 70), .ref (Q 71)])), (Q 12, .inl (gI G, 4, .inl moDr)), (Q 52, .inl (gI G, 2000, .inl (fun _ => 0))), (Q 5, .inl (gI G, 96, .inl (fun _ => 0))), (Q 6, .inl (gI G, 96, .inl (fun _ => 0))), (Q 7, .inl (gI G, 96, .inl (fun _ => 0))), (Q 8, .inl (gI G, 96, .inl (fun _ => 0))), (Q 9, .inl (gI G, 96, .inl (fun _ => 0))), (Q 10, .inl (gI G, 96, .inl (fun _ => 0))), (Q 11, .inl (gI G, 96, .inl (fun _ => 0)))]) [0, 9, 8, 1, 2, 3, 4, 5, 6, 7] rfl
    have hDc := hD.sub (ws' := [(q_3, .inr (14, [.ref (Q 0), .ref (Q 1), .int 0, .int 0, .int 10, .ref (Q 5), .ref (Q 6), .ref (Q 7), .ref (Q 8), .ref (Q 9), .ref (Q 10), .ref (Q 11), .ref (Q 12), .ref (Q 13), .ref (Q 14), .ref (Q 15), .ref (Q 16), .ref (Q 17), .ref (Q 18), .ref (Q 19), .ref (Q 20), .ref (Q 21), .ref (Q 22), .ref (Q 23), .ref (Q 24), .ref (Q 25), .ref (Q 26), .int 0, .int 0, .int 0, .int 0, .int 0, .ref (Q 32), .ref (Q 33), .ref (Q 34), .ref (Q 35), .ref (Q 36), .ref (Q 37), .ref (Q 38), .ref (Q 39), .ref (Q 40), .ref (Q 40), .int 0, .int 0, .int 0, .int 0, .int 0, .int 0, .int 0, .int 0, .int (-1), .int 0, .ref (Q 52), .int 0, .ref (Q 54), .int 0, .ref (Q 56), .ref (Q 57), .ref (Q 58), .ref (Q 59), .ref (Q 60), .ref (Q 61), .ref (Q 62), .ref (Q 63), .ref (Q 64), .ref (Q 65), .ref (Q 66), .ref (Q 67), .ref (Q 68), .int 0, .ref (Q 70), .ref (Q 71)])), (Q 12, .inl (gI G, 4, .inl moDr)), (Q 52, .inl (gI G, 2000, .inl (fun _ => 0))), (Q 5, .inl (gI G, 96, .inl (fun _ => 0))), (Q 6, .inl (gI G, 96, .inl (fun _ => 0))), (Q 7, .inl (gI G, 96, .inl (fun _ => 0))), (Q 8, .inl (gI G, 96, .inl (fun _ => 0))), (Q 9, .inl (gI G, 96, .inl (fun _ => 0))), (Q 10, .inl (gI G, 96, .inl (fun _ => 0))), (Q 11, .inl (gI G, 96, .inl (fun _ => 0)))]) [0, 9, 8, 1, 2, 3, 4, 5, 6, 7] (by decide) rfl
    have hFc := va_free (wc := [(q_3, .inr (14, [.ref (Q 0), .ref (Q 1), .int 0, .int 0, .int 10, .ref (Q 5), .ref (Q 6), .ref (Q 7), .ref (Q 8), .ref (Q 9), .ref (Q 10), .ref (Q 11), .ref (Q 12), .ref (Q 13), .ref (Q 14), .ref (Q 15), .ref (Q 16), .ref (Q 17), .ref (Q 18), .ref (Q 19), .ref (Q 20), .ref (Q 21), .ref (Q 22), .ref (Q 23), .ref (Q 24), .ref (Q 25), .ref (Q 26), .int 0, .int 0, .int 0, .int 0, .int 0, .ref (Q 32), .ref (Q 33), .ref (Q 34), .ref (Q 35), .ref (Q 36), .ref (Q 37), .ref (Q 38), .ref (Q 39), .ref (Q 40), .ref (Q 40), .int 0, .int 0, .int 0, .int 0, .int 0, .int 0, .int 0, .int 0, .int (-1), .int 0, .ref (Q 52), .int 0, .ref (Q 54), .int 0, .ref (Q 56), .ref (Q 57), .ref (Q 58), .ref (Q 59), .ref (Q 60), .ref (Q 61), .ref (Q 62), .ref (Q 63), .ref (Q 64), .ref (Q 65), .ref (Q 66), .ref (Q 67), .ref (Q 68), .int 0, .ref (Q 70), .ref (Q 71)])), (Q 12, .inl (gI G, 4, .inl moDr)), (Q 52, .inl (gI G, 2000, .inl (fun _ => 0))), (Q 5, .inl (gI G, 96, .inl (fun _ => 0))), (Q 6, .inl (gI G, 96, .inl (fun _ => 0))), (Q 7, .inl (gI G, 96, .inl (fun _ => 0))), (Q 8, .inl (gI G, 96, .inl (fun _ => 0))), (Q 9, .inl (gI G, 96, .inl (fun _ => 0))), (Q 10, .inl (gI G, 96, .inl (fun _ => 0))), (Q 11, .inl (gI G, 96, .inl (fun _ => 0)))]) hD hS hA [0, 9, 8, 1, 2, 3, 4, 5, 6, 7] rfl
    refine va_calli (va_runV (As := [.int (xs 1), .int (xs 2)]) (rest := [.int (if (xs 1) < 0 ∨ 16 ≤ (xs 1) ∨ (xs 2) < 0 ∨ 4 ≤ (xs 2) then (-2) else 0)]) ⟨hx, hb, hml, hown, hts⟩ (m_enter l G q_3 Q (fun _ => 0) (fun _ => 0) (fun _ => 0) (fun _ => 0) (fun _ => 0) (fun _ => 0) (fun _ => 0) (fun _ => 0) (xs 1) (xs 2) H.size) (cwV 2 hts (gdV (List.mem_of_getElem? (i := 2179) (by decide +kernel)) (List.mem_of_getElem? (i := 2180) (by decide +kernel)) (List.mem_of_getElem? (i := 2181) (by decide +kernel)) (List.mem_of_getElem? (i := 171) (by decide +kernel)) (fun w9 h9 => ⟨(in_m_enter _ h9), gd_m_enter w9 h9⟩)) rfl rfl rfl kVX13_enter ⟨Nat.le_of_ble_eq_true rfl, Nat.le_of_ble_eq_true rfl⟩) (preV_m (As := [.int (xs 1), .int (xs 2)]) hPc hB hDc rfl rfl) rfl rfl hl.1 rfl (lv_room (Nat.le_of_ble_eq_true rfl)) dL_law_338 ⟨Nat.le_of_ble_eq_true rfl, Nat.le_of_ble_eq_true rfl⟩) hS (fun q _ h => hFc q h) hFc (fun r_43 u t H1 locs ht hvm hw hB1 hz1 hk1 hS => ?_)
    obtain ⟨hP1, hD1⟩ := hB1
    rw [ht] at hP1
    obtain ⟨hP, hD⟩ := va_join (wr := []) (w1 := []) hP hD [0, 9, 8, 1, 2, 3, 4, 5, 6, 7] [] rfl rfl (by decide) (by decide) hk1 hFc hP1 hD1
    generalize H1 = H at hP hS ⊢
    have hP : va_P (gD G) vwCl [] H := hP
    have hD : va_D A [] := hD
    have hw : r_43 = (if (xs 1) < 0 ∨ 16 ≤ (xs 1) ∨ (xs 2) < 0 ∨ 4 ≤ (xs 2) then (-2) else 0) := hw
    refine gx_ti hw ?_
    refine W.eq (g2 := F0 m 341 ls [.int (if (xs 1) < 0 ∨ 16 ≤ (xs 1) ∨ (xs 2) < 0 ∨ 4 ≤ (xs 2) then (-2) else 0), .int (if (xs 1) < 0 ∨ 16 ≤ (xs 1) ∨ (xs 2) < 0 ∨ 4 ≤ (xs 2) then (-2) else 0)]) rfl ?_
    refine lv_icmp_eq (tgt := 953) hx hb dL_law_341 (by decide) (fun _ => ?_) (fun c9 => absurd rfl c9)
    refine lv_iinc (v := 6) (lv' := [(3, .int 6), (2, .ref q_3), (1, .ref q_1), (0, .ref b)]) hx hb dL_law_953 hl (k := 0) rfl (by decide) (by decide) rfl (fun ls hl => ?_)
    refine lv_goto (tgt := 18) hx hb dL_law_956 (by decide) ?_
    refine lv_iload_n hx hb dL_law_18 rfl (lv_at hl 0 rfl) ?_
    refine lv_aload_n hx hb dL_law_19 rfl (lv_at hl 3 rfl) ?_
    refine va_slen hx hb hX hbl hbA hS dL_law_20 ?_
    refine gx_ti (y := 6) (by decide) ?_
    refine lv_bipush (v := 6) hx hb dL_law_21 (by decide) ?_
    refine lv_isub hx hb dL_law_23 ?_
    refine gx_ti (y := 0) (by decide) ?_
    refine lv_icmp_gt (tgt := 959) hx hb dL_law_24 (by decide) (fun _ => ?_) (fun c9 => absurd (by decide) c9)
    refine lv_iconst (v := 1) hx hb dL_law_959 (by decide) ?_
    refine va_forget (fun q hq => hAl q.base (hS.2.2 q hq)) ?_
    refine W.widen (k := 600002) (n := 7302232) (Nat.le_of_ble_eq_true rfl) (Nat.le_of_ble_eq_true rfl) ?_
    exact lw_ret hx hb hr hlocks dL_law_960
  · refine lv_tableIn (off := 313) (tgt := 346) hx hb dL_law_33 (by rw [c_13]; decide) (by rw [c_13]; decide) (by rw [c_13]; rfl) (by decide) ?_
    have hP := hP.sub (ws' := [(q_1, .inr (12, [.ref bk, .ref tp, .ref ps, .ref rl, u1, .ref bd, .ref fr, u2, .ref pn, .ref nl, u3])), (bk, .inr (2, [.ref ca, .ref bc, .ref bb, .ref bs, .int 0, .int 0])), (ca, .inl (gI G, 2088, .inl bk0)), (rl, .inr (9, [.ref bk])), (q_3, .inr (14, [.ref (Q 0), .ref (Q 1), .int 0, .int 0, .int 10, .ref (Q 5), .ref (Q 6), .ref (Q 7), .ref (Q 8), .ref (Q 9), .ref (Q 10), .ref (Q 11), .ref (Q 12), .ref (Q 13), .ref (Q 14), .ref (Q 15), .ref (Q 16), .ref (Q 17), .ref (Q 18), .ref (Q 19), .ref (Q 20), .ref (Q 21), .ref (Q 22), .ref (Q 23), .ref (Q 24), .ref (Q 25), .ref (Q 26), .int 0, .int 0, .int 0, .int 0, .int 0, .ref (Q 32), .ref (Q 33), .ref (Q 34), .ref (Q 35), .ref (Q 36), .ref (Q 37), .ref (Q 38), .ref (Q 39), .ref (Q 40), .ref (Q 40), .int 0, .int 0, .int 0, .int 0, .int 0, .int 0, .int 0, .int 0, .int (-1), .int 0, .ref (Q 52), .int 0, .ref (Q 54), .int 0, .ref (Q 56), .ref (Q 57), .ref (Q 58), .ref (Q 59), .ref (Q 60), .ref (Q 61), .ref (Q 62), .ref (Q 63), .ref (Q 64), .ref (Q 65), .ref (Q 66), .ref (Q 67), .ref (Q 68), .int 0, .ref (Q 70), .ref (Q 71)])), (Q 12, .inl (gI G, 4, .inl moDr))]) [0, 1, 2, 14, 27, 45] rfl
    have hD := hD.sub (ws' := [(q_1, .inr (12, [.ref bk, .ref tp, .ref ps, .ref rl, u1, .ref bd, .ref fr, u2, .ref pn, .ref nl, u3])), (bk, .inr (2, [.ref ca, .ref bc, .ref bb, .ref bs, .int 0, .int 0])), (ca, .inl (gI G, 2088, .inl bk0)), (rl, .inr (9, [.ref bk])), (q_3, .inr (14, [.ref (Q 0), .ref (Q 1), .int 0, .int 0, .int 10, .ref (Q 5), .ref (Q 6), .ref (Q 7), .ref (Q 8), .ref (Q 9), .ref (Q 10), .ref (Q 11), .ref (Q 12), .ref (Q 13), .ref (Q 14), .ref (Q 15), .ref (Q 16), .ref (Q 17), .ref (Q 18), .ref (Q 19), .ref (Q 20), .ref (Q 21), .ref (Q 22), .ref (Q 23), .ref (Q 24), .ref (Q 25), .ref (Q 26), .int 0, .int 0, .int 0, .int 0, .int 0, .ref (Q 32), .ref (Q 33), .ref (Q 34), .ref (Q 35), .ref (Q 36), .ref (Q 37), .ref (Q 38), .ref (Q 39), .ref (Q 40), .ref (Q 40), .int 0, .int 0, .int 0, .int 0, .int 0, .int 0, .int 0, .int 0, .int (-1), .int 0, .ref (Q 52), .int 0, .ref (Q 54), .int 0, .ref (Q 56), .ref (Q 57), .ref (Q 58), .ref (Q 59), .ref (Q 60), .ref (Q 61), .ref (Q 62), .ref (Q 63), .ref (Q 64), .ref (Q 65), .ref (Q 66), .ref (Q 67), .ref (Q 68), .int 0, .ref (Q 70), .ref (Q 71)])), (Q 12, .inl (gI G, 4, .inl moDr))]) [0, 1, 2, 14, 27, 45] (by decide) rfl
    refine lv_aload_n hx hb dL_law_346 rfl (lv_at hl 2 rfl) ?_
    refine lv_aload_n hx hb dL_law_347 rfl (lv_at hl 3 rfl) ?_
    refine lv_iload_n hx hb dL_law_348 rfl (lv_at hl 0 rfl) ?_
    refine lv_iconst (v := 1) hx hb dL_law_349 (by decide) ?_
    refine lv_iadd hx hb dL_law_350 ?_
    refine gx_ti (y := 1) (by decide) ?_
    refine va_sld hx hb hX hbl hbA hS (i := 1) (gx_in (by decide)) dL_law_351 ?_
    refine gx_ti (y := xs 1) rfl ?_
    refine lv_aload_n hx hb dL_law_352 rfl (lv_at hl 3 rfl) ?_
    refine lv_iload_n hx hb dL_law_353 rfl (lv_at hl 0 rfl) ?_
    refine lv_iconst (v := 2) hx hb dL_law_354 (by decide) ?_
    refine lv_iadd hx hb dL_law_355 ?_
    refine gx_ti (y := 2) (by decide) ?_
    refine va_sld hx hb hX hbl hbA hS (i := 2) (gx_in (by decide)) dL_law_356 ?_
    refine gx_ti (y := xs 2) rfl ?_
    refine vp_callSi (va_Run.run (va_runV (As := [.int (xs 1), .int (xs 2)]) (rest := []) ⟨hx, hb, hml, hown, hts⟩ (q_weigh l G q_1 bk tp ps rl u1 bd fr u2 pn nl u3 ca bc bb bs (xs 1) (xs 2)) (cwV 2 hts (gdV (List.mem_of_getElem? (i := 1023) (by decide +kernel)) (List.mem_of_getElem? (i := 1024) (by decide +kernel)) (List.mem_of_getElem? (i := 1025) (by decide +kernel)) (List.mem_of_getElem? (i := 154) (by decide +kernel)) (fun w9 h9 => ⟨(in_q_weigh _ h9), gd_q_weigh w9 h9⟩)) rfl rfl rfl kVX11_weigh ⟨Nat.le_of_ble_eq_true rfl, Nat.le_of_ble_eq_true rfl⟩) (preV_p (As := [.int (xs 1), .int (xs 2)]) (hP.sub (ws' := [(q_1, .inr (12, [.ref bk, .ref tp, .ref ps, .ref rl, u1, .ref bd, .ref fr, u2, .ref pn, .ref nl, u3])), (rl, .inr (9, [.ref bk])), (bk, .inr (2, [.ref ca, .ref bc, .ref bb, .ref bs, .int 0, .int 0])), (ca, .inl (gI G, 2088, .inl bk0))]) [0, 3, 1, 2] rfl) hB rfl rfl) rfl rfl hl.1 rfl (lv_room (Nat.le_of_ble_eq_true rfl)) dL_law_357 ⟨Nat.le_of_ble_eq_true rfl, Nat.le_of_ble_eq_true rfl⟩)) (fun r_44 hr_44 => ?_)
    subst hr_44
    refine lv_aload_n hx hb dL_law_360 rfl (lv_at hl 1 rfl) ?_
    refine lv_aload_n hx hb dL_law_361 rfl (lv_at hl 3 rfl) ?_
    refine lv_iload_n hx hb dL_law_362 rfl (lv_at hl 0 rfl) ?_
    refine lv_iconst (v := 1) hx hb dL_law_363 (by decide) ?_
    refine lv_iadd hx hb dL_law_364 ?_
    refine gx_ti (y := 1) (by decide) ?_
    refine va_sld hx hb hX hbl hbA hS (i := 1) (gx_in (by decide)) dL_law_365 ?_
    refine gx_ti (y := xs 1) rfl ?_
    refine lv_aload_n hx hb dL_law_366 rfl (lv_at hl 3 rfl) ?_
    refine lv_iload_n hx hb dL_law_367 rfl (lv_at hl 0 rfl) ?_
    refine lv_iconst (v := 2) hx hb dL_law_368 (by decide) ?_
    refine lv_iadd hx hb dL_law_369 ?_
    refine gx_ti (y := 2) (by decide) ?_
    refine va_sld hx hb hX hbl hbA hS (i := 2) (gx_in (by decide)) dL_law_370 ?_
    refine gx_ti (y := xs 2) rfl ?_
    refine vp_callSi (va_Run.run (va_runV (As := [.int (xs 1), .int (xs 2)]) (rest := [.int (-2)]) ⟨hx, hb, hml, hown, hts⟩ (m_weigh l G q_3 Q (xs 1) (xs 2)) (cwV 2 hts (gdV (List.mem_of_getElem? (i := 2184) (by decide +kernel)) (List.mem_of_getElem? (i := 2185) (by decide +kernel)) (List.mem_of_getElem? (i := 2186) (by decide +kernel)) (List.mem_of_getElem? (i := 171) (by decide +kernel)) (fun w9 h9 => ⟨(in_m_weigh _ h9), gd_m_weigh w9 h9⟩)) rfl rfl rfl kVX13_weigh ⟨Nat.le_of_ble_eq_true rfl, Nat.le_of_ble_eq_true rfl⟩) (preV_p (As := [.int (xs 1), .int (xs 2)]) (hP.sub (ws' := [(q_3, .inr (14, [.ref (Q 0), .ref (Q 1), .int 0, .int 0, .int 10, .ref (Q 5), .ref (Q 6), .ref (Q 7), .ref (Q 8), .ref (Q 9), .ref (Q 10), .ref (Q 11), .ref (Q 12), .ref (Q 13), .ref (Q 14), .ref (Q 15), .ref (Q 16), .ref (Q 17), .ref (Q 18), .ref (Q 19), .ref (Q 20), .ref (Q 21), .ref (Q 22), .ref (Q 23), .ref (Q 24), .ref (Q 25), .ref (Q 26), .int 0, .int 0, .int 0, .int 0, .int 0, .ref (Q 32), .ref (Q 33), .ref (Q 34), .ref (Q 35), .ref (Q 36), .ref (Q 37), .ref (Q 38), .ref (Q 39), .ref (Q 40), .ref (Q 40), .int 0, .int 0, .int 0, .int 0, .int 0, .int 0, .int 0, .int 0, .int (-1), .int 0, .ref (Q 52), .int 0, .ref (Q 54), .int 0, .ref (Q 56), .ref (Q 57), .ref (Q 58), .ref (Q 59), .ref (Q 60), .ref (Q 61), .ref (Q 62), .ref (Q 63), .ref (Q 64), .ref (Q 65), .ref (Q 66), .ref (Q 67), .ref (Q 68), .int 0, .ref (Q 70), .ref (Q 71)])), (Q 12, .inl (gI G, 4, .inl moDr))]) [4, 5] rfl) hB rfl rfl) rfl rfl hl.1 rfl (lv_room (Nat.le_of_ble_eq_true rfl)) dL_law_371 ⟨Nat.le_of_ble_eq_true rfl, Nat.le_of_ble_eq_true rfl⟩)) (fun r_45 hr_45 => ?_)
    subst hr_45
    refine lv_icmp_eq (tgt := 953) hx hb dL_law_374 (by decide) (fun _ => ?_) (fun c9 => absurd (by decide) c9)
    refine lv_iinc (v := 6) (lv' := [(3, .int 6), (2, .ref q_3), (1, .ref q_1), (0, .ref b)]) hx hb dL_law_953 hl (k := 0) rfl (by decide) (by decide) rfl (fun ls hl => ?_)
    refine lv_goto (tgt := 18) hx hb dL_law_956 (by decide) ?_
    refine lv_iload_n hx hb dL_law_18 rfl (lv_at hl 0 rfl) ?_
    refine lv_aload_n hx hb dL_law_19 rfl (lv_at hl 3 rfl) ?_
    refine va_slen hx hb hX hbl hbA hS dL_law_20 ?_
    refine gx_ti (y := 6) (by decide) ?_
    refine lv_bipush (v := 6) hx hb dL_law_21 (by decide) ?_
    refine lv_isub hx hb dL_law_23 ?_
    refine gx_ti (y := 0) (by decide) ?_
    refine lv_icmp_gt (tgt := 959) hx hb dL_law_24 (by decide) (fun _ => ?_) (fun c9 => absurd (by decide) c9)
    refine lv_iconst (v := 1) hx hb dL_law_959 (by decide) ?_
    refine va_forget (fun q hq => hAl q.base (hS.2.2 q hq)) ?_
    refine W.widen (k := 600002) (n := 7302232) (Nat.le_of_ble_eq_true rfl) (Nat.le_of_ble_eq_true rfl) ?_
    exact lw_ret hx hb hr hlocks dL_law_960
  · refine lv_tableIn (off := 346) (tgt := 379) hx hb dL_law_33 (by rw [c_14]; decide) (by rw [c_14]; decide) (by rw [c_14]; rfl) (by decide) ?_
    have hP := hP.sub (ws' := [(q_1, .inr (12, [.ref bk, .ref tp, .ref ps, .ref rl, u1, .ref bd, .ref fr, u2, .ref pn, .ref nl, u3])), (bk, .inr (2, [.ref ca, .ref bc, .ref bb, .ref bs, .int 0, .int 0])), (ca, .inl (gI G, 2088, .inl bk0)), (rl, .inr (9, [.ref bk])), (q_3, .inr (14, [.ref (Q 0), .ref (Q 1), .int 0, .int 0, .int 10, .ref (Q 5), .ref (Q 6), .ref (Q 7), .ref (Q 8), .ref (Q 9), .ref (Q 10), .ref (Q 11), .ref (Q 12), .ref (Q 13), .ref (Q 14), .ref (Q 15), .ref (Q 16), .ref (Q 17), .ref (Q 18), .ref (Q 19), .ref (Q 20), .ref (Q 21), .ref (Q 22), .ref (Q 23), .ref (Q 24), .ref (Q 25), .ref (Q 26), .int 0, .int 0, .int 0, .int 0, .int 0, .ref (Q 32), .ref (Q 33), .ref (Q 34), .ref (Q 35), .ref (Q 36), .ref (Q 37), .ref (Q 38), .ref (Q 39), .ref (Q 40), .ref (Q 40), .int 0, .int 0, .int 0, .int 0, .int 0, .int 0, .int 0, .int 0, .int (-1), .int 0, .ref (Q 52), .int 0, .ref (Q 54), .int 0, .ref (Q 56), .ref (Q 57), .ref (Q 58), .ref (Q 59), .ref (Q 60), .ref (Q 61), .ref (Q 62), .ref (Q 63), .ref (Q 64), .ref (Q 65), .ref (Q 66), .ref (Q 67), .ref (Q 68), .int 0, .ref (Q 70), .ref (Q 71)])), (Q 12, .inl (gI G, 4, .inl moDr))]) [0, 1, 2, 14, 27, 45] rfl
    have hD := hD.sub (ws' := [(q_1, .inr (12, [.ref bk, .ref tp, .ref ps, .ref rl, u1, .ref bd, .ref fr, u2, .ref pn, .ref nl, u3])), (bk, .inr (2, [.ref ca, .ref bc, .ref bb, .ref bs, .int 0, .int 0])), (ca, .inl (gI G, 2088, .inl bk0)), (rl, .inr (9, [.ref bk])), (q_3, .inr (14, [.ref (Q 0), .ref (Q 1), .int 0, .int 0, .int 10, .ref (Q 5), .ref (Q 6), .ref (Q 7), .ref (Q 8), .ref (Q 9), .ref (Q 10), .ref (Q 11), .ref (Q 12), .ref (Q 13), .ref (Q 14), .ref (Q 15), .ref (Q 16), .ref (Q 17), .ref (Q 18), .ref (Q 19), .ref (Q 20), .ref (Q 21), .ref (Q 22), .ref (Q 23), .ref (Q 24), .ref (Q 25), .ref (Q 26), .int 0, .int 0, .int 0, .int 0, .int 0, .ref (Q 32), .ref (Q 33), .ref (Q 34), .ref (Q 35), .ref (Q 36), .ref (Q 37), .ref (Q 38), .ref (Q 39), .ref (Q 40), .ref (Q 40), .int 0, .int 0, .int 0, .int 0, .int 0, .int 0, .int 0, .int 0, .int (-1), .int 0, .ref (Q 52), .int 0, .ref (Q 54), .int 0, .ref (Q 56), .ref (Q 57), .ref (Q 58), .ref (Q 59), .ref (Q 60), .ref (Q 61), .ref (Q 62), .ref (Q 63), .ref (Q 64), .ref (Q 65), .ref (Q 66), .ref (Q 67), .ref (Q 68), .int 0, .ref (Q 70), .ref (Q 71)])), (Q 12, .inl (gI G, 4, .inl moDr))]) [0, 1, 2, 14, 27, 45] (by decide) rfl
    refine lv_aload_n hx hb dL_law_379 rfl (lv_at hl 2 rfl) ?_
    refine lv_aload_n hx hb dL_law_380 rfl (lv_at hl 3 rfl) ?_
    refine lv_iload_n hx hb dL_law_381 rfl (lv_at hl 0 rfl) ?_
    refine lv_iconst (v := 1) hx hb dL_law_382 (by decide) ?_
    refine lv_iadd hx hb dL_law_383 ?_
    refine gx_ti (y := 1) (by decide) ?_
    refine va_sld hx hb hX hbl hbA hS (i := 1) (gx_in (by decide)) dL_law_384 ?_
    refine gx_ti (y := xs 1) rfl ?_
    refine lv_aload_n hx hb dL_law_385 rfl (lv_at hl 3 rfl) ?_
    refine lv_iload_n hx hb dL_law_386 rfl (lv_at hl 0 rfl) ?_
    refine lv_iconst (v := 2) hx hb dL_law_387 (by decide) ?_
    refine lv_iadd hx hb dL_law_388 ?_
    refine gx_ti (y := 2) (by decide) ?_
    refine va_sld hx hb hX hbl hbA hS (i := 2) (gx_in (by decide)) dL_law_389 ?_
    refine gx_ti (y := xs 2) rfl ?_
    refine vp_callSi (va_Run.run (va_runV (As := [.int (xs 1), .int (xs 2)]) (rest := []) ⟨hx, hb, hml, hown, hts⟩ (q_seed l G q_1 bk tp ps rl u1 bd fr u2 pn nl u3 ca bc bb bs (xs 1) (xs 2)) (cwV 2 hts (gdV (List.mem_of_getElem? (i := 1037) (by decide +kernel)) (List.mem_of_getElem? (i := 1038) (by decide +kernel)) (List.mem_of_getElem? (i := 1039) (by decide +kernel)) (List.mem_of_getElem? (i := 154) (by decide +kernel)) (fun w9 h9 => ⟨(in_q_seed _ h9), gd_q_seed w9 h9⟩)) rfl rfl rfl kVX11_seed ⟨Nat.le_of_ble_eq_true rfl, Nat.le_of_ble_eq_true rfl⟩) (preV_p (As := [.int (xs 1), .int (xs 2)]) (hP.sub (ws' := [(q_1, .inr (12, [.ref bk, .ref tp, .ref ps, .ref rl, u1, .ref bd, .ref fr, u2, .ref pn, .ref nl, u3])), (rl, .inr (9, [.ref bk])), (bk, .inr (2, [.ref ca, .ref bc, .ref bb, .ref bs, .int 0, .int 0])), (ca, .inl (gI G, 2088, .inl bk0))]) [0, 3, 1, 2] rfl) hB rfl rfl) rfl rfl hl.1 rfl (lv_room (Nat.le_of_ble_eq_true rfl)) dL_law_390 ⟨Nat.le_of_ble_eq_true rfl, Nat.le_of_ble_eq_true rfl⟩)) (fun r_46 hr_46 => ?_)
    subst hr_46
    refine lv_aload_n hx hb dL_law_393 rfl (lv_at hl 1 rfl) ?_
    refine lv_aload_n hx hb dL_law_394 rfl (lv_at hl 3 rfl) ?_
    refine lv_iload_n hx hb dL_law_395 rfl (lv_at hl 0 rfl) ?_
    refine lv_iconst (v := 1) hx hb dL_law_396 (by decide) ?_
    refine lv_iadd hx hb dL_law_397 ?_
    refine gx_ti (y := 1) (by decide) ?_
    refine va_sld hx hb hX hbl hbA hS (i := 1) (gx_in (by decide)) dL_law_398 ?_
    refine gx_ti (y := xs 1) rfl ?_
    refine lv_aload_n hx hb dL_law_399 rfl (lv_at hl 3 rfl) ?_
    refine lv_iload_n hx hb dL_law_400 rfl (lv_at hl 0 rfl) ?_
    refine lv_iconst (v := 2) hx hb dL_law_401 (by decide) ?_
    refine lv_iadd hx hb dL_law_402 ?_
    refine gx_ti (y := 2) (by decide) ?_
    refine va_sld hx hb hX hbl hbA hS (i := 2) (gx_in (by decide)) dL_law_403 ?_
    refine gx_ti (y := xs 2) rfl ?_
    refine vp_callSi (va_Run.run (va_runV (As := [.int (xs 1), .int (xs 2)]) (rest := [.int (-2)]) ⟨hx, hb, hml, hown, hts⟩ (m_seed l G q_3 Q (xs 1) (xs 2)) (cwV 2 hts (gdV (List.mem_of_getElem? (i := 2192) (by decide +kernel)) (List.mem_of_getElem? (i := 2193) (by decide +kernel)) (List.mem_of_getElem? (i := 2194) (by decide +kernel)) (List.mem_of_getElem? (i := 171) (by decide +kernel)) (fun w9 h9 => ⟨(in_m_seed _ h9), gd_m_seed w9 h9⟩)) rfl rfl rfl kVX13_seed ⟨Nat.le_of_ble_eq_true rfl, Nat.le_of_ble_eq_true rfl⟩) (preV_p (As := [.int (xs 1), .int (xs 2)]) (hP.sub (ws' := [(q_3, .inr (14, [.ref (Q 0), .ref (Q 1), .int 0, .int 0, .int 10, .ref (Q 5), .ref (Q 6), .ref (Q 7), .ref (Q 8), .ref (Q 9), .ref (Q 10), .ref (Q 11), .ref (Q 12), .ref (Q 13), .ref (Q 14), .ref (Q 15), .ref (Q 16), .ref (Q 17), .ref (Q 18), .ref (Q 19), .ref (Q 20), .ref (Q 21), .ref (Q 22), .ref (Q 23), .ref (Q 24), .ref (Q 25), .ref (Q 26), .int 0, .int 0, .int 0, .int 0, .int 0, .ref (Q 32), .ref (Q 33), .ref (Q 34), .ref (Q 35), .ref (Q 36), .ref (Q 37), .ref (Q 38), .ref (Q 39), .ref (Q 40), .ref (Q 40), .int 0, .int 0, .int 0, .int 0, .int 0, .int 0, .int 0, .int 0, .int (-1), .int 0, .ref (Q 52), .int 0, .ref (Q 54), .int 0, .ref (Q 56), .ref (Q 57), .ref (Q 58), .ref (Q 59), .ref (Q 60), .ref (Q 61), .ref (Q 62), .ref (Q 63), .ref (Q 64), .ref (Q 65), .ref (Q 66), .ref (Q 67), .ref (Q 68), .int 0, .ref (Q 70), .ref (Q 71)])), (Q 12, .inl (gI G, 4, .inl moDr))]) [4, 5] rfl) hB rfl rfl) rfl rfl hl.1 rfl (lv_room (Nat.le_of_ble_eq_true rfl)) dL_law_404 ⟨Nat.le_of_ble_eq_true rfl, Nat.le_of_ble_eq_true rfl⟩)) (fun r_47 hr_47 => ?_)
    subst hr_47
    refine lv_icmp_eq (tgt := 953) hx hb dL_law_407 (by decide) (fun _ => ?_) (fun c9 => absurd (by decide) c9)
    refine lv_iinc (v := 6) (lv' := [(3, .int 6), (2, .ref q_3), (1, .ref q_1), (0, .ref b)]) hx hb dL_law_953 hl (k := 0) rfl (by decide) (by decide) rfl (fun ls hl => ?_)
    refine lv_goto (tgt := 18) hx hb dL_law_956 (by decide) ?_
    refine lv_iload_n hx hb dL_law_18 rfl (lv_at hl 0 rfl) ?_
    refine lv_aload_n hx hb dL_law_19 rfl (lv_at hl 3 rfl) ?_
    refine va_slen hx hb hX hbl hbA hS dL_law_20 ?_
    refine gx_ti (y := 6) (by decide) ?_
    refine lv_bipush (v := 6) hx hb dL_law_21 (by decide) ?_
    refine lv_isub hx hb dL_law_23 ?_
    refine gx_ti (y := 0) (by decide) ?_
    refine lv_icmp_gt (tgt := 959) hx hb dL_law_24 (by decide) (fun _ => ?_) (fun c9 => absurd (by decide) c9)
    refine lv_iconst (v := 1) hx hb dL_law_959 (by decide) ?_
    refine va_forget (fun q hq => hAl q.base (hS.2.2 q hq)) ?_
    refine W.widen (k := 600002) (n := 7302232) (Nat.le_of_ble_eq_true rfl) (Nat.le_of_ble_eq_true rfl) ?_
    exact lw_ret hx hb hr hlocks dL_law_960
  · refine lv_tableIn (off := 379) (tgt := 412) hx hb dL_law_33 (by rw [c_15]; decide) (by rw [c_15]; decide) (by rw [c_15]; rfl) (by decide) ?_
    have hP := hP.sub (ws' := [(q_1, .inr (12, [.ref bk, .ref tp, .ref ps, .ref rl, u1, .ref bd, .ref fr, u2, .ref pn, .ref nl, u3])), (bk, .inr (2, [.ref ca, .ref bc, .ref bb, .ref bs, .int 0, .int 0])), (ca, .inl (gI G, 2088, .inl bk0)), (rl, .inr (9, [.ref bk])), (bd, .inr (1, [.ref bk, b1, b2, b3, b4, b5])), (q_3, .inr (14, [.ref (Q 0), .ref (Q 1), .int 0, .int 0, .int 10, .ref (Q 5), .ref (Q 6), .ref (Q 7), .ref (Q 8), .ref (Q 9), .ref (Q 10), .ref (Q 11), .ref (Q 12), .ref (Q 13), .ref (Q 14), .ref (Q 15), .ref (Q 16), .ref (Q 17), .ref (Q 18), .ref (Q 19), .ref (Q 20), .ref (Q 21), .ref (Q 22), .ref (Q 23), .ref (Q 24), .ref (Q 25), .ref (Q 26), .int 0, .int 0, .int 0, .int 0, .int 0, .ref (Q 32), .ref (Q 33), .ref (Q 34), .ref (Q 35), .ref (Q 36), .ref (Q 37), .ref (Q 38), .ref (Q 39), .ref (Q 40), .ref (Q 40), .int 0, .int 0, .int 0, .int 0, .int 0, .int 0, .int 0, .int 0, .int (-1), .int 0, .ref (Q 52), .int 0, .ref (Q 54), .int 0, .ref (Q 56), .ref (Q 57), .ref (Q 58), .ref (Q 59), .ref (Q 60), .ref (Q 61), .ref (Q 62), .ref (Q 63), .ref (Q 64), .ref (Q 65), .ref (Q 66), .ref (Q 67), .ref (Q 68), .int 0, .ref (Q 70), .ref (Q 71)])), (Q 12, .inl (gI G, 4, .inl moDr))]) [0, 1, 2, 14, 15, 27, 45] rfl
    have hD := hD.sub (ws' := [(q_1, .inr (12, [.ref bk, .ref tp, .ref ps, .ref rl, u1, .ref bd, .ref fr, u2, .ref pn, .ref nl, u3])), (bk, .inr (2, [.ref ca, .ref bc, .ref bb, .ref bs, .int 0, .int 0])), (ca, .inl (gI G, 2088, .inl bk0)), (rl, .inr (9, [.ref bk])), (bd, .inr (1, [.ref bk, b1, b2, b3, b4, b5])), (q_3, .inr (14, [.ref (Q 0), .ref (Q 1), .int 0, .int 0, .int 10, .ref (Q 5), .ref (Q 6), .ref (Q 7), .ref (Q 8), .ref (Q 9), .ref (Q 10), .ref (Q 11), .ref (Q 12), .ref (Q 13), .ref (Q 14), .ref (Q 15), .ref (Q 16), .ref (Q 17), .ref (Q 18), .ref (Q 19), .ref (Q 20), .ref (Q 21), .ref (Q 22), .ref (Q 23), .ref (Q 24), .ref (Q 25), .ref (Q 26), .int 0, .int 0, .int 0, .int 0, .int 0, .ref (Q 32), .ref (Q 33), .ref (Q 34), .ref (Q 35), .ref (Q 36), .ref (Q 37), .ref (Q 38), .ref (Q 39), .ref (Q 40), .ref (Q 40), .int 0, .int 0, .int 0, .int 0, .int 0, .int 0, .int 0, .int 0, .int (-1), .int 0, .ref (Q 52), .int 0, .ref (Q 54), .int 0, .ref (Q 56), .ref (Q 57), .ref (Q 58), .ref (Q 59), .ref (Q 60), .ref (Q 61), .ref (Q 62), .ref (Q 63), .ref (Q 64), .ref (Q 65), .ref (Q 66), .ref (Q 67), .ref (Q 68), .int 0, .ref (Q 70), .ref (Q 71)])), (Q 12, .inl (gI G, 4, .inl moDr))]) [0, 1, 2, 14, 15, 27, 45] (by decide) rfl
    refine lv_aload_n hx hb dL_law_412 rfl (lv_at hl 2 rfl) ?_
    refine lv_aload_n hx hb dL_law_413 rfl (lv_at hl 3 rfl) ?_
    refine lv_iload_n hx hb dL_law_414 rfl (lv_at hl 0 rfl) ?_
    refine lv_iconst (v := 1) hx hb dL_law_415 (by decide) ?_
    refine lv_iadd hx hb dL_law_416 ?_
    refine gx_ti (y := 1) (by decide) ?_
    refine va_sld hx hb hX hbl hbA hS (i := 1) (gx_in (by decide)) dL_law_417 ?_
    refine gx_ti (y := xs 1) rfl ?_
    refine vp_callSi (va_Run.run (va_runV (As := [.int (xs 1)]) (rest := []) ⟨hx, hb, hml, hown, hts⟩ (q_draw l G q_1 bk tp ps rl u1 bd fr u2 pn nl u3 b1 b2 b3 b4 b5 ca bc bb bs (xs 1)) (cwV 1 hts (gdV (List.mem_of_getElem? (i := 1046) (by decide +kernel)) (List.mem_of_getElem? (i := 1047) (by decide +kernel)) (List.mem_of_getElem? (i := 1048) (by decide +kernel)) (List.mem_of_getElem? (i := 154) (by decide +kernel)) (fun w9 h9 => ⟨(in_q_draw _ h9), gd_q_draw w9 h9⟩)) rfl rfl rfl kVX11_draw ⟨Nat.le_of_ble_eq_true rfl, Nat.le_of_ble_eq_true rfl⟩) (preV_p (As := [.int (xs 1)]) (hP.sub (ws' := [(q_1, .inr (12, [.ref bk, .ref tp, .ref ps, .ref rl, u1, .ref bd, .ref fr, u2, .ref pn, .ref nl, u3])), (rl, .inr (9, [.ref bk])), (bd, .inr (1, [.ref bk, b1, b2, b3, b4, b5])), (bk, .inr (2, [.ref ca, .ref bc, .ref bb, .ref bs, .int 0, .int 0])), (ca, .inl (gI G, 2088, .inl bk0))]) [0, 3, 4, 1, 2] rfl) hB rfl rfl) rfl rfl hl.1 rfl (lv_room (Nat.le_of_ble_eq_true rfl)) dL_law_418 ⟨Nat.le_of_ble_eq_true rfl, Nat.le_of_ble_eq_true rfl⟩)) (fun r_48 hr_48 => ?_)
    subst hr_48
    refine lv_aload_n hx hb dL_law_421 rfl (lv_at hl 1 rfl) ?_
    refine lv_aload_n hx hb dL_law_422 rfl (lv_at hl 3 rfl) ?_
    refine lv_iload_n hx hb dL_law_423 rfl (lv_at hl 0 rfl) ?_
    refine lv_iconst (v := 1) hx hb dL_law_424 (by decide) ?_
    refine lv_iadd hx hb dL_law_425 ?_
    refine gx_ti (y := 1) (by decide) ?_
    refine va_sld hx hb hX hbl hbA hS (i := 1) (gx_in (by decide)) dL_law_426 ?_
    refine gx_ti (y := xs 1) rfl ?_
    refine vp_callSi (va_Run.run (va_runV (As := [.int (xs 1)]) (rest := [.int (if (xs 1) < 0 ∨ 4 ≤ (xs 1) then (-2) else (-1))]) ⟨hx, hb, hml, hown, hts⟩ (m_draw l G q_3 Q (xs 1)) (cwV 1 hts (gdV (List.mem_of_getElem? (i := 2197) (by decide +kernel)) (List.mem_of_getElem? (i := 2198) (by decide +kernel)) (List.mem_of_getElem? (i := 2199) (by decide +kernel)) (List.mem_of_getElem? (i := 171) (by decide +kernel)) (fun w9 h9 => ⟨(in_m_draw _ h9), gd_m_draw w9 h9⟩)) rfl rfl rfl kVX13_draw ⟨Nat.le_of_ble_eq_true rfl, Nat.le_of_ble_eq_true rfl⟩) (preV_p (As := [.int (xs 1)]) (hP.sub (ws' := [(q_3, .inr (14, [.ref (Q 0), .ref (Q 1), .int 0, .int 0, .int 10, .ref (Q 5), .ref (Q 6), .ref (Q 7), .ref (Q 8), .ref (Q 9), .ref (Q 10), .ref (Q 11), .ref (Q 12), .ref (Q 13), .ref (Q 14), .ref (Q 15), .ref (Q 16), .ref (Q 17), .ref (Q 18), .ref (Q 19), .ref (Q 20), .ref (Q 21), .ref (Q 22), .ref (Q 23), .ref (Q 24), .ref (Q 25), .ref (Q 26), .int 0, .int 0, .int 0, .int 0, .int 0, .ref (Q 32), .ref (Q 33), .ref (Q 34), .ref (Q 35), .ref (Q 36), .ref (Q 37), .ref (Q 38), .ref (Q 39), .ref (Q 40), .ref (Q 40), .int 0, .int 0, .int 0, .int 0, .int 0, .int 0, .int 0, .int 0, .int (-1), .int 0, .ref (Q 52), .int 0, .ref (Q 54), .int 0, .ref (Q 56), .ref (Q 57), .ref (Q 58), .ref (Q 59), .ref (Q 60), .ref (Q 61), .ref (Q 62), .ref (Q 63), .ref (Q 64), .ref (Q 65), .ref (Q 66), .ref (Q 67), .ref (Q 68), .int 0, .ref (Q 70), .ref (Q 71)])), (Q 12, .inl (gI G, 4, .inl moDr))]) [5, 6] rfl) hB rfl rfl) rfl rfl hl.1 rfl (lv_room (Nat.le_of_ble_eq_true rfl)) dL_law_427 ⟨Nat.le_of_ble_eq_true rfl, Nat.le_of_ble_eq_true rfl⟩)) (fun r_49 hr_49 => ?_)
    subst hr_49
    refine lv_icmp_eq (tgt := 953) hx hb dL_law_430 (by decide) (fun _ => ?_) (fun c9 => absurd rfl c9)
    refine lv_iinc (v := 6) (lv' := [(3, .int 6), (2, .ref q_3), (1, .ref q_1), (0, .ref b)]) hx hb dL_law_953 hl (k := 0) rfl (by decide) (by decide) rfl (fun ls hl => ?_)
    refine lv_goto (tgt := 18) hx hb dL_law_956 (by decide) ?_
    refine lv_iload_n hx hb dL_law_18 rfl (lv_at hl 0 rfl) ?_
    refine lv_aload_n hx hb dL_law_19 rfl (lv_at hl 3 rfl) ?_
    refine va_slen hx hb hX hbl hbA hS dL_law_20 ?_
    refine gx_ti (y := 6) (by decide) ?_
    refine lv_bipush (v := 6) hx hb dL_law_21 (by decide) ?_
    refine lv_isub hx hb dL_law_23 ?_
    refine gx_ti (y := 0) (by decide) ?_
    refine lv_icmp_gt (tgt := 959) hx hb dL_law_24 (by decide) (fun _ => ?_) (fun c9 => absurd (by decide) c9)
    refine lv_iconst (v := 1) hx hb dL_law_959 (by decide) ?_
    refine va_forget (fun q hq => hAl q.base (hS.2.2 q hq)) ?_
    refine W.widen (k := 600002) (n := 7302232) (Nat.le_of_ble_eq_true rfl) (Nat.le_of_ble_eq_true rfl) ?_
    exact lw_ret hx hb hr hlocks dL_law_960
  · refine lv_tableIn (off := 402) (tgt := 435) hx hb dL_law_33 (by rw [c_16]; decide) (by rw [c_16]; decide) (by rw [c_16]; rfl) (by decide) ?_
    have hP := hP.sub (ws' := [(q_1, .inr (12, [.ref bk, .ref tp, .ref ps, .ref rl, u1, .ref bd, .ref fr, u2, .ref pn, .ref nl, u3])), (bk, .inr (2, [.ref ca, .ref bc, .ref bb, .ref bs, .int 0, .int 0])), (ca, .inl (gI G, 2088, .inl bk0)), (rl, .inr (9, [.ref bk])), (q_3, .inr (14, [.ref (Q 0), .ref (Q 1), .int 0, .int 0, .int 10, .ref (Q 5), .ref (Q 6), .ref (Q 7), .ref (Q 8), .ref (Q 9), .ref (Q 10), .ref (Q 11), .ref (Q 12), .ref (Q 13), .ref (Q 14), .ref (Q 15), .ref (Q 16), .ref (Q 17), .ref (Q 18), .ref (Q 19), .ref (Q 20), .ref (Q 21), .ref (Q 22), .ref (Q 23), .ref (Q 24), .ref (Q 25), .ref (Q 26), .int 0, .int 0, .int 0, .int 0, .int 0, .ref (Q 32), .ref (Q 33), .ref (Q 34), .ref (Q 35), .ref (Q 36), .ref (Q 37), .ref (Q 38), .ref (Q 39), .ref (Q 40), .ref (Q 40), .int 0, .int 0, .int 0, .int 0, .int 0, .int 0, .int 0, .int 0, .int (-1), .int 0, .ref (Q 52), .int 0, .ref (Q 54), .int 0, .ref (Q 56), .ref (Q 57), .ref (Q 58), .ref (Q 59), .ref (Q 60), .ref (Q 61), .ref (Q 62), .ref (Q 63), .ref (Q 64), .ref (Q 65), .ref (Q 66), .ref (Q 67), .ref (Q 68), .int 0, .ref (Q 70), .ref (Q 71)]))]) [0, 1, 2, 14, 27] rfl
    have hD := hD.sub (ws' := [(q_1, .inr (12, [.ref bk, .ref tp, .ref ps, .ref rl, u1, .ref bd, .ref fr, u2, .ref pn, .ref nl, u3])), (bk, .inr (2, [.ref ca, .ref bc, .ref bb, .ref bs, .int 0, .int 0])), (ca, .inl (gI G, 2088, .inl bk0)), (rl, .inr (9, [.ref bk])), (q_3, .inr (14, [.ref (Q 0), .ref (Q 1), .int 0, .int 0, .int 10, .ref (Q 5), .ref (Q 6), .ref (Q 7), .ref (Q 8), .ref (Q 9), .ref (Q 10), .ref (Q 11), .ref (Q 12), .ref (Q 13), .ref (Q 14), .ref (Q 15), .ref (Q 16), .ref (Q 17), .ref (Q 18), .ref (Q 19), .ref (Q 20), .ref (Q 21), .ref (Q 22), .ref (Q 23), .ref (Q 24), .ref (Q 25), .ref (Q 26), .int 0, .int 0, .int 0, .int 0, .int 0, .ref (Q 32), .ref (Q 33), .ref (Q 34), .ref (Q 35), .ref (Q 36), .ref (Q 37), .ref (Q 38), .ref (Q 39), .ref (Q 40), .ref (Q 40), .int 0, .int 0, .int 0, .int 0, .int 0, .int 0, .int 0, .int 0, .int (-1), .int 0, .ref (Q 52), .int 0, .ref (Q 54), .int 0, .ref (Q 56), .ref (Q 57), .ref (Q 58), .ref (Q 59), .ref (Q 60), .ref (Q 61), .ref (Q 62), .ref (Q 63), .ref (Q 64), .ref (Q 65), .ref (Q 66), .ref (Q 67), .ref (Q 68), .int 0, .ref (Q 70), .ref (Q 71)]))]) [0, 1, 2, 14, 27] (by decide) rfl
    refine lv_aload_n hx hb dL_law_435 rfl (lv_at hl 2 rfl) ?_
    refine lv_aload_n hx hb dL_law_436 rfl (lv_at hl 3 rfl) ?_
    refine lv_iload_n hx hb dL_law_437 rfl (lv_at hl 0 rfl) ?_
    refine lv_iconst (v := 1) hx hb dL_law_438 (by decide) ?_
    refine lv_iadd hx hb dL_law_439 ?_
    refine gx_ti (y := 1) (by decide) ?_
    refine va_sld hx hb hX hbl hbA hS (i := 1) (gx_in (by decide)) dL_law_440 ?_
    refine gx_ti (y := xs 1) rfl ?_
    refine lv_aload_n hx hb dL_law_441 rfl (lv_at hl 3 rfl) ?_
    refine lv_iload_n hx hb dL_law_442 rfl (lv_at hl 0 rfl) ?_
    refine lv_iconst (v := 2) hx hb dL_law_443 (by decide) ?_
    refine lv_iadd hx hb dL_law_444 ?_
    refine gx_ti (y := 2) (by decide) ?_
    refine va_sld hx hb hX hbl hbA hS (i := 2) (gx_in (by decide)) dL_law_445 ?_
    refine gx_ti (y := xs 2) rfl ?_
    refine vp_callSi (va_Run.run (va_runV (As := [.int (xs 1), .int (xs 2)]) (rest := []) ⟨hx, hb, hml, hown, hts⟩ (q_fighter l G q_1 bk tp ps rl u1 bd fr u2 pn nl u3 ca bc bb bs (xs 1) (xs 2)) (cwV 2 hts (gdV (List.mem_of_getElem? (i := 1183) (by decide +kernel)) (List.mem_of_getElem? (i := 1184) (by decide +kernel)) (List.mem_of_getElem? (i := 1185) (by decide +kernel)) (List.mem_of_getElem? (i := 154) (by decide +kernel)) (fun w9 h9 => ⟨(in_q_fighter _ h9), gd_q_fighter w9 h9⟩)) rfl rfl rfl kVX11_fighter ⟨Nat.le_of_ble_eq_true rfl, Nat.le_of_ble_eq_true rfl⟩) (preV_p (As := [.int (xs 1), .int (xs 2)]) (hP.sub (ws' := [(q_1, .inr (12, [.ref bk, .ref tp, .ref ps, .ref rl, u1, .ref bd, .ref fr, u2, .ref pn, .ref nl, u3])), (rl, .inr (9, [.ref bk])), (bk, .inr (2, [.ref ca, .ref bc, .ref bb, .ref bs, .int 0, .int 0])), (ca, .inl (gI G, 2088, .inl bk0))]) [0, 3, 1, 2] rfl) hB rfl rfl) rfl rfl hl.1 rfl (lv_room (Nat.le_of_ble_eq_true rfl)) dL_law_446 ⟨Nat.le_of_ble_eq_true rfl, Nat.le_of_ble_eq_true rfl⟩)) (fun r_50 hr_50 => ?_)
    subst hr_50
    refine lv_aload_n hx hb dL_law_449 rfl (lv_at hl 1 rfl) ?_
    refine lv_aload_n hx hb dL_law_450 rfl (lv_at hl 3 rfl) ?_
    refine lv_iload_n hx hb dL_law_451 rfl (lv_at hl 0 rfl) ?_
    refine lv_iconst (v := 1) hx hb dL_law_452 (by decide) ?_
    refine lv_iadd hx hb dL_law_453 ?_
    refine gx_ti (y := 1) (by decide) ?_
    refine va_sld hx hb hX hbl hbA hS (i := 1) (gx_in (by decide)) dL_law_454 ?_
    refine gx_ti (y := xs 1) rfl ?_
    refine lv_aload_n hx hb dL_law_455 rfl (lv_at hl 3 rfl) ?_
    refine lv_iload_n hx hb dL_law_456 rfl (lv_at hl 0 rfl) ?_
    refine lv_iconst (v := 2) hx hb dL_law_457 (by decide) ?_
    refine lv_iadd hx hb dL_law_458 ?_
    refine gx_ti (y := 2) (by decide) ?_
    refine va_sld hx hb hX hbl hbA hS (i := 2) (gx_in (by decide)) dL_law_459 ?_
    refine gx_ti (y := xs 2) rfl ?_
    refine vp_callSi (va_Run.run (va_runV (As := [.int (xs 1), .int (xs 2)]) (rest := [.int (-1)]) ⟨hx, hb, hml, hown, hts⟩ (m_fighter l G q_3 Q (xs 1) (xs 2)) (cwV 2 hts (gdV (List.mem_of_getElem? (i := 2203) (by decide +kernel)) (List.mem_of_getElem? (i := 2204) (by decide +kernel)) (List.mem_of_getElem? (i := 2205) (by decide +kernel)) (List.mem_of_getElem? (i := 171) (by decide +kernel)) (fun w9 h9 => ⟨(in_m_fighter _ h9), gd_m_fighter w9 h9⟩)) rfl rfl rfl kVX13_fighter ⟨Nat.le_of_ble_eq_true rfl, Nat.le_of_ble_eq_true rfl⟩) (preV_p (As := [.int (xs 1), .int (xs 2)]) (hP.sub (ws' := [(q_3, .inr (14, [.ref (Q 0), .ref (Q 1), .int 0, .int 0, .int 10, .ref (Q 5), .ref (Q 6), .ref (Q 7), .ref (Q 8), .ref (Q 9), .ref (Q 10), .ref (Q 11), .ref (Q 12), .ref (Q 13), .ref (Q 14), .ref (Q 15), .ref (Q 16), .ref (Q 17), .ref (Q 18), .ref (Q 19), .ref (Q 20), .ref (Q 21), .ref (Q 22), .ref (Q 23), .ref (Q 24), .ref (Q 25), .ref (Q 26), .int 0, .int 0, .int 0, .int 0, .int 0, .ref (Q 32), .ref (Q 33), .ref (Q 34), .ref (Q 35), .ref (Q 36), .ref (Q 37), .ref (Q 38), .ref (Q 39), .ref (Q 40), .ref (Q 40), .int 0, .int 0, .int 0, .int 0, .int 0, .int 0, .int 0, .int 0, .int (-1), .int 0, .ref (Q 52), .int 0, .ref (Q 54), .int 0, .ref (Q 56), .ref (Q 57), .ref (Q 58), .ref (Q 59), .ref (Q 60), .ref (Q 61), .ref (Q 62), .ref (Q 63), .ref (Q 64), .ref (Q 65), .ref (Q 66), .ref (Q 67), .ref (Q 68), .int 0, .ref (Q 70), .ref (Q 71)]))]) [4] rfl) hB rfl rfl) rfl rfl hl.1 rfl (lv_room (Nat.le_of_ble_eq_true rfl)) dL_law_460 ⟨Nat.le_of_ble_eq_true rfl, Nat.le_of_ble_eq_true rfl⟩)) (fun r_51 hr_51 => ?_)
    subst hr_51
    refine lv_icmp_eq (tgt := 953) hx hb dL_law_463 (by decide) (fun _ => ?_) (fun c9 => absurd (by decide) c9)
    refine lv_iinc (v := 6) (lv' := [(3, .int 6), (2, .ref q_3), (1, .ref q_1), (0, .ref b)]) hx hb dL_law_953 hl (k := 0) rfl (by decide) (by decide) rfl (fun ls hl => ?_)
    refine lv_goto (tgt := 18) hx hb dL_law_956 (by decide) ?_
    refine lv_iload_n hx hb dL_law_18 rfl (lv_at hl 0 rfl) ?_
    refine lv_aload_n hx hb dL_law_19 rfl (lv_at hl 3 rfl) ?_
    refine va_slen hx hb hX hbl hbA hS dL_law_20 ?_
    refine gx_ti (y := 6) (by decide) ?_
    refine lv_bipush (v := 6) hx hb dL_law_21 (by decide) ?_
    refine lv_isub hx hb dL_law_23 ?_
    refine gx_ti (y := 0) (by decide) ?_
    refine lv_icmp_gt (tgt := 959) hx hb dL_law_24 (by decide) (fun _ => ?_) (fun c9 => absurd (by decide) c9)
    refine lv_iconst (v := 1) hx hb dL_law_959 (by decide) ?_
    refine va_forget (fun q hq => hAl q.base (hS.2.2 q hq)) ?_
    refine W.widen (k := 600002) (n := 7302232) (Nat.le_of_ble_eq_true rfl) (Nat.le_of_ble_eq_true rfl) ?_
    exact lw_ret hx hb hr hlocks dL_law_960
  · refine lv_tableIn (off := 435) (tgt := 468) hx hb dL_law_33 (by rw [c_17]; decide) (by rw [c_17]; decide) (by rw [c_17]; rfl) (by decide) ?_
    have hP := hP.sub (ws' := [(q_1, .inr (12, [.ref bk, .ref tp, .ref ps, .ref rl, u1, .ref bd, .ref fr, u2, .ref pn, .ref nl, u3])), (bk, .inr (2, [.ref ca, .ref bc, .ref bb, .ref bs, .int 0, .int 0])), (ca, .inl (gI G, 2088, .inl bk0)), (rl, .inr (9, [.ref bk])), (bd, .inr (1, [.ref bk, b1, b2, b3, b4, b5])), (q_3, .inr (14, [.ref (Q 0), .ref (Q 1), .int 0, .int 0, .int 10, .ref (Q 5), .ref (Q 6), .ref (Q 7), .ref (Q 8), .ref (Q 9), .ref (Q 10), .ref (Q 11), .ref (Q 12), .ref (Q 13), .ref (Q 14), .ref (Q 15), .ref (Q 16), .ref (Q 17), .ref (Q 18), .ref (Q 19), .ref (Q 20), .ref (Q 21), .ref (Q 22), .ref (Q 23), .ref (Q 24), .ref (Q 25), .ref (Q 26), .int 0, .int 0, .int 0, .int 0, .int 0, .ref (Q 32), .ref (Q 33), .ref (Q 34), .ref (Q 35), .ref (Q 36), .ref (Q 37), .ref (Q 38), .ref (Q 39), .ref (Q 40), .ref (Q 40), .int 0, .int 0, .int 0, .int 0, .int 0, .int 0, .int 0, .int 0, .int (-1), .int 0, .ref (Q 52), .int 0, .ref (Q 54), .int 0, .ref (Q 56), .ref (Q 57), .ref (Q 58), .ref (Q 59), .ref (Q 60), .ref (Q 61), .ref (Q 62), .ref (Q 63), .ref (Q 64), .ref (Q 65), .ref (Q 66), .ref (Q 67), .ref (Q 68), .int 0, .ref (Q 70), .ref (Q 71)])), (Q 12, .inl (gI G, 4, .inl moDr)), (Q 13, .inl (gI G, 4, .inl (fun _ => 0)))]) [0, 1, 2, 14, 15, 27, 45, 46] rfl
    have hD := hD.sub (ws' := [(q_1, .inr (12, [.ref bk, .ref tp, .ref ps, .ref rl, u1, .ref bd, .ref fr, u2, .ref pn, .ref nl, u3])), (bk, .inr (2, [.ref ca, .ref bc, .ref bb, .ref bs, .int 0, .int 0])), (ca, .inl (gI G, 2088, .inl bk0)), (rl, .inr (9, [.ref bk])), (bd, .inr (1, [.ref bk, b1, b2, b3, b4, b5])), (q_3, .inr (14, [.ref (Q 0), .ref (Q 1), .int 0, .int 0, .int 10, .ref (Q 5), .ref (Q 6), .ref (Q 7), .ref (Q 8), .ref (Q 9), .ref (Q 10), .ref (Q 11), .ref (Q 12), .ref (Q 13), .ref (Q 14), .ref (Q 15), .ref (Q 16), .ref (Q 17), .ref (Q 18), .ref (Q 19), .ref (Q 20), .ref (Q 21), .ref (Q 22), .ref (Q 23), .ref (Q 24), .ref (Q 25), .ref (Q 26), .int 0, .int 0, .int 0, .int 0, .int 0, .ref (Q 32), .ref (Q 33), .ref (Q 34), .ref (Q 35), .ref (Q 36), .ref (Q 37), .ref (Q 38), .ref (Q 39), .ref (Q 40), .ref (Q 40), .int 0, .int 0, .int 0, .int 0, .int 0, .int 0, .int 0, .int 0, .int (-1), .int 0, .ref (Q 52), .int 0, .ref (Q 54), .int 0, .ref (Q 56), .ref (Q 57), .ref (Q 58), .ref (Q 59), .ref (Q 60), .ref (Q 61), .ref (Q 62), .ref (Q 63), .ref (Q 64), .ref (Q 65), .ref (Q 66), .ref (Q 67), .ref (Q 68), .int 0, .ref (Q 70), .ref (Q 71)])), (Q 12, .inl (gI G, 4, .inl moDr)), (Q 13, .inl (gI G, 4, .inl (fun _ => 0)))]) [0, 1, 2, 14, 15, 27, 45, 46] (by decide) rfl
    refine lv_aload_n hx hb dL_law_468 rfl (lv_at hl 2 rfl) ?_
    refine lv_aload_n hx hb dL_law_469 rfl (lv_at hl 3 rfl) ?_
    refine lv_iload_n hx hb dL_law_470 rfl (lv_at hl 0 rfl) ?_
    refine lv_iconst (v := 1) hx hb dL_law_471 (by decide) ?_
    refine lv_iadd hx hb dL_law_472 ?_
    refine gx_ti (y := 1) (by decide) ?_
    refine va_sld hx hb hX hbl hbA hS (i := 1) (gx_in (by decide)) dL_law_473 ?_
    refine gx_ti (y := xs 1) rfl ?_
    refine lv_aload_n hx hb dL_law_474 rfl (lv_at hl 3 rfl) ?_
    refine lv_iload_n hx hb dL_law_475 rfl (lv_at hl 0 rfl) ?_
    refine lv_iconst (v := 2) hx hb dL_law_476 (by decide) ?_
    refine lv_iadd hx hb dL_law_477 ?_
    refine gx_ti (y := 2) (by decide) ?_
    refine va_sld hx hb hX hbl hbA hS (i := 2) (gx_in (by decide)) dL_law_478 ?_
    refine gx_ti (y := xs 2) rfl ?_
    refine vp_callSi (va_Run.run (va_runV (As := [.int (xs 1), .int (xs 2)]) (rest := []) ⟨hx, hb, hml, hown, hts⟩ (q_about l G q_1 bk tp ps rl u1 bd fr u2 pn nl u3 b1 b2 b3 b4 b5 ca bc bb bs (xs 1) (xs 2)) (cwV 2 hts (gdV (List.mem_of_getElem? (i := 1187) (by decide +kernel)) (List.mem_of_getElem? (i := 1188) (by decide +kernel)) (List.mem_of_getElem? (i := 1189) (by decide +kernel)) (List.mem_of_getElem? (i := 154) (by decide +kernel)) (fun w9 h9 => ⟨(in_q_about _ h9), gd_q_about w9 h9⟩)) rfl rfl rfl kVX11_about ⟨Nat.le_of_ble_eq_true rfl, Nat.le_of_ble_eq_true rfl⟩) (preV_p (As := [.int (xs 1), .int (xs 2)]) (hP.sub (ws' := [(q_1, .inr (12, [.ref bk, .ref tp, .ref ps, .ref rl, u1, .ref bd, .ref fr, u2, .ref pn, .ref nl, u3])), (rl, .inr (9, [.ref bk])), (bd, .inr (1, [.ref bk, b1, b2, b3, b4, b5])), (bk, .inr (2, [.ref ca, .ref bc, .ref bb, .ref bs, .int 0, .int 0])), (ca, .inl (gI G, 2088, .inl bk0))]) [0, 3, 4, 1, 2] rfl) hB rfl rfl) rfl rfl hl.1 rfl (lv_room (Nat.le_of_ble_eq_true rfl)) dL_law_479 ⟨Nat.le_of_ble_eq_true rfl, Nat.le_of_ble_eq_true rfl⟩)) (fun r_52 hr_52 => ?_)
    subst hr_52
    refine lv_aload_n hx hb dL_law_482 rfl (lv_at hl 1 rfl) ?_
    refine lv_aload_n hx hb dL_law_483 rfl (lv_at hl 3 rfl) ?_
    refine lv_iload_n hx hb dL_law_484 rfl (lv_at hl 0 rfl) ?_
    refine lv_iconst (v := 1) hx hb dL_law_485 (by decide) ?_
    refine lv_iadd hx hb dL_law_486 ?_
    refine gx_ti (y := 1) (by decide) ?_
    refine va_sld hx hb hX hbl hbA hS (i := 1) (gx_in (by decide)) dL_law_487 ?_
    refine gx_ti (y := xs 1) rfl ?_
    refine lv_aload_n hx hb dL_law_488 rfl (lv_at hl 3 rfl) ?_
    refine lv_iload_n hx hb dL_law_489 rfl (lv_at hl 0 rfl) ?_
    refine lv_iconst (v := 2) hx hb dL_law_490 (by decide) ?_
    refine lv_iadd hx hb dL_law_491 ?_
    refine gx_ti (y := 2) (by decide) ?_
    refine va_sld hx hb hX hbl hbA hS (i := 2) (gx_in (by decide)) dL_law_492 ?_
    refine gx_ti (y := xs 2) rfl ?_
    refine vp_callSi (va_Run.run (va_runV (As := [.int (xs 1), .int (xs 2)]) (rest := [.int (if (xs 1) < 0 ∨ 4 ≤ (xs 1) ∨ (xs 2) < 0 ∨ 7 ≤ (xs 2) ∨ (xs 2) = 3 then (-1) else 0)]) ⟨hx, hb, hml, hown, hts⟩ (m_about l G q_3 Q (xs 1) (xs 2)) (cwV 2 hts (gdV (List.mem_of_getElem? (i := 2207) (by decide +kernel)) (List.mem_of_getElem? (i := 2208) (by decide +kernel)) (List.mem_of_getElem? (i := 2209) (by decide +kernel)) (List.mem_of_getElem? (i := 171) (by decide +kernel)) (fun w9 h9 => ⟨(in_m_about _ h9), gd_m_about w9 h9⟩)) rfl rfl rfl kVX13_about ⟨Nat.le_of_ble_eq_true rfl, Nat.le_of_ble_eq_true rfl⟩) (preV_p (As := [.int (xs 1), .int (xs 2)]) (hP.sub (ws' := [(q_3, .inr (14, [.ref (Q 0), .ref (Q 1), .int 0, .int 0, .int 10, .ref (Q 5), .ref (Q 6), .ref (Q 7), .ref (Q 8), .ref (Q 9), .ref (Q 10), .ref (Q 11), .ref (Q 12), .ref (Q 13), .ref (Q 14), .ref (Q 15), .ref (Q 16), .ref (Q 17), .ref (Q 18), .ref (Q 19), .ref (Q 20), .ref (Q 21), .ref (Q 22), .ref (Q 23), .ref (Q 24), .ref (Q 25), .ref (Q 26), .int 0, .int 0, .int 0, .int 0, .int 0, .ref (Q 32), .ref (Q 33), .ref (Q 34), .ref (Q 35), .ref (Q 36), .ref (Q 37), .ref (Q 38), .ref (Q 39), .ref (Q 40), .ref (Q 40), .int 0, .int 0, .int 0, .int 0, .int 0, .int 0, .int 0, .int 0, .int (-1), .int 0, .ref (Q 52), .int 0, .ref (Q 54), .int 0, .ref (Q 56), .ref (Q 57), .ref (Q 58), .ref (Q 59), .ref (Q 60), .ref (Q 61), .ref (Q 62), .ref (Q 63), .ref (Q 64), .ref (Q 65), .ref (Q 66), .ref (Q 67), .ref (Q 68), .int 0, .ref (Q 70), .ref (Q 71)])), (Q 12, .inl (gI G, 4, .inl moDr)), (Q 13, .inl (gI G, 4, .inl (fun _ => 0)))]) [5, 6, 7] rfl) hB rfl rfl) rfl rfl hl.1 rfl (lv_room (Nat.le_of_ble_eq_true rfl)) dL_law_493 ⟨Nat.le_of_ble_eq_true rfl, Nat.le_of_ble_eq_true rfl⟩)) (fun r_53 hr_53 => ?_)
    subst hr_53
    refine lv_icmp_eq (tgt := 953) hx hb dL_law_496 (by decide) (fun _ => ?_) (fun c9 => absurd rfl c9)
    refine lv_iinc (v := 6) (lv' := [(3, .int 6), (2, .ref q_3), (1, .ref q_1), (0, .ref b)]) hx hb dL_law_953 hl (k := 0) rfl (by decide) (by decide) rfl (fun ls hl => ?_)
    refine lv_goto (tgt := 18) hx hb dL_law_956 (by decide) ?_
    refine lv_iload_n hx hb dL_law_18 rfl (lv_at hl 0 rfl) ?_
    refine lv_aload_n hx hb dL_law_19 rfl (lv_at hl 3 rfl) ?_
    refine va_slen hx hb hX hbl hbA hS dL_law_20 ?_
    refine gx_ti (y := 6) (by decide) ?_
    refine lv_bipush (v := 6) hx hb dL_law_21 (by decide) ?_
    refine lv_isub hx hb dL_law_23 ?_
    refine gx_ti (y := 0) (by decide) ?_
    refine lv_icmp_gt (tgt := 959) hx hb dL_law_24 (by decide) (fun _ => ?_) (fun c9 => absurd (by decide) c9)
    refine lv_iconst (v := 1) hx hb dL_law_959 (by decide) ?_
    refine va_forget (fun q hq => hAl q.base (hS.2.2 q hq)) ?_
    refine W.widen (k := 600002) (n := 7302232) (Nat.le_of_ble_eq_true rfl) (Nat.le_of_ble_eq_true rfl) ?_
    exact lw_ret hx hb hr hlocks dL_law_960
  · refine lv_tableIn (off := 468) (tgt := 501) hx hb dL_law_33 (by rw [c_18]; decide) (by rw [c_18]; decide) (by rw [c_18]; rfl) (by decide) ?_
    have hP := hP.sub (ws' := [(q_1, .inr (12, [.ref bk, .ref tp, .ref ps, .ref rl, u1, .ref bd, .ref fr, u2, .ref pn, .ref nl, u3])), (bk, .inr (2, [.ref ca, .ref bc, .ref bb, .ref bs, .int 0, .int 0])), (ca, .inl (gI G, 2088, .inl bk0)), (bd, .inr (1, [.ref bk, b1, b2, b3, b4, b5])), (q_3, .inr (14, [.ref (Q 0), .ref (Q 1), .int 0, .int 0, .int 10, .ref (Q 5), .ref (Q 6), .ref (Q 7), .ref (Q 8), .ref (Q 9), .ref (Q 10), .ref (Q 11), .ref (Q 12), .ref (Q 13), .ref (Q 14), .ref (Q 15), .ref (Q 16), .ref (Q 17), .ref (Q 18), .ref (Q 19), .ref (Q 20), .ref (Q 21), .ref (Q 22), .ref (Q 23), .ref (Q 24), .ref (Q 25), .ref (Q 26), .int 0, .int 0, .int 0, .int 0, .int 0, .ref (Q 32), .ref (Q 33), .ref (Q 34), .ref (Q 35), .ref (Q 36), .ref (Q 37), .ref (Q 38), .ref (Q 39), .ref (Q 40), .ref (Q 40), .int 0, .int 0, .int 0, .int 0, .int 0, .int 0, .int 0, .int 0, .int (-1), .int 0, .ref (Q 52), .int 0, .ref (Q 54), .int 0, .ref (Q 56), .ref (Q 57), .ref (Q 58), .ref (Q 59), .ref (Q 60), .ref (Q 61), .ref (Q 62), .ref (Q 63), .ref (Q 64), .ref (Q 65), .ref (Q 66), .ref (Q 67), .ref (Q 68), .int 0, .ref (Q 70), .ref (Q 71)])), (Q 12, .inl (gI G, 4, .inl moDr)), (Q 13, .inl (gI G, 4, .inl (fun _ => 0)))]) [0, 1, 2, 15, 27, 45, 46] rfl
    have hD := hD.sub (ws' := [(q_1, .inr (12, [.ref bk, .ref tp, .ref ps, .ref rl, u1, .ref bd, .ref fr, u2, .ref pn, .ref nl, u3])), (bk, .inr (2, [.ref ca, .ref bc, .ref bb, .ref bs, .int 0, .int 0])), (ca, .inl (gI G, 2088, .inl bk0)), (bd, .inr (1, [.ref bk, b1, b2, b3, b4, b5])), (q_3, .inr (14, [.ref (Q 0), .ref (Q 1), .int 0, .int 0, .int 10, .ref (Q 5), .ref (Q 6), .ref (Q 7), .ref (Q 8), .ref (Q 9), .ref (Q 10), .ref (Q 11), .ref (Q 12), .ref (Q 13), .ref (Q 14), .ref (Q 15), .ref (Q 16), .ref (Q 17), .ref (Q 18), .ref (Q 19), .ref (Q 20), .ref (Q 21), .ref (Q 22), .ref (Q 23), .ref (Q 24), .ref (Q 25), .ref (Q 26), .int 0, .int 0, .int 0, .int 0, .int 0, .ref (Q 32), .ref (Q 33), .ref (Q 34), .ref (Q 35), .ref (Q 36), .ref (Q 37), .ref (Q 38), .ref (Q 39), .ref (Q 40), .ref (Q 40), .int 0, .int 0, .int 0, .int 0, .int 0, .int 0, .int 0, .int 0, .int (-1), .int 0, .ref (Q 52), .int 0, .ref (Q 54), .int 0, .ref (Q 56), .ref (Q 57), .ref (Q 58), .ref (Q 59), .ref (Q 60), .ref (Q 61), .ref (Q 62), .ref (Q 63), .ref (Q 64), .ref (Q 65), .ref (Q 66), .ref (Q 67), .ref (Q 68), .int 0, .ref (Q 70), .ref (Q 71)])), (Q 12, .inl (gI G, 4, .inl moDr)), (Q 13, .inl (gI G, 4, .inl (fun _ => 0)))]) [0, 1, 2, 15, 27, 45, 46] (by decide) rfl
    refine lv_aload_n hx hb dL_law_501 rfl (lv_at hl 2 rfl) ?_
    refine lv_aload_n hx hb dL_law_502 rfl (lv_at hl 3 rfl) ?_
    refine lv_iload_n hx hb dL_law_503 rfl (lv_at hl 0 rfl) ?_
    refine lv_iconst (v := 1) hx hb dL_law_504 (by decide) ?_
    refine lv_iadd hx hb dL_law_505 ?_
    refine gx_ti (y := 1) (by decide) ?_
    refine va_sld hx hb hX hbl hbA hS (i := 1) (gx_in (by decide)) dL_law_506 ?_
    refine gx_ti (y := xs 1) rfl ?_
    refine lv_aload_n hx hb dL_law_507 rfl (lv_at hl 3 rfl) ?_
    refine lv_iload_n hx hb dL_law_508 rfl (lv_at hl 0 rfl) ?_
    refine lv_iconst (v := 2) hx hb dL_law_509 (by decide) ?_
    refine lv_iadd hx hb dL_law_510 ?_
    refine gx_ti (y := 2) (by decide) ?_
    refine va_sld hx hb hX hbl hbA hS (i := 2) (gx_in (by decide)) dL_law_511 ?_
    refine gx_ti (y := xs 2) rfl ?_
    refine lv_aload_n hx hb dL_law_512 rfl (lv_at hl 3 rfl) ?_
    refine lv_iload_n hx hb dL_law_513 rfl (lv_at hl 0 rfl) ?_
    refine lv_iconst (v := 3) hx hb dL_law_514 (by decide) ?_
    refine lv_iadd hx hb dL_law_515 ?_
    refine gx_ti (y := 3) (by decide) ?_
    refine va_sld hx hb hX hbl hbA hS (i := 3) (gx_in (by decide)) dL_law_516 ?_
    refine gx_ti (y := xs 3) rfl ?_
    refine vp_callSi (va_Run.run (va_runV (As := [.int (xs 1), .int (xs 2), .int (xs 3)]) (rest := []) ⟨hx, hb, hml, hown, hts⟩ (q_fight l G q_1 bk tp ps rl u1 bd fr u2 pn nl u3 b1 b2 b3 b4 b5 ca bc bb bs (xs 1) (xs 2) (xs 3)) (cwV 3 hts (gdV (List.mem_of_getElem? (i := 1210) (by decide +kernel)) (List.mem_of_getElem? (i := 1211) (by decide +kernel)) (List.mem_of_getElem? (i := 1212) (by decide +kernel)) (List.mem_of_getElem? (i := 154) (by decide +kernel)) (fun w9 h9 => ⟨(in_q_fight _ h9), gd_q_fight w9 h9⟩)) rfl rfl rfl kVX11_fight ⟨Nat.le_of_ble_eq_true rfl, Nat.le_of_ble_eq_true rfl⟩) (preV_p (As := [.int (xs 1), .int (xs 2), .int (xs 3)]) (hP.sub (ws' := [(q_1, .inr (12, [.ref bk, .ref tp, .ref ps, .ref rl, u1, .ref bd, .ref fr, u2, .ref pn, .ref nl, u3])), (bd, .inr (1, [.ref bk, b1, b2, b3, b4, b5])), (bk, .inr (2, [.ref ca, .ref bc, .ref bb, .ref bs, .int 0, .int 0])), (ca, .inl (gI G, 2088, .inl bk0))]) [0, 3, 1, 2] rfl) hB rfl rfl) rfl rfl hl.1 rfl (lv_room (Nat.le_of_ble_eq_true rfl)) dL_law_517 ⟨Nat.le_of_ble_eq_true rfl, Nat.le_of_ble_eq_true rfl⟩)) (fun r_54 hr_54 => ?_)
    subst hr_54
    refine lv_aload_n hx hb dL_law_520 rfl (lv_at hl 1 rfl) ?_
    refine lv_aload_n hx hb dL_law_521 rfl (lv_at hl 3 rfl) ?_
    refine lv_iload_n hx hb dL_law_522 rfl (lv_at hl 0 rfl) ?_
    refine lv_iconst (v := 1) hx hb dL_law_523 (by decide) ?_
    refine lv_iadd hx hb dL_law_524 ?_
    refine gx_ti (y := 1) (by decide) ?_
    refine va_sld hx hb hX hbl hbA hS (i := 1) (gx_in (by decide)) dL_law_525 ?_
    refine gx_ti (y := xs 1) rfl ?_
    refine lv_aload_n hx hb dL_law_526 rfl (lv_at hl 3 rfl) ?_
    refine lv_iload_n hx hb dL_law_527 rfl (lv_at hl 0 rfl) ?_
    refine lv_iconst (v := 2) hx hb dL_law_528 (by decide) ?_
    refine lv_iadd hx hb dL_law_529 ?_
    refine gx_ti (y := 2) (by decide) ?_
    refine va_sld hx hb hX hbl hbA hS (i := 2) (gx_in (by decide)) dL_law_530 ?_
    refine gx_ti (y := xs 2) rfl ?_
    refine lv_aload_n hx hb dL_law_531 rfl (lv_at hl 3 rfl) ?_
    refine lv_iload_n hx hb dL_law_532 rfl (lv_at hl 0 rfl) ?_
    refine lv_iconst (v := 3) hx hb dL_law_533 (by decide) ?_
    refine lv_iadd hx hb dL_law_534 ?_
    refine gx_ti (y := 3) (by decide) ?_
    refine va_sld hx hb hX hbl hbA hS (i := 3) (gx_in (by decide)) dL_law_535 ?_
    refine gx_ti (y := xs 3) rfl ?_
    refine vp_callSi (va_Run.run (va_runV (As := [.int (xs 1), .int (xs 2), .int (xs 3)]) (rest := [.int (-1)]) ⟨hx, hb, hml, hown, hts⟩ (m_fight l G q_3 Q (xs 1) (xs 2) (xs 3)) (cwV 3 hts (gdV (List.mem_of_getElem? (i := 2217) (by decide +kernel)) (List.mem_of_getElem? (i := 2218) (by decide +kernel)) (List.mem_of_getElem? (i := 2219) (by decide +kernel)) (List.mem_of_getElem? (i := 171) (by decide +kernel)) (fun w9 h9 => ⟨(in_m_fight _ h9), gd_m_fight w9 h9⟩)) rfl rfl rfl kVX13_fight ⟨Nat.le_of_ble_eq_true rfl, Nat.le_of_ble_eq_true rfl⟩) (preV_p (As := [.int (xs 1), .int (xs 2), .int (xs 3)]) (hP.sub (ws' := [(q_3, .inr (14, [.ref (Q 0), .ref (Q 1), .int 0, .int 0, .int 10, .ref (Q 5), .ref (Q 6), .ref (Q 7), .ref (Q 8), .ref (Q 9), .ref (Q 10), .ref (Q 11), .ref (Q 12), .ref (Q 13), .ref (Q 14), .ref (Q 15), .ref (Q 16), .ref (Q 17), .ref (Q 18), .ref (Q 19), .ref (Q 20), .ref (Q 21), .ref (Q 22), .ref (Q 23), .ref (Q 24), .ref (Q 25), .ref (Q 26), .int 0, .int 0, .int 0, .int 0, .int 0, .ref (Q 32), .ref (Q 33), .ref (Q 34), .ref (Q 35), .ref (Q 36), .ref (Q 37), .ref (Q 38), .ref (Q 39), .ref (Q 40), .ref (Q 40), .int 0, .int 0, .int 0, .int 0, .int 0, .int 0, .int 0, .int 0, .int (-1), .int 0, .ref (Q 52), .int 0, .ref (Q 54), .int 0, .ref (Q 56), .ref (Q 57), .ref (Q 58), .ref (Q 59), .ref (Q 60), .ref (Q 61), .ref (Q 62), .ref (Q 63), .ref (Q 64), .ref (Q 65), .ref (Q 66), .ref (Q 67), .ref (Q 68), .int 0, .ref (Q 70), .ref (Q 71)])), (Q 12, .inl (gI G, 4, .inl moDr)), (Q 13, .inl (gI G, 4, .inl (fun _ => 0)))]) [4, 5, 6] rfl) hB rfl rfl) rfl rfl hl.1 rfl (lv_room (Nat.le_of_ble_eq_true rfl)) dL_law_536 ⟨Nat.le_of_ble_eq_true rfl, Nat.le_of_ble_eq_true rfl⟩)) (fun r_55 hr_55 => ?_)
    subst hr_55
    refine lv_icmp_eq (tgt := 953) hx hb dL_law_539 (by decide) (fun _ => ?_) (fun c9 => absurd (by decide) c9)
    refine lv_iinc (v := 6) (lv' := [(3, .int 6), (2, .ref q_3), (1, .ref q_1), (0, .ref b)]) hx hb dL_law_953 hl (k := 0) rfl (by decide) (by decide) rfl (fun ls hl => ?_)
    refine lv_goto (tgt := 18) hx hb dL_law_956 (by decide) ?_
    refine lv_iload_n hx hb dL_law_18 rfl (lv_at hl 0 rfl) ?_
    refine lv_aload_n hx hb dL_law_19 rfl (lv_at hl 3 rfl) ?_
    refine va_slen hx hb hX hbl hbA hS dL_law_20 ?_
    refine gx_ti (y := 6) (by decide) ?_
    refine lv_bipush (v := 6) hx hb dL_law_21 (by decide) ?_
    refine lv_isub hx hb dL_law_23 ?_
    refine gx_ti (y := 0) (by decide) ?_
    refine lv_icmp_gt (tgt := 959) hx hb dL_law_24 (by decide) (fun _ => ?_) (fun c9 => absurd (by decide) c9)
    refine lv_iconst (v := 1) hx hb dL_law_959 (by decide) ?_
    refine va_forget (fun q hq => hAl q.base (hS.2.2 q hq)) ?_
    refine W.widen (k := 600002) (n := 7302232) (Nat.le_of_ble_eq_true rfl) (Nat.le_of_ble_eq_true rfl) ?_
    exact lw_ret hx hb hr hlocks dL_law_960
  · refine lv_tableIn (off := 511) (tgt := 544) hx hb dL_law_33 (by rw [c_19]; decide) (by rw [c_19]; decide) (by rw [c_19]; rfl) (by decide) ?_
    have hP := hP.sub (ws' := [(q_1, .inr (12, [.ref bk, .ref tp, .ref ps, .ref rl, u1, .ref bd, .ref fr, u2, .ref pn, .ref nl, u3])), (bk, .inr (2, [.ref ca, .ref bc, .ref bb, .ref bs, .int 0, .int 0])), (ca, .inl (gI G, 2088, .inl bk0)), (bc, .inr (10, [.ref bc2])), (bc2, .inl (gI G, 512, .inl (fl 512 0 (fun _ => 0)))), (bb, .inr (10, [.ref bb2])), (bb2, .inl (gI G, 512, .inl (fl 512 0 (fun _ => 0)))), (bs, .inr (10, [.ref bs2])), (bs2, .inl (gI G, 500, .inl (fl 500 0 (fun _ => 0)))), (q_3, .inr (14, [.ref (Q 0), .ref (Q 1), .int 0, .int 0, .int 10, .ref (Q 5), .ref (Q 6), .ref (Q 7), .ref (Q 8), .ref (Q 9), .ref (Q 10), .ref (Q 11), .ref (Q 12), .ref (Q 13), .ref (Q 14), .ref (Q 15), .ref (Q 16), .ref (Q 17), .ref (Q 18), .ref (Q 19), .ref (Q 20), .ref (Q 21), .ref (Q 22), .ref (Q 23), .ref (Q 24), .ref (Q 25), .ref (Q 26), .int 0, .int 0, .int 0, .int 0, .int 0, .ref (Q 32), .ref (Q 33), .ref (Q 34), .ref (Q 35), .ref (Q 36), .ref (Q 37), .ref (Q 38), .ref (Q 39), .ref (Q 40), .ref (Q 40), .int 0, .int 0, .int 0, .int 0, .int 0, .int 0, .int 0, .int 0, .int (-1), .int 0, .ref (Q 52), .int 0, .ref (Q 54), .int 0, .ref (Q 56), .ref (Q 57), .ref (Q 58), .ref (Q 59), .ref (Q 60), .ref (Q 61), .ref (Q 62), .ref (Q 63), .ref (Q 64), .ref (Q 65), .ref (Q 66), .ref (Q 67), .ref (Q 68), .int 0, .ref (Q 70), .ref (Q 71)])), (Q 52, .inl (gI G, 2000, .inl (fun _ => 0)))]) [0, 1, 2, 3, 4, 5, 6, 7, 8, 27, 38] rfl
    have hD := hD.sub (ws' := [(q_1, .inr (12, [.ref bk, .ref tp, .ref ps, .ref rl, u1, .ref bd, .ref fr, u2, .ref pn, .ref nl, u3])), (bk, .inr (2, [.ref ca, .ref bc, .ref bb, .ref bs, .int 0, .int 0])), (ca, .inl (gI G, 2088, .inl bk0)), (bc, .inr (10, [.ref bc2])), (bc2, .inl (gI G, 512, .inl (fl 512 0 (fun _ => 0)))), (bb, .inr (10, [.ref bb2])), (bb2, .inl (gI G, 512, .inl (fl 512 0 (fun _ => 0)))), (bs, .inr (10, [.ref bs2])), (bs2, .inl (gI G, 500, .inl (fl 500 0 (fun _ => 0)))), (q_3, .inr (14, [.ref (Q 0), .ref (Q 1), .int 0, .int 0, .int 10, .ref (Q 5), .ref (Q 6), .ref (Q 7), .ref (Q 8), .ref (Q 9), .ref (Q 10), .ref (Q 11), .ref (Q 12), .ref (Q 13), .ref (Q 14), .ref (Q 15), .ref (Q 16), .ref (Q 17), .ref (Q 18), .ref (Q 19), .ref (Q 20), .ref (Q 21), .ref (Q 22), .ref (Q 23), .ref (Q 24), .ref (Q 25), .ref (Q 26), .int 0, .int 0, .int 0, .int 0, .int 0, .ref (Q 32), .ref (Q 33), .ref (Q 34), .ref (Q 35), .ref (Q 36), .ref (Q 37), .ref (Q 38), .ref (Q 39), .ref (Q 40), .ref (Q 40), .int 0, .int 0, .int 0, .int 0, .int 0, .int 0, .int 0, .int 0, .int (-1), .int 0, .ref (Q 52), .int 0, .ref (Q 54), .int 0, .ref (Q 56), .ref (Q 57), .ref (Q 58), .ref (Q 59), .ref (Q 60), .ref (Q 61), .ref (Q 62), .ref (Q 63), .ref (Q 64), .ref (Q 65), .ref (Q 66), .ref (Q 67), .ref (Q 68), .int 0, .ref (Q 70), .ref (Q 71)])), (Q 52, .inl (gI G, 2000, .inl (fun _ => 0)))]) [0, 1, 2, 3, 4, 5, 6, 7, 8, 27, 38] (by decide) rfl
    refine lv_aload_n hx hb dL_law_544 rfl (lv_at hl 2 rfl) ?_
    refine lv_aload_n hx hb dL_law_545 rfl (lv_at hl 3 rfl) ?_
    refine lv_iload_n hx hb dL_law_546 rfl (lv_at hl 0 rfl) ?_
    refine lv_iconst (v := 1) hx hb dL_law_547 (by decide) ?_
    refine lv_iadd hx hb dL_law_548 ?_
    refine gx_ti (y := 1) (by decide) ?_
    refine va_sld hx hb hX hbl hbA hS (i := 1) (gx_in (by decide)) dL_law_549 ?_
    refine gx_ti (y := xs 1) rfl ?_
    have hPc := hP.sub (ws' := [(q_1, .inr (12, [.ref bk, .ref tp, .ref ps, .ref rl, u1, .ref bd, .ref fr, u2, .ref pn, .ref nl, u3])), (bk, .inr (2, [.ref ca, .ref bc, .ref bb, .ref bs, .int 0, .int 0])), (ca, .inl (gI G, 2088, .inl bk0)), (bc, .inr (10, [.ref bc2])), (bc2, .inl (gI G, 512, .inl (fl 512 0 (fun _ => 0)))), (bb, .inr (10, [.ref bb2])), (bb2, .inl (gI G, 512, .inl (fl 512 0 (fun _ => 0)))), (bs, .inr (10, [.ref bs2])), (bs2, .inl (gI G, 500, .inl (fl 500 0 (fun _ => 0))))]) [0, 1, 2, 3, 4, 5, 6, 7, 8] rfl
    have hDc := hD.sub (ws' := [(q_1, .inr (12, [.ref bk, .ref tp, .ref ps, .ref rl, u1, .ref bd, .ref fr, u2, .ref pn, .ref nl, u3])), (bk, .inr (2, [.ref ca, .ref bc, .ref bb, .ref bs, .int 0, .int 0])), (ca, .inl (gI G, 2088, .inl bk0)), (bc, .inr (10, [.ref bc2])), (bc2, .inl (gI G, 512, .inl (fl 512 0 (fun _ => 0)))), (bb, .inr (10, [.ref bb2])), (bb2, .inl (gI G, 512, .inl (fl 512 0 (fun _ => 0)))), (bs, .inr (10, [.ref bs2])), (bs2, .inl (gI G, 500, .inl (fl 500 0 (fun _ => 0))))]) [0, 1, 2, 3, 4, 5, 6, 7, 8] (by decide) rfl
    have hFc := va_free (wc := [(q_1, .inr (12, [.ref bk, .ref tp, .ref ps, .ref rl, u1, .ref bd, .ref fr, u2, .ref pn, .ref nl, u3])), (bk, .inr (2, [.ref ca, .ref bc, .ref bb, .ref bs, .int 0, .int 0])), (ca, .inl (gI G, 2088, .inl bk0)), (bc, .inr (10, [.ref bc2])), (bc2, .inl (gI G, 512, .inl (fl 512 0 (fun _ => 0)))), (bb, .inr (10, [.ref bb2])), (bb2, .inl (gI G, 512, .inl (fl 512 0 (fun _ => 0)))), (bs, .inr (10, [.ref bs2])), (bs2, .inl (gI G, 500, .inl (fl 500 0 (fun _ => 0))))]) hD hS hA [0, 1, 2, 3, 4, 5, 6, 7, 8] rfl
    refine va_calli (va_runV (As := [.int (xs 1)]) (rest := []) ⟨hx, hb, hml, hown, hts⟩ (q_now l G q_1 bk tp ps rl u1 bd fr u2 pn nl u3 ca bc bb bs bc2 bb2 bs2 (xs 1) H.size) (cwV 1 hts (gdV (List.mem_of_getElem? (i := 1224) (by decide +kernel)) (List.mem_of_getElem? (i := 1225) (by decide +kernel)) (List.mem_of_getElem? (i := 1226) (by decide +kernel)) (List.mem_of_getElem? (i := 154) (by decide +kernel)) (fun w9 h9 => ⟨(in_q_now _ h9), gd_q_now w9 h9⟩)) rfl rfl rfl kVX11_now ⟨Nat.le_of_ble_eq_true rfl, Nat.le_of_ble_eq_true rfl⟩) (preV_m (As := [.int (xs 1)]) hPc hB hDc rfl rfl) rfl rfl hl.1 rfl (lv_room (Nat.le_of_ble_eq_true rfl)) dL_law_550 ⟨Nat.le_of_ble_eq_true rfl, Nat.le_of_ble_eq_true rfl⟩) hS (fun q _ h => hFc q h) hFc (fun r_56 u t H1 locs ht hvm hw hB1 hz1 hk1 hS => ?_)
    obtain ⟨hP1, hD1⟩ := hB1
    rw [ht] at hP1
    obtain ⟨hP, hD⟩ := va_join (wr := [(q_3, .inr (14, [.ref (Q 0), .ref (Q 1), .int 0, .int 0, .int 10, .ref (Q 5), .ref (Q 6), .ref (Q 7), .ref (Q 8), .ref (Q 9), .ref (Q 10), .ref (Q 11), .ref (Q 12), .ref (Q 13), .ref (Q 14), .ref (Q 15), .ref (Q 16), .ref (Q 17), .ref (Q 18), .ref (Q 19), .ref (Q 20), .ref (Q 21), .ref (Q 22), .ref (Q 23), .ref (Q 24), .ref (Q 25), .ref (Q 26), .int 0, .int 0, .int 0, .int 0, .int 0, .ref (Q 32), .ref (Q 33), .ref (Q 34), .ref (Q 35), .ref (Q 36), .ref (Q 37), .ref (Q 38), .ref (Q 39), .ref (Q 40), .ref (Q 40), .int 0, .int 0, .int 0, .int 0, .int 0, .int 0, .int 0, .int 0, .int (-1), .int 0, .ref (Q 52), .int 0, .ref (Q 54), .int 0, .ref (Q 56), .ref (Q 57), .ref (Q 58), .ref (Q 59), .ref (Q 60), .ref (Q 61), .ref (Q 62), .ref (Q 63), .ref (Q 64), .ref (Q 65), .ref (Q 66), .ref (Q 67), .ref (Q 68), .int 0, .ref (Q 70), .ref (Q 71)])), (Q 52, .inl (gI G, 2000, .inl (fun _ => 0)))]) (w1 := []) hP hD [0, 1, 2, 3, 4, 5, 6, 7, 8] [9, 10] rfl rfl (by decide) (by decide) hk1 hFc hP1 hD1
    generalize H1 = H at hP hS ⊢
    have hP : va_P (gD G) vwCl [(q_3, .inr (14, [.ref (Q 0), .ref (Q 1), .int 0, .int 0, .int 10, .ref (Q 5), .ref (Q 6), .ref (Q 7), .ref (Q 8), .ref (Q 9), .ref (Q 10), .ref (Q 11), .ref (Q 12), .ref (Q 13), .ref (Q 14), .ref (Q 15), .ref (Q 16), .ref (Q 17), .ref (Q 18), .ref (Q 19), .ref (Q 20), .ref (Q 21), .ref (Q 22), .ref (Q 23), .ref (Q 24), .ref (Q 25), .ref (Q 26), .int 0, .int 0, .int 0, .int 0, .int 0, .ref (Q 32), .ref (Q 33), .ref (Q 34), .ref (Q 35), .ref (Q 36), .ref (Q 37), .ref (Q 38), .ref (Q 39), .ref (Q 40), .ref (Q 40), .int 0, .int 0, .int 0, .int 0, .int 0, .int 0, .int 0, .int 0, .int (-1), .int 0, .ref (Q 52), .int 0, .ref (Q 54), .int 0, .ref (Q 56), .ref (Q 57), .ref (Q 58), .ref (Q 59), .ref (Q 60), .ref (Q 61), .ref (Q 62), .ref (Q 63), .ref (Q 64), .ref (Q 65), .ref (Q 66), .ref (Q 67), .ref (Q 68), .int 0, .ref (Q 70), .ref (Q 71)])), (Q 52, .inl (gI G, 2000, .inl (fun _ => 0)))] H := hP
    have hD : va_D A [(q_3, .inr (14, [.ref (Q 0), .ref (Q 1), .int 0, .int 0, .int 10, .ref (Q 5), .ref (Q 6), .ref (Q 7), .ref (Q 8), .ref (Q 9), .ref (Q 10), .ref (Q 11), .ref (Q 12), .ref (Q 13), .ref (Q 14), .ref (Q 15), .ref (Q 16), .ref (Q 17), .ref (Q 18), .ref (Q 19), .ref (Q 20), .ref (Q 21), .ref (Q 22), .ref (Q 23), .ref (Q 24), .ref (Q 25), .ref (Q 26), .int 0, .int 0, .int 0, .int 0, .int 0, .ref (Q 32), .ref (Q 33), .ref (Q 34), .ref (Q 35), .ref (Q 36), .ref (Q 37), .ref (Q 38), .ref (Q 39), .ref (Q 40), .ref (Q 40), .int 0, .int 0, .int 0, .int 0, .int 0, .int 0, .int 0, .int 0, .int (-1), .int 0, .ref (Q 52), .int 0, .ref (Q 54), .int 0, .ref (Q 56), .ref (Q 57), .ref (Q 58), .ref (Q 59), .ref (Q 60), .ref (Q 61), .ref (Q 62), .ref (Q 63), .ref (Q 64), .ref (Q 65), .ref (Q 66), .ref (Q 67), .ref (Q 68), .int 0, .ref (Q 70), .ref (Q 71)])), (Q 52, .inl (gI G, 2000, .inl (fun _ => 0)))] := hD
    have hw : r_56 = (if (xs 1) < 0 ∨ 1440 < (xs 1) then (-2) else (xs 1)) := hw
    refine gx_ti hw ?_
    refine W.eq (g2 := F0 m 553 ls [.int (if (xs 1) < 0 ∨ 1440 < (xs 1) then (-2) else (xs 1))]) rfl ?_
    refine lv_aload_n hx hb dL_law_553 rfl (lv_at hl 1 rfl) ?_
    refine lv_aload_n hx hb dL_law_554 rfl (lv_at hl 3 rfl) ?_
    refine lv_iload_n hx hb dL_law_555 rfl (lv_at hl 0 rfl) ?_
    refine lv_iconst (v := 1) hx hb dL_law_556 (by decide) ?_
    refine lv_iadd hx hb dL_law_557 ?_
    refine gx_ti (y := 1) (by decide) ?_
    refine va_sld hx hb hX hbl hbA hS (i := 1) (gx_in (by decide)) dL_law_558 ?_
    refine gx_ti (y := xs 1) rfl ?_
    have hPc := hP.sub (ws' := [(q_3, .inr (14, [.ref (Q 0), .ref (Q 1), .int 0, .int 0, .int 10, .ref (Q 5), .ref (Q 6), .ref (Q 7), .ref (Q 8), .ref (Q 9), .ref (Q 10), .ref (Q 11), .ref (Q 12), .ref (Q 13), .ref (Q 14), .ref (Q 15), .ref (Q 16), .ref (Q 17), .ref (Q 18), .ref (Q 19), .ref (Q 20), .ref (Q 21), .ref (Q 22), .ref (Q 23), .ref (Q 24), .ref (Q 25), .ref (Q 26), .int 0, .int 0, .int 0, .int 0, .int 0, .ref (Q 32), .ref (Q 33), .ref (Q 34), .ref (Q 35), .ref (Q 36), .ref (Q 37), .ref (Q 38), .ref (Q 39), .ref (Q 40), .ref (Q 40), .int 0, .int 0, .int 0, .int 0, .int 0, .int 0, .int 0, .int 0, .int (-1), .int 0, .ref (Q 52), .int 0, .ref (Q 54), .int 0, .ref (Q 56), .ref (Q 57), .ref (Q 58), .ref (Q 59), .ref (Q 60), .ref (Q 61), .ref (Q 62), .ref (Q 63), .ref (Q 64), .ref (Q 65), .ref (Q 66), .ref (Q 67), .ref (Q 68), .int 0, .ref (Q 70), .ref (Q 71)])), (Q 52, .inl (gI G, 2000, .inl (fun _ => 0)))]) [0, 1] rfl
    have hDc := hD.sub (ws' := [(q_3, .inr (14, [.ref (Q 0), .ref (Q 1), .int 0, .int 0, .int 10, .ref (Q 5), .ref (Q 6), .ref (Q 7), .ref (Q 8), .ref (Q 9), .ref (Q 10), .ref (Q 11), .ref (Q 12), .ref (Q 13), .ref (Q 14), .ref (Q 15), .ref (Q 16), .ref (Q 17), .ref (Q 18), .ref (Q 19), .ref (Q 20), .ref (Q 21), .ref (Q 22), .ref (Q 23), .ref (Q 24), .ref (Q 25), .ref (Q 26), .int 0, .int 0, .int 0, .int 0, .int 0, .ref (Q 32), .ref (Q 33), .ref (Q 34), .ref (Q 35), .ref (Q 36), .ref (Q 37), .ref (Q 38), .ref (Q 39), .ref (Q 40), .ref (Q 40), .int 0, .int 0, .int 0, .int 0, .int 0, .int 0, .int 0, .int 0, .int (-1), .int 0, .ref (Q 52), .int 0, .ref (Q 54), .int 0, .ref (Q 56), .ref (Q 57), .ref (Q 58), .ref (Q 59), .ref (Q 60), .ref (Q 61), .ref (Q 62), .ref (Q 63), .ref (Q 64), .ref (Q 65), .ref (Q 66), .ref (Q 67), .ref (Q 68), .int 0, .ref (Q 70), .ref (Q 71)])), (Q 52, .inl (gI G, 2000, .inl (fun _ => 0)))]) [0, 1] (by decide) rfl
    have hFc := va_free (wc := [(q_3, .inr (14, [.ref (Q 0), .ref (Q 1), .int 0, .int 0, .int 10, .ref (Q 5), .ref (Q 6), .ref (Q 7), .ref (Q 8), .ref (Q 9), .ref (Q 10), .ref (Q 11), .ref (Q 12), .ref (Q 13), .ref (Q 14), .ref (Q 15), .ref (Q 16), .ref (Q 17), .ref (Q 18), .ref (Q 19), .ref (Q 20), .ref (Q 21), .ref (Q 22), .ref (Q 23), .ref (Q 24), .ref (Q 25), .ref (Q 26), .int 0, .int 0, .int 0, .int 0, .int 0, .ref (Q 32), .ref (Q 33), .ref (Q 34), .ref (Q 35), .ref (Q 36), .ref (Q 37), .ref (Q 38), .ref (Q 39), .ref (Q 40), .ref (Q 40), .int 0, .int 0, .int 0, .int 0, .int 0, .int 0, .int 0, .int 0, .int (-1), .int 0, .ref (Q 52), .int 0, .ref (Q 54), .int 0, .ref (Q 56), .ref (Q 57), .ref (Q 58), .ref (Q 59), .ref (Q 60), .ref (Q 61), .ref (Q 62), .ref (Q 63), .ref (Q 64), .ref (Q 65), .ref (Q 66), .ref (Q 67), .ref (Q 68), .int 0, .ref (Q 70), .ref (Q 71)])), (Q 52, .inl (gI G, 2000, .inl (fun _ => 0)))]) hD hS hA [0, 1] rfl
    refine va_calli (va_runV (As := [.int (xs 1)]) (rest := [.int (if (xs 1) < 0 ∨ 1440 < (xs 1) then (-2) else (xs 1))]) ⟨hx, hb, hml, hown, hts⟩ (m_now l G q_3 Q (fun _ => 0) (xs 1) H.size) (cwV 1 hts (gdV (List.mem_of_getElem? (i := 2230) (by decide +kernel)) (List.mem_of_getElem? (i := 2231) (by decide +kernel)) (List.mem_of_getElem? (i := 2232) (by decide +kernel)) (List.mem_of_getElem? (i := 171) (by decide +kernel)) (fun w9 h9 => ⟨(in_m_now _ h9), gd_m_now w9 h9⟩)) rfl rfl rfl kVX13_now ⟨Nat.le_of_ble_eq_true rfl, Nat.le_of_ble_eq_true rfl⟩) (preV_m (As := [.int (xs 1)]) hPc hB hDc rfl rfl) rfl rfl hl.1 rfl (lv_room (Nat.le_of_ble_eq_true rfl)) dL_law_559 ⟨Nat.le_of_ble_eq_true rfl, Nat.le_of_ble_eq_true rfl⟩) hS (fun q _ h => hFc q h) hFc (fun r_57 u t H1 locs ht hvm hw hB1 hz1 hk1 hS => ?_)
    obtain ⟨hP1, hD1⟩ := hB1
    rw [ht] at hP1
    obtain ⟨hP, hD⟩ := va_join (wr := []) (w1 := []) hP hD [0, 1] [] rfl rfl (by decide) (by decide) hk1 hFc hP1 hD1
    generalize H1 = H at hP hS ⊢
    have hP : va_P (gD G) vwCl [] H := hP
    have hD : va_D A [] := hD
    have hw : r_57 = (if (xs 1) < 0 ∨ 1440 < (xs 1) then (-2) else (xs 1)) := hw
    refine gx_ti hw ?_
    refine W.eq (g2 := F0 m 562 ls [.int (if (xs 1) < 0 ∨ 1440 < (xs 1) then (-2) else (xs 1)), .int (if (xs 1) < 0 ∨ 1440 < (xs 1) then (-2) else (xs 1))]) rfl ?_
    refine lv_icmp_eq (tgt := 953) hx hb dL_law_562 (by decide) (fun _ => ?_) (fun c9 => absurd rfl c9)
    refine lv_iinc (v := 6) (lv' := [(3, .int 6), (2, .ref q_3), (1, .ref q_1), (0, .ref b)]) hx hb dL_law_953 hl (k := 0) rfl (by decide) (by decide) rfl (fun ls hl => ?_)
    refine lv_goto (tgt := 18) hx hb dL_law_956 (by decide) ?_
    refine lv_iload_n hx hb dL_law_18 rfl (lv_at hl 0 rfl) ?_
    refine lv_aload_n hx hb dL_law_19 rfl (lv_at hl 3 rfl) ?_
    refine va_slen hx hb hX hbl hbA hS dL_law_20 ?_
    refine gx_ti (y := 6) (by decide) ?_
    refine lv_bipush (v := 6) hx hb dL_law_21 (by decide) ?_
    refine lv_isub hx hb dL_law_23 ?_
    refine gx_ti (y := 0) (by decide) ?_
    refine lv_icmp_gt (tgt := 959) hx hb dL_law_24 (by decide) (fun _ => ?_) (fun c9 => absurd (by decide) c9)
    refine lv_iconst (v := 1) hx hb dL_law_959 (by decide) ?_
    refine va_forget (fun q hq => hAl q.base (hS.2.2 q hq)) ?_
    refine W.widen (k := 600002) (n := 7302232) (Nat.le_of_ble_eq_true rfl) (Nat.le_of_ble_eq_true rfl) ?_
    exact lw_ret hx hb hr hlocks dL_law_960
  · refine lv_tableIn (off := 534) (tgt := 567) hx hb dL_law_33 (by rw [c_20]; decide) (by rw [c_20]; decide) (by rw [c_20]; rfl) (by decide) ?_
    have hP := hP.sub (ws' := [(q_1, .inr (12, [.ref bk, .ref tp, .ref ps, .ref rl, u1, .ref bd, .ref fr, u2, .ref pn, .ref nl, u3])), (bk, .inr (2, [.ref ca, .ref bc, .ref bb, .ref bs, .int 0, .int 0])), (ca, .inl (gI G, 2088, .inl bk0)), (bc, .inr (10, [.ref bc2])), (bc2, .inl (gI G, 512, .inl (fl 512 0 (fun _ => 0)))), (bb, .inr (10, [.ref bb2])), (bb2, .inl (gI G, 512, .inl (fl 512 0 (fun _ => 0)))), (bs, .inr (10, [.ref bs2])), (bs2, .inl (gI G, 500, .inl (fl 500 0 (fun _ => 0)))), (q_3, .inr (14, [.ref (Q 0), .ref (Q 1), .int 0, .int 0, .int 10, .ref (Q 5), .ref (Q 6), .ref (Q 7), .ref (Q 8), .ref (Q 9), .ref (Q 10), .ref (Q 11), .ref (Q 12), .ref (Q 13), .ref (Q 14), .ref (Q 15), .ref (Q 16), .ref (Q 17), .ref (Q 18), .ref (Q 19), .ref (Q 20), .ref (Q 21), .ref (Q 22), .ref (Q 23), .ref (Q 24), .ref (Q 25), .ref (Q 26), .int 0, .int 0, .int 0, .int 0, .int 0, .ref (Q 32), .ref (Q 33), .ref (Q 34), .ref (Q 35), .ref (Q 36), .ref (Q 37), .ref (Q 38), .ref (Q 39), .ref (Q 40), .ref (Q 40), .int 0, .int 0, .int 0, .int 0, .int 0, .int 0, .int 0, .int 0, .int (-1), .int 0, .ref (Q 52), .int 0, .ref (Q 54), .int 0, .ref (Q 56), .ref (Q 57), .ref (Q 58), .ref (Q 59), .ref (Q 60), .ref (Q 61), .ref (Q 62), .ref (Q 63), .ref (Q 64), .ref (Q 65), .ref (Q 66), .ref (Q 67), .ref (Q 68), .int 0, .ref (Q 70), .ref (Q 71)])), (Q 52, .inl (gI G, 2000, .inl (fun _ => 0)))]) [0, 1, 2, 3, 4, 5, 6, 7, 8, 27, 38] rfl
    have hD := hD.sub (ws' := [(q_1, .inr (12, [.ref bk, .ref tp, .ref ps, .ref rl, u1, .ref bd, .ref fr, u2, .ref pn, .ref nl, u3])), (bk, .inr (2, [.ref ca, .ref bc, .ref bb, .ref bs, .int 0, .int 0])), (ca, .inl (gI G, 2088, .inl bk0)), (bc, .inr (10, [.ref bc2])), (bc2, .inl (gI G, 512, .inl (fl 512 0 (fun _ => 0)))), (bb, .inr (10, [.ref bb2])), (bb2, .inl (gI G, 512, .inl (fl 512 0 (fun _ => 0)))), (bs, .inr (10, [.ref bs2])), (bs2, .inl (gI G, 500, .inl (fl 500 0 (fun _ => 0)))), (q_3, .inr (14, [.ref (Q 0), .ref (Q 1), .int 0, .int 0, .int 10, .ref (Q 5), .ref (Q 6), .ref (Q 7), .ref (Q 8), .ref (Q 9), .ref (Q 10), .ref (Q 11), .ref (Q 12), .ref (Q 13), .ref (Q 14), .ref (Q 15), .ref (Q 16), .ref (Q 17), .ref (Q 18), .ref (Q 19), .ref (Q 20), .ref (Q 21), .ref (Q 22), .ref (Q 23), .ref (Q 24), .ref (Q 25), .ref (Q 26), .int 0, .int 0, .int 0, .int 0, .int 0, .ref (Q 32), .ref (Q 33), .ref (Q 34), .ref (Q 35), .ref (Q 36), .ref (Q 37), .ref (Q 38), .ref (Q 39), .ref (Q 40), .ref (Q 40), .int 0, .int 0, .int 0, .int 0, .int 0, .int 0, .int 0, .int 0, .int (-1), .int 0, .ref (Q 52), .int 0, .ref (Q 54), .int 0, .ref (Q 56), .ref (Q 57), .ref (Q 58), .ref (Q 59), .ref (Q 60), .ref (Q 61), .ref (Q 62), .ref (Q 63), .ref (Q 64), .ref (Q 65), .ref (Q 66), .ref (Q 67), .ref (Q 68), .int 0, .ref (Q 70), .ref (Q 71)])), (Q 52, .inl (gI G, 2000, .inl (fun _ => 0)))]) [0, 1, 2, 3, 4, 5, 6, 7, 8, 27, 38] (by decide) rfl
    refine lv_aload_n hx hb dL_law_567 rfl (lv_at hl 2 rfl) ?_
    refine lv_aload_n hx hb dL_law_568 rfl (lv_at hl 3 rfl) ?_
    refine lv_iload_n hx hb dL_law_569 rfl (lv_at hl 0 rfl) ?_
    refine lv_iconst (v := 1) hx hb dL_law_570 (by decide) ?_
    refine lv_iadd hx hb dL_law_571 ?_
    refine gx_ti (y := 1) (by decide) ?_
    refine va_sld hx hb hX hbl hbA hS (i := 1) (gx_in (by decide)) dL_law_572 ?_
    refine gx_ti (y := xs 1) rfl ?_
    have hPc := hP.sub (ws' := [(q_1, .inr (12, [.ref bk, .ref tp, .ref ps, .ref rl, u1, .ref bd, .ref fr, u2, .ref pn, .ref nl, u3])), (bk, .inr (2, [.ref ca, .ref bc, .ref bb, .ref bs, .int 0, .int 0])), (ca, .inl (gI G, 2088, .inl bk0)), (bc, .inr (10, [.ref bc2])), (bc2, .inl (gI G, 512, .inl (fl 512 0 (fun _ => 0)))), (bb, .inr (10, [.ref bb2])), (bb2, .inl (gI G, 512, .inl (fl 512 0 (fun _ => 0)))), (bs, .inr (10, [.ref bs2])), (bs2, .inl (gI G, 500, .inl (fl 500 0 (fun _ => 0))))]) [0, 1, 2, 3, 4, 5, 6, 7, 8] rfl
    have hDc := hD.sub (ws' := [(q_1, .inr (12, [.ref bk, .ref tp, .ref ps, .ref rl, u1, .ref bd, .ref fr, u2, .ref pn, .ref nl, u3])), (bk, .inr (2, [.ref ca, .ref bc, .ref bb, .ref bs, .int 0, .int 0])), (ca, .inl (gI G, 2088, .inl bk0)), (bc, .inr (10, [.ref bc2])), (bc2, .inl (gI G, 512, .inl (fl 512 0 (fun _ => 0)))), (bb, .inr (10, [.ref bb2])), (bb2, .inl (gI G, 512, .inl (fl 512 0 (fun _ => 0)))), (bs, .inr (10, [.ref bs2])), (bs2, .inl (gI G, 500, .inl (fl 500 0 (fun _ => 0))))]) [0, 1, 2, 3, 4, 5, 6, 7, 8] (by decide) rfl
    have hFc := va_free (wc := [(q_1, .inr (12, [.ref bk, .ref tp, .ref ps, .ref rl, u1, .ref bd, .ref fr, u2, .ref pn, .ref nl, u3])), (bk, .inr (2, [.ref ca, .ref bc, .ref bb, .ref bs, .int 0, .int 0])), (ca, .inl (gI G, 2088, .inl bk0)), (bc, .inr (10, [.ref bc2])), (bc2, .inl (gI G, 512, .inl (fl 512 0 (fun _ => 0)))), (bb, .inr (10, [.ref bb2])), (bb2, .inl (gI G, 512, .inl (fl 512 0 (fun _ => 0)))), (bs, .inr (10, [.ref bs2])), (bs2, .inl (gI G, 500, .inl (fl 500 0 (fun _ => 0))))]) hD hS hA [0, 1, 2, 3, 4, 5, 6, 7, 8] rfl
    refine va_calli (va_runV (As := [.int (xs 1)]) (rest := []) ⟨hx, hb, hml, hown, hts⟩ (q_rest l G q_1 bk tp ps rl u1 bd fr u2 pn nl u3 ca bc bb bs bc2 bb2 bs2 (xs 1) H.size) (cwV 1 hts (gdV (List.mem_of_getElem? (i := 1228) (by decide +kernel)) (List.mem_of_getElem? (i := 1229) (by decide +kernel)) (List.mem_of_getElem? (i := 1230) (by decide +kernel)) (List.mem_of_getElem? (i := 154) (by decide +kernel)) (fun w9 h9 => ⟨(in_q_rest _ h9), gd_q_rest w9 h9⟩)) rfl rfl rfl kVX11_rest ⟨Nat.le_of_ble_eq_true rfl, Nat.le_of_ble_eq_true rfl⟩) (preV_m (As := [.int (xs 1)]) hPc hB hDc rfl rfl) rfl rfl hl.1 rfl (lv_room (Nat.le_of_ble_eq_true rfl)) dL_law_573 ⟨Nat.le_of_ble_eq_true rfl, Nat.le_of_ble_eq_true rfl⟩) hS (fun q _ h => hFc q h) hFc (fun r_58 u t H1 locs ht hvm hw hB1 hz1 hk1 hS => ?_)
    obtain ⟨hP1, hD1⟩ := hB1
    rw [ht] at hP1
    obtain ⟨hP, hD⟩ := va_join (wr := [(q_3, .inr (14, [.ref (Q 0), .ref (Q 1), .int 0, .int 0, .int 10, .ref (Q 5), .ref (Q 6), .ref (Q 7), .ref (Q 8), .ref (Q 9), .ref (Q 10), .ref (Q 11), .ref (Q 12), .ref (Q 13), .ref (Q 14), .ref (Q 15), .ref (Q 16), .ref (Q 17), .ref (Q 18), .ref (Q 19), .ref (Q 20), .ref (Q 21), .ref (Q 22), .ref (Q 23), .ref (Q 24), .ref (Q 25), .ref (Q 26), .int 0, .int 0, .int 0, .int 0, .int 0, .ref (Q 32), .ref (Q 33), .ref (Q 34), .ref (Q 35), .ref (Q 36), .ref (Q 37), .ref (Q 38), .ref (Q 39), .ref (Q 40), .ref (Q 40), .int 0, .int 0, .int 0, .int 0, .int 0, .int 0, .int 0, .int 0, .int (-1), .int 0, .ref (Q 52), .int 0, .ref (Q 54), .int 0, .ref (Q 56), .ref (Q 57), .ref (Q 58), .ref (Q 59), .ref (Q 60), .ref (Q 61), .ref (Q 62), .ref (Q 63), .ref (Q 64), .ref (Q 65), .ref (Q 66), .ref (Q 67), .ref (Q 68), .int 0, .ref (Q 70), .ref (Q 71)])), (Q 52, .inl (gI G, 2000, .inl (fun _ => 0)))]) (w1 := []) hP hD [0, 1, 2, 3, 4, 5, 6, 7, 8] [9, 10] rfl rfl (by decide) (by decide) hk1 hFc hP1 hD1
    generalize H1 = H at hP hS ⊢
    have hP : va_P (gD G) vwCl [(q_3, .inr (14, [.ref (Q 0), .ref (Q 1), .int 0, .int 0, .int 10, .ref (Q 5), .ref (Q 6), .ref (Q 7), .ref (Q 8), .ref (Q 9), .ref (Q 10), .ref (Q 11), .ref (Q 12), .ref (Q 13), .ref (Q 14), .ref (Q 15), .ref (Q 16), .ref (Q 17), .ref (Q 18), .ref (Q 19), .ref (Q 20), .ref (Q 21), .ref (Q 22), .ref (Q 23), .ref (Q 24), .ref (Q 25), .ref (Q 26), .int 0, .int 0, .int 0, .int 0, .int 0, .ref (Q 32), .ref (Q 33), .ref (Q 34), .ref (Q 35), .ref (Q 36), .ref (Q 37), .ref (Q 38), .ref (Q 39), .ref (Q 40), .ref (Q 40), .int 0, .int 0, .int 0, .int 0, .int 0, .int 0, .int 0, .int 0, .int (-1), .int 0, .ref (Q 52), .int 0, .ref (Q 54), .int 0, .ref (Q 56), .ref (Q 57), .ref (Q 58), .ref (Q 59), .ref (Q 60), .ref (Q 61), .ref (Q 62), .ref (Q 63), .ref (Q 64), .ref (Q 65), .ref (Q 66), .ref (Q 67), .ref (Q 68), .int 0, .ref (Q 70), .ref (Q 71)])), (Q 52, .inl (gI G, 2000, .inl (fun _ => 0)))] H := hP
    have hD : va_D A [(q_3, .inr (14, [.ref (Q 0), .ref (Q 1), .int 0, .int 0, .int 10, .ref (Q 5), .ref (Q 6), .ref (Q 7), .ref (Q 8), .ref (Q 9), .ref (Q 10), .ref (Q 11), .ref (Q 12), .ref (Q 13), .ref (Q 14), .ref (Q 15), .ref (Q 16), .ref (Q 17), .ref (Q 18), .ref (Q 19), .ref (Q 20), .ref (Q 21), .ref (Q 22), .ref (Q 23), .ref (Q 24), .ref (Q 25), .ref (Q 26), .int 0, .int 0, .int 0, .int 0, .int 0, .ref (Q 32), .ref (Q 33), .ref (Q 34), .ref (Q 35), .ref (Q 36), .ref (Q 37), .ref (Q 38), .ref (Q 39), .ref (Q 40), .ref (Q 40), .int 0, .int 0, .int 0, .int 0, .int 0, .int 0, .int 0, .int 0, .int (-1), .int 0, .ref (Q 52), .int 0, .ref (Q 54), .int 0, .ref (Q 56), .ref (Q 57), .ref (Q 58), .ref (Q 59), .ref (Q 60), .ref (Q 61), .ref (Q 62), .ref (Q 63), .ref (Q 64), .ref (Q 65), .ref (Q 66), .ref (Q 67), .ref (Q 68), .int 0, .ref (Q 70), .ref (Q 71)])), (Q 52, .inl (gI G, 2000, .inl (fun _ => 0)))] := hD
    have hw : r_58 = (if (xs 1) < 0 ∨ 120 < (xs 1) then (-2) else 10) := hw
    refine gx_ti hw ?_
    refine W.eq (g2 := F0 m 576 ls [.int (if (xs 1) < 0 ∨ 120 < (xs 1) then (-2) else 10)]) rfl ?_
    refine lv_aload_n hx hb dL_law_576 rfl (lv_at hl 1 rfl) ?_
    refine lv_aload_n hx hb dL_law_577 rfl (lv_at hl 3 rfl) ?_
    refine lv_iload_n hx hb dL_law_578 rfl (lv_at hl 0 rfl) ?_
    refine lv_iconst (v := 1) hx hb dL_law_579 (by decide) ?_
    refine lv_iadd hx hb dL_law_580 ?_
    refine gx_ti (y := 1) (by decide) ?_
    refine va_sld hx hb hX hbl hbA hS (i := 1) (gx_in (by decide)) dL_law_581 ?_
    refine gx_ti (y := xs 1) rfl ?_
    have hPc := hP.sub (ws' := [(q_3, .inr (14, [.ref (Q 0), .ref (Q 1), .int 0, .int 0, .int 10, .ref (Q 5), .ref (Q 6), .ref (Q 7), .ref (Q 8), .ref (Q 9), .ref (Q 10), .ref (Q 11), .ref (Q 12), .ref (Q 13), .ref (Q 14), .ref (Q 15), .ref (Q 16), .ref (Q 17), .ref (Q 18), .ref (Q 19), .ref (Q 20), .ref (Q 21), .ref (Q 22), .ref (Q 23), .ref (Q 24), .ref (Q 25), .ref (Q 26), .int 0, .int 0, .int 0, .int 0, .int 0, .ref (Q 32), .ref (Q 33), .ref (Q 34), .ref (Q 35), .ref (Q 36), .ref (Q 37), .ref (Q 38), .ref (Q 39), .ref (Q 40), .ref (Q 40), .int 0, .int 0, .int 0, .int 0, .int 0, .int 0, .int 0, .int 0, .int (-1), .int 0, .ref (Q 52), .int 0, .ref (Q 54), .int 0, .ref (Q 56), .ref (Q 57), .ref (Q 58), .ref (Q 59), .ref (Q 60), .ref (Q 61), .ref (Q 62), .ref (Q 63), .ref (Q 64), .ref (Q 65), .ref (Q 66), .ref (Q 67), .ref (Q 68), .int 0, .ref (Q 70), .ref (Q 71)])), (Q 52, .inl (gI G, 2000, .inl (fun _ => 0)))]) [0, 1] rfl
    have hDc := hD.sub (ws' := [(q_3, .inr (14, [.ref (Q 0), .ref (Q 1), .int 0, .int 0, .int 10, .ref (Q 5), .ref (Q 6), .ref (Q 7), .ref (Q 8), .ref (Q 9), .ref (Q 10), .ref (Q 11), .ref (Q 12), .ref (Q 13), .ref (Q 14), .ref (Q 15), .ref (Q 16), .ref (Q 17), .ref (Q 18), .ref (Q 19), .ref (Q 20), .ref (Q 21), .ref (Q 22), .ref (Q 23), .ref (Q 24), .ref (Q 25), .ref (Q 26), .int 0, .int 0, .int 0, .int 0, .int 0, .ref (Q 32), .ref (Q 33), .ref (Q 34), .ref (Q 35), .ref (Q 36), .ref (Q 37), .ref (Q 38), .ref (Q 39), .ref (Q 40), .ref (Q 40), .int 0, .int 0, .int 0, .int 0, .int 0, .int 0, .int 0, .int 0, .int (-1), .int 0, .ref (Q 52), .int 0, .ref (Q 54), .int 0, .ref (Q 56), .ref (Q 57), .ref (Q 58), .ref (Q 59), .ref (Q 60), .ref (Q 61), .ref (Q 62), .ref (Q 63), .ref (Q 64), .ref (Q 65), .ref (Q 66), .ref (Q 67), .ref (Q 68), .int 0, .ref (Q 70), .ref (Q 71)])), (Q 52, .inl (gI G, 2000, .inl (fun _ => 0)))]) [0, 1] (by decide) rfl
    have hFc := va_free (wc := [(q_3, .inr (14, [.ref (Q 0), .ref (Q 1), .int 0, .int 0, .int 10, .ref (Q 5), .ref (Q 6), .ref (Q 7), .ref (Q 8), .ref (Q 9), .ref (Q 10), .ref (Q 11), .ref (Q 12), .ref (Q 13), .ref (Q 14), .ref (Q 15), .ref (Q 16), .ref (Q 17), .ref (Q 18), .ref (Q 19), .ref (Q 20), .ref (Q 21), .ref (Q 22), .ref (Q 23), .ref (Q 24), .ref (Q 25), .ref (Q 26), .int 0, .int 0, .int 0, .int 0, .int 0, .ref (Q 32), .ref (Q 33), .ref (Q 34), .ref (Q 35), .ref (Q 36), .ref (Q 37), .ref (Q 38), .ref (Q 39), .ref (Q 40), .ref (Q 40), .int 0, .int 0, .int 0, .int 0, .int 0, .int 0, .int 0, .int 0, .int (-1), .int 0, .ref (Q 52), .int 0, .ref (Q 54), .int 0, .ref (Q 56), .ref (Q 57), .ref (Q 58), .ref (Q 59), .ref (Q 60), .ref (Q 61), .ref (Q 62), .ref (Q 63), .ref (Q 64), .ref (Q 65), .ref (Q 66), .ref (Q 67), .ref (Q 68), .int 0, .ref (Q 70), .ref (Q 71)])), (Q 52, .inl (gI G, 2000, .inl (fun _ => 0)))]) hD hS hA [0, 1] rfl
    refine va_calli (va_runV (As := [.int (xs 1)]) (rest := [.int (if (xs 1) < 0 ∨ 120 < (xs 1) then (-2) else 10)]) ⟨hx, hb, hml, hown, hts⟩ (m_rest l G q_3 Q (fun _ => 0) (xs 1) H.size) (cwV 1 hts (gdV (List.mem_of_getElem? (i := 2235) (by decide +kernel)) (List.mem_of_getElem? (i := 2236) (by decide +kernel)) (List.mem_of_getElem? (i := 2237) (by decide +kernel)) (List.mem_of_getElem? (i := 171) (by decide +kernel)) (fun w9 h9 => ⟨(in_m_rest _ h9), gd_m_rest w9 h9⟩)) rfl rfl rfl kVX13_rest ⟨Nat.le_of_ble_eq_true rfl, Nat.le_of_ble_eq_true rfl⟩) (preV_m (As := [.int (xs 1)]) hPc hB hDc rfl rfl) rfl rfl hl.1 rfl (lv_room (Nat.le_of_ble_eq_true rfl)) dL_law_582 ⟨Nat.le_of_ble_eq_true rfl, Nat.le_of_ble_eq_true rfl⟩) hS (fun q _ h => hFc q h) hFc (fun r_59 u t H1 locs ht hvm hw hB1 hz1 hk1 hS => ?_)
    obtain ⟨hP1, hD1⟩ := hB1
    rw [ht] at hP1
    obtain ⟨hP, hD⟩ := va_join (wr := []) (w1 := []) hP hD [0, 1] [] rfl rfl (by decide) (by decide) hk1 hFc hP1 hD1
    generalize H1 = H at hP hS ⊢
    have hP : va_P (gD G) vwCl [] H := hP
    have hD : va_D A [] := hD
    have hw : r_59 = (if (xs 1) < 0 ∨ 120 < (xs 1) then (-2) else 10) := hw
    refine gx_ti hw ?_
    refine W.eq (g2 := F0 m 585 ls [.int (if (xs 1) < 0 ∨ 120 < (xs 1) then (-2) else 10), .int (if (xs 1) < 0 ∨ 120 < (xs 1) then (-2) else 10)]) rfl ?_
    refine lv_icmp_eq (tgt := 953) hx hb dL_law_585 (by decide) (fun _ => ?_) (fun c9 => absurd rfl c9)
    refine lv_iinc (v := 6) (lv' := [(3, .int 6), (2, .ref q_3), (1, .ref q_1), (0, .ref b)]) hx hb dL_law_953 hl (k := 0) rfl (by decide) (by decide) rfl (fun ls hl => ?_)
    refine lv_goto (tgt := 18) hx hb dL_law_956 (by decide) ?_
    refine lv_iload_n hx hb dL_law_18 rfl (lv_at hl 0 rfl) ?_
    refine lv_aload_n hx hb dL_law_19 rfl (lv_at hl 3 rfl) ?_
    refine va_slen hx hb hX hbl hbA hS dL_law_20 ?_
    refine gx_ti (y := 6) (by decide) ?_
    refine lv_bipush (v := 6) hx hb dL_law_21 (by decide) ?_
    refine lv_isub hx hb dL_law_23 ?_
    refine gx_ti (y := 0) (by decide) ?_
    refine lv_icmp_gt (tgt := 959) hx hb dL_law_24 (by decide) (fun _ => ?_) (fun c9 => absurd (by decide) c9)
    refine lv_iconst (v := 1) hx hb dL_law_959 (by decide) ?_
    refine va_forget (fun q hq => hAl q.base (hS.2.2 q hq)) ?_
    refine W.widen (k := 600002) (n := 7302232) (Nat.le_of_ble_eq_true rfl) (Nat.le_of_ble_eq_true rfl) ?_
    exact lw_ret hx hb hr hlocks dL_law_960
  · refine lv_tableIn (off := 557) (tgt := 590) hx hb dL_law_33 (by rw [c_21]; decide) (by rw [c_21]; decide) (by rw [c_21]; rfl) (by decide) ?_
    have hP := hP.sub (ws' := [(q_1, .inr (12, [.ref bk, .ref tp, .ref ps, .ref rl, u1, .ref bd, .ref fr, u2, .ref pn, .ref nl, u3])), (bk, .inr (2, [.ref ca, .ref bc, .ref bb, .ref bs, .int 0, .int 0])), (ca, .inl (gI G, 2088, .inl bk0)), (bd, .inr (1, [.ref bk, b1, b2, b3, b4, b5])), (q_3, .inr (14, [.ref (Q 0), .ref (Q 1), .int 0, .int 0, .int 10, .ref (Q 5), .ref (Q 6), .ref (Q 7), .ref (Q 8), .ref (Q 9), .ref (Q 10), .ref (Q 11), .ref (Q 12), .ref (Q 13), .ref (Q 14), .ref (Q 15), .ref (Q 16), .ref (Q 17), .ref (Q 18), .ref (Q 19), .ref (Q 20), .ref (Q 21), .ref (Q 22), .ref (Q 23), .ref (Q 24), .ref (Q 25), .ref (Q 26), .int 0, .int 0, .int 0, .int 0, .int 0, .ref (Q 32), .ref (Q 33), .ref (Q 34), .ref (Q 35), .ref (Q 36), .ref (Q 37), .ref (Q 38), .ref (Q 39), .ref (Q 40), .ref (Q 40), .int 0, .int 0, .int 0, .int 0, .int 0, .int 0, .int 0, .int 0, .int (-1), .int 0, .ref (Q 52), .int 0, .ref (Q 54), .int 0, .ref (Q 56), .ref (Q 57), .ref (Q 58), .ref (Q 59), .ref (Q 60), .ref (Q 61), .ref (Q 62), .ref (Q 63), .ref (Q 64), .ref (Q 65), .ref (Q 66), .ref (Q 67), .ref (Q 68), .int 0, .ref (Q 70), .ref (Q 71)])), (Q 12, .inl (gI G, 4, .inl moDr)), (Q 13, .inl (gI G, 4, .inl (fun _ => 0)))]) [0, 1, 2, 15, 27, 45, 46] rfl
    have hD := hD.sub (ws' := [(q_1, .inr (12, [.ref bk, .ref tp, .ref ps, .ref rl, u1, .ref bd, .ref fr, u2, .ref pn, .ref nl, u3])), (bk, .inr (2, [.ref ca, .ref bc, .ref bb, .ref bs, .int 0, .int 0])), (ca, .inl (gI G, 2088, .inl bk0)), (bd, .inr (1, [.ref bk, b1, b2, b3, b4, b5])), (q_3, .inr (14, [.ref (Q 0), .ref (Q 1), .int 0, .int 0, .int 10, .ref (Q 5), .ref (Q 6), .ref (Q 7), .ref (Q 8), .ref (Q 9), .ref (Q 10), .ref (Q 11), .ref (Q 12), .ref (Q 13), .ref (Q 14), .ref (Q 15), .ref (Q 16), .ref (Q 17), .ref (Q 18), .ref (Q 19), .ref (Q 20), .ref (Q 21), .ref (Q 22), .ref (Q 23), .ref (Q 24), .ref (Q 25), .ref (Q 26), .int 0, .int 0, .int 0, .int 0, .int 0, .ref (Q 32), .ref (Q 33), .ref (Q 34), .ref (Q 35), .ref (Q 36), .ref (Q 37), .ref (Q 38), .ref (Q 39), .ref (Q 40), .ref (Q 40), .int 0, .int 0, .int 0, .int 0, .int 0, .int 0, .int 0, .int 0, .int (-1), .int 0, .ref (Q 52), .int 0, .ref (Q 54), .int 0, .ref (Q 56), .ref (Q 57), .ref (Q 58), .ref (Q 59), .ref (Q 60), .ref (Q 61), .ref (Q 62), .ref (Q 63), .ref (Q 64), .ref (Q 65), .ref (Q 66), .ref (Q 67), .ref (Q 68), .int 0, .ref (Q 70), .ref (Q 71)])), (Q 12, .inl (gI G, 4, .inl moDr)), (Q 13, .inl (gI G, 4, .inl (fun _ => 0)))]) [0, 1, 2, 15, 27, 45, 46] (by decide) rfl
    refine lv_aload_n hx hb dL_law_590 rfl (lv_at hl 2 rfl) ?_
    refine lv_aload_n hx hb dL_law_591 rfl (lv_at hl 3 rfl) ?_
    refine lv_iload_n hx hb dL_law_592 rfl (lv_at hl 0 rfl) ?_
    refine lv_iconst (v := 1) hx hb dL_law_593 (by decide) ?_
    refine lv_iadd hx hb dL_law_594 ?_
    refine gx_ti (y := 1) (by decide) ?_
    refine va_sld hx hb hX hbl hbA hS (i := 1) (gx_in (by decide)) dL_law_595 ?_
    refine gx_ti (y := xs 1) rfl ?_
    refine lv_aload_n hx hb dL_law_596 rfl (lv_at hl 3 rfl) ?_
    refine lv_iload_n hx hb dL_law_597 rfl (lv_at hl 0 rfl) ?_
    refine lv_iconst (v := 2) hx hb dL_law_598 (by decide) ?_
    refine lv_iadd hx hb dL_law_599 ?_
    refine gx_ti (y := 2) (by decide) ?_
    refine va_sld hx hb hX hbl hbA hS (i := 2) (gx_in (by decide)) dL_law_600 ?_
    refine gx_ti (y := xs 2) rfl ?_
    refine lv_aload_n hx hb dL_law_601 rfl (lv_at hl 3 rfl) ?_
    refine lv_iload_n hx hb dL_law_602 rfl (lv_at hl 0 rfl) ?_
    refine lv_iconst (v := 3) hx hb dL_law_603 (by decide) ?_
    refine lv_iadd hx hb dL_law_604 ?_
    refine gx_ti (y := 3) (by decide) ?_
    refine va_sld hx hb hX hbl hbA hS (i := 3) (gx_in (by decide)) dL_law_605 ?_
    refine gx_ti (y := xs 3) rfl ?_
    refine vp_callSi (va_Run.run (va_runV (As := [.int (xs 1), .int (xs 2), .int (xs 3)]) (rest := []) ⟨hx, hb, hml, hown, hts⟩ (q_begin l G q_1 bk tp ps rl u1 bd fr u2 pn nl u3 b1 b2 b3 b4 b5 ca bc bb bs (xs 1) (xs 2) (xs 3)) (cwV 3 hts (gdV (List.mem_of_getElem? (i := 1232) (by decide +kernel)) (List.mem_of_getElem? (i := 1233) (by decide +kernel)) (List.mem_of_getElem? (i := 1234) (by decide +kernel)) (List.mem_of_getElem? (i := 154) (by decide +kernel)) (fun w9 h9 => ⟨(in_q_begin _ h9), gd_q_begin w9 h9⟩)) rfl rfl rfl kVX11_begin ⟨Nat.le_of_ble_eq_true rfl, Nat.le_of_ble_eq_true rfl⟩) (preV_p (As := [.int (xs 1), .int (xs 2), .int (xs 3)]) (hP.sub (ws' := [(q_1, .inr (12, [.ref bk, .ref tp, .ref ps, .ref rl, u1, .ref bd, .ref fr, u2, .ref pn, .ref nl, u3])), (bd, .inr (1, [.ref bk, b1, b2, b3, b4, b5])), (bk, .inr (2, [.ref ca, .ref bc, .ref bb, .ref bs, .int 0, .int 0])), (ca, .inl (gI G, 2088, .inl bk0))]) [0, 3, 1, 2] rfl) hB rfl rfl) rfl rfl hl.1 rfl (lv_room (Nat.le_of_ble_eq_true rfl)) dL_law_606 ⟨Nat.le_of_ble_eq_true rfl, Nat.le_of_ble_eq_true rfl⟩)) (fun r_60 hr_60 => ?_)
    subst hr_60
    refine lv_aload_n hx hb dL_law_609 rfl (lv_at hl 1 rfl) ?_
    refine lv_aload_n hx hb dL_law_610 rfl (lv_at hl 3 rfl) ?_
    refine lv_iload_n hx hb dL_law_611 rfl (lv_at hl 0 rfl) ?_
    refine lv_iconst (v := 1) hx hb dL_law_612 (by decide) ?_
    refine lv_iadd hx hb dL_law_613 ?_
    refine gx_ti (y := 1) (by decide) ?_
    refine va_sld hx hb hX hbl hbA hS (i := 1) (gx_in (by decide)) dL_law_614 ?_
    refine gx_ti (y := xs 1) rfl ?_
    refine lv_aload_n hx hb dL_law_615 rfl (lv_at hl 3 rfl) ?_
    refine lv_iload_n hx hb dL_law_616 rfl (lv_at hl 0 rfl) ?_
    refine lv_iconst (v := 2) hx hb dL_law_617 (by decide) ?_
    refine lv_iadd hx hb dL_law_618 ?_
    refine gx_ti (y := 2) (by decide) ?_
    refine va_sld hx hb hX hbl hbA hS (i := 2) (gx_in (by decide)) dL_law_619 ?_
    refine gx_ti (y := xs 2) rfl ?_
    refine lv_aload_n hx hb dL_law_620 rfl (lv_at hl 3 rfl) ?_
    refine lv_iload_n hx hb dL_law_621 rfl (lv_at hl 0 rfl) ?_
    refine lv_iconst (v := 3) hx hb dL_law_622 (by decide) ?_
    refine lv_iadd hx hb dL_law_623 ?_
    refine gx_ti (y := 3) (by decide) ?_
    refine va_sld hx hb hX hbl hbA hS (i := 3) (gx_in (by decide)) dL_law_624 ?_
    refine gx_ti (y := xs 3) rfl ?_
    refine vp_callSi (va_Run.run (va_runV (As := [.int (xs 1), .int (xs 2), .int (xs 3)]) (rest := [.int (-2)]) ⟨hx, hb, hml, hown, hts⟩ (m_begin l G q_3 Q (xs 1) (xs 2) (xs 3)) (cwV 3 hts (gdV (List.mem_of_getElem? (i := 2240) (by decide +kernel)) (List.mem_of_getElem? (i := 2241) (by decide +kernel)) (List.mem_of_getElem? (i := 2242) (by decide +kernel)) (List.mem_of_getElem? (i := 171) (by decide +kernel)) (fun w9 h9 => ⟨(in_m_begin _ h9), gd_m_begin w9 h9⟩)) rfl rfl rfl kVX13_begin ⟨Nat.le_of_ble_eq_true rfl, Nat.le_of_ble_eq_true rfl⟩) (preV_p (As := [.int (xs 1), .int (xs 2), .int (xs 3)]) (hP.sub (ws' := [(q_3, .inr (14, [.ref (Q 0), .ref (Q 1), .int 0, .int 0, .int 10, .ref (Q 5), .ref (Q 6), .ref (Q 7), .ref (Q 8), .ref (Q 9), .ref (Q 10), .ref (Q 11), .ref (Q 12), .ref (Q 13), .ref (Q 14), .ref (Q 15), .ref (Q 16), .ref (Q 17), .ref (Q 18), .ref (Q 19), .ref (Q 20), .ref (Q 21), .ref (Q 22), .ref (Q 23), .ref (Q 24), .ref (Q 25), .ref (Q 26), .int 0, .int 0, .int 0, .int 0, .int 0, .ref (Q 32), .ref (Q 33), .ref (Q 34), .ref (Q 35), .ref (Q 36), .ref (Q 37), .ref (Q 38), .ref (Q 39), .ref (Q 40), .ref (Q 40), .int 0, .int 0, .int 0, .int 0, .int 0, .int 0, .int 0, .int 0, .int (-1), .int 0, .ref (Q 52), .int 0, .ref (Q 54), .int 0, .ref (Q 56), .ref (Q 57), .ref (Q 58), .ref (Q 59), .ref (Q 60), .ref (Q 61), .ref (Q 62), .ref (Q 63), .ref (Q 64), .ref (Q 65), .ref (Q 66), .ref (Q 67), .ref (Q 68), .int 0, .ref (Q 70), .ref (Q 71)])), (Q 12, .inl (gI G, 4, .inl moDr)), (Q 13, .inl (gI G, 4, .inl (fun _ => 0)))]) [4, 5, 6] rfl) hB rfl rfl) rfl rfl hl.1 rfl (lv_room (Nat.le_of_ble_eq_true rfl)) dL_law_625 ⟨Nat.le_of_ble_eq_true rfl, Nat.le_of_ble_eq_true rfl⟩)) (fun r_61 hr_61 => ?_)
    subst hr_61
    refine lv_icmp_eq (tgt := 953) hx hb dL_law_628 (by decide) (fun _ => ?_) (fun c9 => absurd (by decide) c9)
    refine lv_iinc (v := 6) (lv' := [(3, .int 6), (2, .ref q_3), (1, .ref q_1), (0, .ref b)]) hx hb dL_law_953 hl (k := 0) rfl (by decide) (by decide) rfl (fun ls hl => ?_)
    refine lv_goto (tgt := 18) hx hb dL_law_956 (by decide) ?_
    refine lv_iload_n hx hb dL_law_18 rfl (lv_at hl 0 rfl) ?_
    refine lv_aload_n hx hb dL_law_19 rfl (lv_at hl 3 rfl) ?_
    refine va_slen hx hb hX hbl hbA hS dL_law_20 ?_
    refine gx_ti (y := 6) (by decide) ?_
    refine lv_bipush (v := 6) hx hb dL_law_21 (by decide) ?_
    refine lv_isub hx hb dL_law_23 ?_
    refine gx_ti (y := 0) (by decide) ?_
    refine lv_icmp_gt (tgt := 959) hx hb dL_law_24 (by decide) (fun _ => ?_) (fun c9 => absurd (by decide) c9)
    refine lv_iconst (v := 1) hx hb dL_law_959 (by decide) ?_
    refine va_forget (fun q hq => hAl q.base (hS.2.2 q hq)) ?_
    refine W.widen (k := 600002) (n := 7302232) (Nat.le_of_ble_eq_true rfl) (Nat.le_of_ble_eq_true rfl) ?_
    exact lw_ret hx hb hr hlocks dL_law_960
  · refine lv_tableIn (off := 600) (tgt := 633) hx hb dL_law_33 (by rw [c_22]; decide) (by rw [c_22]; decide) (by rw [c_22]; rfl) (by decide) ?_
    have hP := hP.sub (ws' := [(q_1, .inr (12, [.ref bk, .ref tp, .ref ps, .ref rl, u1, .ref bd, .ref fr, u2, .ref pn, .ref nl, u3])), (bk, .inr (2, [.ref ca, .ref bc, .ref bb, .ref bs, .int 0, .int 0])), (ca, .inl (gI G, 2088, .inl bk0)), (nl, .inr (5, [.int 0, .int 0, .int 0, .int 0, .int 0, .int 0, l1, l2, l3])), (q_3, .inr (14, [.ref (Q 0), .ref (Q 1), .int 0, .int 0, .int 10, .ref (Q 5), .ref (Q 6), .ref (Q 7), .ref (Q 8), .ref (Q 9), .ref (Q 10), .ref (Q 11), .ref (Q 12), .ref (Q 13), .ref (Q 14), .ref (Q 15), .ref (Q 16), .ref (Q 17), .ref (Q 18), .ref (Q 19), .ref (Q 20), .ref (Q 21), .ref (Q 22), .ref (Q 23), .ref (Q 24), .ref (Q 25), .ref (Q 26), .int 0, .int 0, .int 0, .int 0, .int 0, .ref (Q 32), .ref (Q 33), .ref (Q 34), .ref (Q 35), .ref (Q 36), .ref (Q 37), .ref (Q 38), .ref (Q 39), .ref (Q 40), .ref (Q 40), .int 0, .int 0, .int 0, .int 0, .int 0, .int 0, .int 0, .int 0, .int (-1), .int 0, .ref (Q 52), .int 0, .ref (Q 54), .int 0, .ref (Q 56), .ref (Q 57), .ref (Q 58), .ref (Q 59), .ref (Q 60), .ref (Q 61), .ref (Q 62), .ref (Q 63), .ref (Q 64), .ref (Q 65), .ref (Q 66), .ref (Q 67), .ref (Q 68), .int 0, .ref (Q 70), .ref (Q 71)]))]) [0, 1, 2, 26, 27] rfl
    have hD := hD.sub (ws' := [(q_1, .inr (12, [.ref bk, .ref tp, .ref ps, .ref rl, u1, .ref bd, .ref fr, u2, .ref pn, .ref nl, u3])), (bk, .inr (2, [.ref ca, .ref bc, .ref bb, .ref bs, .int 0, .int 0])), (ca, .inl (gI G, 2088, .inl bk0)), (nl, .inr (5, [.int 0, .int 0, .int 0, .int 0, .int 0, .int 0, l1, l2, l3])), (q_3, .inr (14, [.ref (Q 0), .ref (Q 1), .int 0, .int 0, .int 10, .ref (Q 5), .ref (Q 6), .ref (Q 7), .ref (Q 8), .ref (Q 9), .ref (Q 10), .ref (Q 11), .ref (Q 12), .ref (Q 13), .ref (Q 14), .ref (Q 15), .ref (Q 16), .ref (Q 17), .ref (Q 18), .ref (Q 19), .ref (Q 20), .ref (Q 21), .ref (Q 22), .ref (Q 23), .ref (Q 24), .ref (Q 25), .ref (Q 26), .int 0, .int 0, .int 0, .int 0, .int 0, .ref (Q 32), .ref (Q 33), .ref (Q 34), .ref (Q 35), .ref (Q 36), .ref (Q 37), .ref (Q 38), .ref (Q 39), .ref (Q 40), .ref (Q 40), .int 0, .int 0, .int 0, .int 0, .int 0, .int 0, .int 0, .int 0, .int (-1), .int 0, .ref (Q 52), .int 0, .ref (Q 54), .int 0, .ref (Q 56), .ref (Q 57), .ref (Q 58), .ref (Q 59), .ref (Q 60), .ref (Q 61), .ref (Q 62), .ref (Q 63), .ref (Q 64), .ref (Q 65), .ref (Q 66), .ref (Q 67), .ref (Q 68), .int 0, .ref (Q 70), .ref (Q 71)]))]) [0, 1, 2, 26, 27] (by decide) rfl
    refine lv_aload_n hx hb dL_law_633 rfl (lv_at hl 2 rfl) ?_
    refine lv_aload_n hx hb dL_law_634 rfl (lv_at hl 3 rfl) ?_
    refine lv_iload_n hx hb dL_law_635 rfl (lv_at hl 0 rfl) ?_
    refine lv_iconst (v := 1) hx hb dL_law_636 (by decide) ?_
    refine lv_iadd hx hb dL_law_637 ?_
    refine gx_ti (y := 1) (by decide) ?_
    refine va_sld hx hb hX hbl hbA hS (i := 1) (gx_in (by decide)) dL_law_638 ?_
    refine gx_ti (y := xs 1) rfl ?_
    refine lv_aload_n hx hb dL_law_639 rfl (lv_at hl 3 rfl) ?_
    refine lv_iload_n hx hb dL_law_640 rfl (lv_at hl 0 rfl) ?_
    refine lv_iconst (v := 2) hx hb dL_law_641 (by decide) ?_
    refine lv_iadd hx hb dL_law_642 ?_
    refine gx_ti (y := 2) (by decide) ?_
    refine va_sld hx hb hX hbl hbA hS (i := 2) (gx_in (by decide)) dL_law_643 ?_
    refine gx_ti (y := xs 2) rfl ?_
    refine lv_aload_n hx hb dL_law_644 rfl (lv_at hl 3 rfl) ?_
    refine lv_iload_n hx hb dL_law_645 rfl (lv_at hl 0 rfl) ?_
    refine lv_iconst (v := 3) hx hb dL_law_646 (by decide) ?_
    refine lv_iadd hx hb dL_law_647 ?_
    refine gx_ti (y := 3) (by decide) ?_
    refine va_sld hx hb hX hbl hbA hS (i := 3) (gx_in (by decide)) dL_law_648 ?_
    refine gx_ti (y := xs 3) rfl ?_
    refine vp_callSi (va_Run.run (va_runV (As := [.int (xs 1), .int (xs 2), .int (xs 3)]) (rest := []) ⟨hx, hb, hml, hown, hts⟩ (q_event l G q_1 bk tp ps rl u1 bd fr u2 pn nl u3 ca bc bb bs l1 l2 l3 (xs 1) (xs 2) (xs 3)) (cwV 3 hts (gdV (List.mem_of_getElem? (i := 1261) (by decide +kernel)) (List.mem_of_getElem? (i := 1262) (by decide +kernel)) (List.mem_of_getElem? (i := 1263) (by decide +kernel)) (List.mem_of_getElem? (i := 154) (by decide +kernel)) (fun w9 h9 => ⟨(in_q_event _ h9), gd_q_event w9 h9⟩)) rfl rfl rfl kVX11_event ⟨Nat.le_of_ble_eq_true rfl, Nat.le_of_ble_eq_true rfl⟩) (preV_p (As := [.int (xs 1), .int (xs 2), .int (xs 3)]) (hP.sub (ws' := [(q_1, .inr (12, [.ref bk, .ref tp, .ref ps, .ref rl, u1, .ref bd, .ref fr, u2, .ref pn, .ref nl, u3])), (bk, .inr (2, [.ref ca, .ref bc, .ref bb, .ref bs, .int 0, .int 0])), (ca, .inl (gI G, 2088, .inl bk0)), (nl, .inr (5, [.int 0, .int 0, .int 0, .int 0, .int 0, .int 0, l1, l2, l3]))]) [0, 1, 2, 3] rfl) hB rfl rfl) rfl rfl hl.1 rfl (lv_room (Nat.le_of_ble_eq_true rfl)) dL_law_649 ⟨Nat.le_of_ble_eq_true rfl, Nat.le_of_ble_eq_true rfl⟩)) (fun r_62 hr_62 => ?_)
    subst hr_62
    refine lv_aload_n hx hb dL_law_652 rfl (lv_at hl 1 rfl) ?_
    refine lv_aload_n hx hb dL_law_653 rfl (lv_at hl 3 rfl) ?_
    refine lv_iload_n hx hb dL_law_654 rfl (lv_at hl 0 rfl) ?_
    refine lv_iconst (v := 1) hx hb dL_law_655 (by decide) ?_
    refine lv_iadd hx hb dL_law_656 ?_
    refine gx_ti (y := 1) (by decide) ?_
    refine va_sld hx hb hX hbl hbA hS (i := 1) (gx_in (by decide)) dL_law_657 ?_
    refine gx_ti (y := xs 1) rfl ?_
    refine lv_aload_n hx hb dL_law_658 rfl (lv_at hl 3 rfl) ?_
    refine lv_iload_n hx hb dL_law_659 rfl (lv_at hl 0 rfl) ?_
    refine lv_iconst (v := 2) hx hb dL_law_660 (by decide) ?_
    refine lv_iadd hx hb dL_law_661 ?_
    refine gx_ti (y := 2) (by decide) ?_
    refine va_sld hx hb hX hbl hbA hS (i := 2) (gx_in (by decide)) dL_law_662 ?_
    refine gx_ti (y := xs 2) rfl ?_
    refine lv_aload_n hx hb dL_law_663 rfl (lv_at hl 3 rfl) ?_
    refine lv_iload_n hx hb dL_law_664 rfl (lv_at hl 0 rfl) ?_
    refine lv_iconst (v := 3) hx hb dL_law_665 (by decide) ?_
    refine lv_iadd hx hb dL_law_666 ?_
    refine gx_ti (y := 3) (by decide) ?_
    refine va_sld hx hb hX hbl hbA hS (i := 3) (gx_in (by decide)) dL_law_667 ?_
    refine gx_ti (y := xs 3) rfl ?_
    refine vp_callSi (va_Run.run (va_runV (As := [.int (xs 1), .int (xs 2), .int (xs 3)]) (rest := [.int (-2)]) ⟨hx, hb, hml, hown, hts⟩ (m_event l G q_3 Q (xs 1) (xs 2) (xs 3)) (cwV 3 hts (gdV (List.mem_of_getElem? (i := 2251) (by decide +kernel)) (List.mem_of_getElem? (i := 2252) (by decide +kernel)) (List.mem_of_getElem? (i := 2253) (by decide +kernel)) (List.mem_of_getElem? (i := 171) (by decide +kernel)) (fun w9 h9 => ⟨(in_m_event _ h9), gd_m_event w9 h9⟩)) rfl rfl rfl kVX13_event ⟨Nat.le_of_ble_eq_true rfl, Nat.le_of_ble_eq_true rfl⟩) (preV_p (As := [.int (xs 1), .int (xs 2), .int (xs 3)]) (hP.sub (ws' := [(q_3, .inr (14, [.ref (Q 0), .ref (Q 1), .int 0, .int 0, .int 10, .ref (Q 5), .ref (Q 6), .ref (Q 7), .ref (Q 8), .ref (Q 9), .ref (Q 10), .ref (Q 11), .ref (Q 12), .ref (Q 13), .ref (Q 14), .ref (Q 15), .ref (Q 16), .ref (Q 17), .ref (Q 18), .ref (Q 19), .ref (Q 20), .ref (Q 21), .ref (Q 22), .ref (Q 23), .ref (Q 24), .ref (Q 25), .ref (Q 26), .int 0, .int 0, .int 0, .int 0, .int 0, .ref (Q 32), .ref (Q 33), .ref (Q 34), .ref (Q 35), .ref (Q 36), .ref (Q 37), .ref (Q 38), .ref (Q 39), .ref (Q 40), .ref (Q 40), .int 0, .int 0, .int 0, .int 0, .int 0, .int 0, .int 0, .int 0, .int (-1), .int 0, .ref (Q 52), .int 0, .ref (Q 54), .int 0, .ref (Q 56), .ref (Q 57), .ref (Q 58), .ref (Q 59), .ref (Q 60), .ref (Q 61), .ref (Q 62), .ref (Q 63), .ref (Q 64), .ref (Q 65), .ref (Q 66), .ref (Q 67), .ref (Q 68), .int 0, .ref (Q 70), .ref (Q 71)]))]) [4] rfl) hB rfl rfl) rfl rfl hl.1 rfl (lv_room (Nat.le_of_ble_eq_true rfl)) dL_law_668 ⟨Nat.le_of_ble_eq_true rfl, Nat.le_of_ble_eq_true rfl⟩)) (fun r_63 hr_63 => ?_)
    subst hr_63
    refine lv_icmp_eq (tgt := 953) hx hb dL_law_671 (by decide) (fun _ => ?_) (fun c9 => absurd (by decide) c9)
    refine lv_iinc (v := 6) (lv' := [(3, .int 6), (2, .ref q_3), (1, .ref q_1), (0, .ref b)]) hx hb dL_law_953 hl (k := 0) rfl (by decide) (by decide) rfl (fun ls hl => ?_)
    refine lv_goto (tgt := 18) hx hb dL_law_956 (by decide) ?_
    refine lv_iload_n hx hb dL_law_18 rfl (lv_at hl 0 rfl) ?_
    refine lv_aload_n hx hb dL_law_19 rfl (lv_at hl 3 rfl) ?_
    refine va_slen hx hb hX hbl hbA hS dL_law_20 ?_
    refine gx_ti (y := 6) (by decide) ?_
    refine lv_bipush (v := 6) hx hb dL_law_21 (by decide) ?_
    refine lv_isub hx hb dL_law_23 ?_
    refine gx_ti (y := 0) (by decide) ?_
    refine lv_icmp_gt (tgt := 959) hx hb dL_law_24 (by decide) (fun _ => ?_) (fun c9 => absurd (by decide) c9)
    refine lv_iconst (v := 1) hx hb dL_law_959 (by decide) ?_
    refine va_forget (fun q hq => hAl q.base (hS.2.2 q hq)) ?_
    refine W.widen (k := 600002) (n := 7302232) (Nat.le_of_ble_eq_true rfl) (Nat.le_of_ble_eq_true rfl) ?_
    exact lw_ret hx hb hr hlocks dL_law_960
  · refine lv_tableIn (off := 643) (tgt := 676) hx hb dL_law_33 (by rw [c_23]; decide) (by rw [c_23]; decide) (by rw [c_23]; rfl) (by decide) ?_
    have hP := hP.sub (ws' := [(q_1, .inr (12, [.ref bk, .ref tp, .ref ps, .ref rl, u1, .ref bd, .ref fr, u2, .ref pn, .ref nl, u3])), (bk, .inr (2, [.ref ca, .ref bc, .ref bb, .ref bs, .int 0, .int 0])), (ca, .inl (gI G, 2088, .inl bk0)), (fr, .inr (4, [.ref bk, .ref bd, f1, .int 0])), (q_3, .inr (14, [.ref (Q 0), .ref (Q 1), .int 0, .int 0, .int 10, .ref (Q 5), .ref (Q 6), .ref (Q 7), .ref (Q 8), .ref (Q 9), .ref (Q 10), .ref (Q 11), .ref (Q 12), .ref (Q 13), .ref (Q 14), .ref (Q 15), .ref (Q 16), .ref (Q 17), .ref (Q 18), .ref (Q 19), .ref (Q 20), .ref (Q 21), .ref (Q 22), .ref (Q 23), .ref (Q 24), .ref (Q 25), .ref (Q 26), .int 0, .int 0, .int 0, .int 0, .int 0, .ref (Q 32), .ref (Q 33), .ref (Q 34), .ref (Q 35), .ref (Q 36), .ref (Q 37), .ref (Q 38), .ref (Q 39), .ref (Q 40), .ref (Q 40), .int 0, .int 0, .int 0, .int 0, .int 0, .int 0, .int 0, .int 0, .int (-1), .int 0, .ref (Q 52), .int 0, .ref (Q 54), .int 0, .ref (Q 56), .ref (Q 57), .ref (Q 58), .ref (Q 59), .ref (Q 60), .ref (Q 61), .ref (Q 62), .ref (Q 63), .ref (Q 64), .ref (Q 65), .ref (Q 66), .ref (Q 67), .ref (Q 68), .int 0, .ref (Q 70), .ref (Q 71)])), (Q 22, .inl (gI G, 4, .inl moOn))]) [0, 1, 2, 16, 27, 47] rfl
    have hD := hD.sub (ws' := [(q_1, .inr (12, [.ref bk, .ref tp, .ref ps, .ref rl, u1, .ref bd, .ref fr, u2, .ref pn, .ref nl, u3])), (bk, .inr (2, [.ref ca, .ref bc, .ref bb, .ref bs, .int 0, .int 0])), (ca, .inl (gI G, 2088, .inl bk0)), (fr, .inr (4, [.ref bk, .ref bd, f1, .int 0])), (q_3, .inr (14, [.ref (Q 0), .ref (Q 1), .int 0, .int 0, .int 10, .ref (Q 5), .ref (Q 6), .ref (Q 7), .ref (Q 8), .ref (Q 9), .ref (Q 10), .ref (Q 11), .ref (Q 12), .ref (Q 13), .ref (Q 14), .ref (Q 15), .ref (Q 16), .ref (Q 17), .ref (Q 18), .ref (Q 19), .ref (Q 20), .ref (Q 21), .ref (Q 22), .ref (Q 23), .ref (Q 24), .ref (Q 25), .ref (Q 26), .int 0, .int 0, .int 0, .int 0, .int 0, .ref (Q 32), .ref (Q 33), .ref (Q 34), .ref (Q 35), .ref (Q 36), .ref (Q 37), .ref (Q 38), .ref (Q 39), .ref (Q 40), .ref (Q 40), .int 0, .int 0, .int 0, .int 0, .int 0, .int 0, .int 0, .int 0, .int (-1), .int 0, .ref (Q 52), .int 0, .ref (Q 54), .int 0, .ref (Q 56), .ref (Q 57), .ref (Q 58), .ref (Q 59), .ref (Q 60), .ref (Q 61), .ref (Q 62), .ref (Q 63), .ref (Q 64), .ref (Q 65), .ref (Q 66), .ref (Q 67), .ref (Q 68), .int 0, .ref (Q 70), .ref (Q 71)])), (Q 22, .inl (gI G, 4, .inl moOn))]) [0, 1, 2, 16, 27, 47] (by decide) rfl
    refine lv_aload_n hx hb dL_law_676 rfl (lv_at hl 2 rfl) ?_
    refine lv_aload_n hx hb dL_law_677 rfl (lv_at hl 3 rfl) ?_
    refine lv_iload_n hx hb dL_law_678 rfl (lv_at hl 0 rfl) ?_
    refine lv_iconst (v := 1) hx hb dL_law_679 (by decide) ?_
    refine lv_iadd hx hb dL_law_680 ?_
    refine gx_ti (y := 1) (by decide) ?_
    refine va_sld hx hb hX hbl hbA hS (i := 1) (gx_in (by decide)) dL_law_681 ?_
    refine gx_ti (y := xs 1) rfl ?_
    refine lv_aload_n hx hb dL_law_682 rfl (lv_at hl 3 rfl) ?_
    refine lv_iload_n hx hb dL_law_683 rfl (lv_at hl 0 rfl) ?_
    refine lv_iconst (v := 2) hx hb dL_law_684 (by decide) ?_
    refine lv_iadd hx hb dL_law_685 ?_
    refine gx_ti (y := 2) (by decide) ?_
    refine va_sld hx hb hX hbl hbA hS (i := 2) (gx_in (by decide)) dL_law_686 ?_
    refine gx_ti (y := xs 2) rfl ?_
    refine vp_callSi (va_Run.run (va_runV (As := [.int (xs 1), .int (xs 2)]) (rest := []) ⟨hx, hb, hml, hown, hts⟩ (q_tick l G q_1 bk tp ps rl u1 bd fr u2 pn nl u3 f1 ca bc bb bs (xs 1) (xs 2)) (cwV 2 hts (gdV (List.mem_of_getElem? (i := 1332) (by decide +kernel)) (List.mem_of_getElem? (i := 1333) (by decide +kernel)) (List.mem_of_getElem? (i := 1334) (by decide +kernel)) (List.mem_of_getElem? (i := 154) (by decide +kernel)) (fun w9 h9 => ⟨(in_q_tick _ h9), gd_q_tick w9 h9⟩)) rfl rfl rfl kVX11_tick ⟨Nat.le_of_ble_eq_true rfl, Nat.le_of_ble_eq_true rfl⟩) (preV_p (As := [.int (xs 1), .int (xs 2)]) (hP.sub (ws' := [(q_1, .inr (12, [.ref bk, .ref tp, .ref ps, .ref rl, u1, .ref bd, .ref fr, u2, .ref pn, .ref nl, u3])), (fr, .inr (4, [.ref bk, .ref bd, f1, .int 0])), (bk, .inr (2, [.ref ca, .ref bc, .ref bb, .ref bs, .int 0, .int 0])), (ca, .inl (gI G, 2088, .inl bk0))]) [0, 3, 1, 2] rfl) hB rfl rfl) rfl rfl hl.1 rfl (lv_room (Nat.le_of_ble_eq_true rfl)) dL_law_687 ⟨Nat.le_of_ble_eq_true rfl, Nat.le_of_ble_eq_true rfl⟩)) (fun r_64 hr_64 => ?_)
    subst hr_64
    refine lv_aload_n hx hb dL_law_690 rfl (lv_at hl 1 rfl) ?_
    refine lv_aload_n hx hb dL_law_691 rfl (lv_at hl 3 rfl) ?_
    refine lv_iload_n hx hb dL_law_692 rfl (lv_at hl 0 rfl) ?_
    refine lv_iconst (v := 1) hx hb dL_law_693 (by decide) ?_
    refine lv_iadd hx hb dL_law_694 ?_
    refine gx_ti (y := 1) (by decide) ?_
    refine va_sld hx hb hX hbl hbA hS (i := 1) (gx_in (by decide)) dL_law_695 ?_
    refine gx_ti (y := xs 1) rfl ?_
    refine lv_aload_n hx hb dL_law_696 rfl (lv_at hl 3 rfl) ?_
    refine lv_iload_n hx hb dL_law_697 rfl (lv_at hl 0 rfl) ?_
    refine lv_iconst (v := 2) hx hb dL_law_698 (by decide) ?_
    refine lv_iadd hx hb dL_law_699 ?_
    refine gx_ti (y := 2) (by decide) ?_
    refine va_sld hx hb hX hbl hbA hS (i := 2) (gx_in (by decide)) dL_law_700 ?_
    refine gx_ti (y := xs 2) rfl ?_
    refine vp_callSi (va_Run.run (va_runV (As := [.int (xs 1), .int (xs 2)]) (rest := [.int (if (xs 1) < 0 ∨ 4 ≤ (xs 1) ∨ (xs 2) < 1 ∨ 9999 < (xs 2) then (-2) else (-3))]) ⟨hx, hb, hml, hown, hts⟩ (m_tick l G q_3 Q (xs 1) (xs 2)) (cwV 2 hts (gdV (List.mem_of_getElem? (i := 2255) (by decide +kernel)) (List.mem_of_getElem? (i := 2256) (by decide +kernel)) (List.mem_of_getElem? (i := 2257) (by decide +kernel)) (List.mem_of_getElem? (i := 171) (by decide +kernel)) (fun w9 h9 => ⟨(in_m_tick _ h9), gd_m_tick w9 h9⟩)) rfl rfl rfl kVX13_tick ⟨Nat.le_of_ble_eq_true rfl, Nat.le_of_ble_eq_true rfl⟩) (preV_p (As := [.int (xs 1), .int (xs 2)]) (hP.sub (ws' := [(q_3, .inr (14, [.ref (Q 0), .ref (Q 1), .int 0, .int 0, .int 10, .ref (Q 5), .ref (Q 6), .ref (Q 7), .ref (Q 8), .ref (Q 9), .ref (Q 10), .ref (Q 11), .ref (Q 12), .ref (Q 13), .ref (Q 14), .ref (Q 15), .ref (Q 16), .ref (Q 17), .ref (Q 18), .ref (Q 19), .ref (Q 20), .ref (Q 21), .ref (Q 22), .ref (Q 23), .ref (Q 24), .ref (Q 25), .ref (Q 26), .int 0, .int 0, .int 0, .int 0, .int 0, .ref (Q 32), .ref (Q 33), .ref (Q 34), .ref (Q 35), .ref (Q 36), .ref (Q 37), .ref (Q 38), .ref (Q 39), .ref (Q 40), .ref (Q 40), .int 0, .int 0, .int 0, .int 0, .int 0, .int 0, .int 0, .int 0, .int (-1), .int 0, .ref (Q 52), .int 0, .ref (Q 54), .int 0, .ref (Q 56), .ref (Q 57), .ref (Q 58), .ref (Q 59), .ref (Q 60), .ref (Q 61), .ref (Q 62), .ref (Q 63), .ref (Q 64), .ref (Q 65), .ref (Q 66), .ref (Q 67), .ref (Q 68), .int 0, .ref (Q 70), .ref (Q 71)])), (Q 22, .inl (gI G, 4, .inl moOn))]) [4, 5] rfl) hB rfl rfl) rfl rfl hl.1 rfl (lv_room (Nat.le_of_ble_eq_true rfl)) dL_law_701 ⟨Nat.le_of_ble_eq_true rfl, Nat.le_of_ble_eq_true rfl⟩)) (fun r_65 hr_65 => ?_)
    subst hr_65
    refine lv_icmp_eq (tgt := 953) hx hb dL_law_704 (by decide) (fun _ => ?_) (fun c9 => absurd rfl c9)
    refine lv_iinc (v := 6) (lv' := [(3, .int 6), (2, .ref q_3), (1, .ref q_1), (0, .ref b)]) hx hb dL_law_953 hl (k := 0) rfl (by decide) (by decide) rfl (fun ls hl => ?_)
    refine lv_goto (tgt := 18) hx hb dL_law_956 (by decide) ?_
    refine lv_iload_n hx hb dL_law_18 rfl (lv_at hl 0 rfl) ?_
    refine lv_aload_n hx hb dL_law_19 rfl (lv_at hl 3 rfl) ?_
    refine va_slen hx hb hX hbl hbA hS dL_law_20 ?_
    refine gx_ti (y := 6) (by decide) ?_
    refine lv_bipush (v := 6) hx hb dL_law_21 (by decide) ?_
    refine lv_isub hx hb dL_law_23 ?_
    refine gx_ti (y := 0) (by decide) ?_
    refine lv_icmp_gt (tgt := 959) hx hb dL_law_24 (by decide) (fun _ => ?_) (fun c9 => absurd (by decide) c9)
    refine lv_iconst (v := 1) hx hb dL_law_959 (by decide) ?_
    refine va_forget (fun q hq => hAl q.base (hS.2.2 q hq)) ?_
    refine W.widen (k := 600002) (n := 7302232) (Nat.le_of_ble_eq_true rfl) (Nat.le_of_ble_eq_true rfl) ?_
    exact lw_ret hx hb hr hlocks dL_law_960
  · refine lv_tableIn (off := 676) (tgt := 709) hx hb dL_law_33 (by rw [c_24]; decide) (by rw [c_24]; decide) (by rw [c_24]; rfl) (by decide) ?_
    have hP := hP.sub (ws' := [(q_1, .inr (12, [.ref bk, .ref tp, .ref ps, .ref rl, u1, .ref bd, .ref fr, u2, .ref pn, .ref nl, u3])), (bk, .inr (2, [.ref ca, .ref bc, .ref bb, .ref bs, .int 0, .int 0])), (ca, .inl (gI G, 2088, .inl bk0)), (fr, .inr (4, [.ref bk, .ref bd, f1, .int 0])), (q_3, .inr (14, [.ref (Q 0), .ref (Q 1), .int 0, .int 0, .int 10, .ref (Q 5), .ref (Q 6), .ref (Q 7), .ref (Q 8), .ref (Q 9), .ref (Q 10), .ref (Q 11), .ref (Q 12), .ref (Q 13), .ref (Q 14), .ref (Q 15), .ref (Q 16), .ref (Q 17), .ref (Q 18), .ref (Q 19), .ref (Q 20), .ref (Q 21), .ref (Q 22), .ref (Q 23), .ref (Q 24), .ref (Q 25), .ref (Q 26), .int 0, .int 0, .int 0, .int 0, .int 0, .ref (Q 32), .ref (Q 33), .ref (Q 34), .ref (Q 35), .ref (Q 36), .ref (Q 37), .ref (Q 38), .ref (Q 39), .ref (Q 40), .ref (Q 40), .int 0, .int 0, .int 0, .int 0, .int 0, .int 0, .int 0, .int 0, .int (-1), .int 0, .ref (Q 52), .int 0, .ref (Q 54), .int 0, .ref (Q 56), .ref (Q 57), .ref (Q 58), .ref (Q 59), .ref (Q 60), .ref (Q 61), .ref (Q 62), .ref (Q 63), .ref (Q 64), .ref (Q 65), .ref (Q 66), .ref (Q 67), .ref (Q 68), .int 0, .ref (Q 70), .ref (Q 71)])), (Q 22, .inl (gI G, 4, .inl moOn))]) [0, 1, 2, 16, 27, 47] rfl
    have hD := hD.sub (ws' := [(q_1, .inr (12, [.ref bk, .ref tp, .ref ps, .ref rl, u1, .ref bd, .ref fr, u2, .ref pn, .ref nl, u3])), (bk, .inr (2, [.ref ca, .ref bc, .ref bb, .ref bs, .int 0, .int 0])), (ca, .inl (gI G, 2088, .inl bk0)), (fr, .inr (4, [.ref bk, .ref bd, f1, .int 0])), (q_3, .inr (14, [.ref (Q 0), .ref (Q 1), .int 0, .int 0, .int 10, .ref (Q 5), .ref (Q 6), .ref (Q 7), .ref (Q 8), .ref (Q 9), .ref (Q 10), .ref (Q 11), .ref (Q 12), .ref (Q 13), .ref (Q 14), .ref (Q 15), .ref (Q 16), .ref (Q 17), .ref (Q 18), .ref (Q 19), .ref (Q 20), .ref (Q 21), .ref (Q 22), .ref (Q 23), .ref (Q 24), .ref (Q 25), .ref (Q 26), .int 0, .int 0, .int 0, .int 0, .int 0, .ref (Q 32), .ref (Q 33), .ref (Q 34), .ref (Q 35), .ref (Q 36), .ref (Q 37), .ref (Q 38), .ref (Q 39), .ref (Q 40), .ref (Q 40), .int 0, .int 0, .int 0, .int 0, .int 0, .int 0, .int 0, .int 0, .int (-1), .int 0, .ref (Q 52), .int 0, .ref (Q 54), .int 0, .ref (Q 56), .ref (Q 57), .ref (Q 58), .ref (Q 59), .ref (Q 60), .ref (Q 61), .ref (Q 62), .ref (Q 63), .ref (Q 64), .ref (Q 65), .ref (Q 66), .ref (Q 67), .ref (Q 68), .int 0, .ref (Q 70), .ref (Q 71)])), (Q 22, .inl (gI G, 4, .inl moOn))]) [0, 1, 2, 16, 27, 47] (by decide) rfl
    refine lv_aload_n hx hb dL_law_709 rfl (lv_at hl 2 rfl) ?_
    refine lv_aload_n hx hb dL_law_710 rfl (lv_at hl 3 rfl) ?_
    refine lv_iload_n hx hb dL_law_711 rfl (lv_at hl 0 rfl) ?_
    refine lv_iconst (v := 1) hx hb dL_law_712 (by decide) ?_
    refine lv_iadd hx hb dL_law_713 ?_
    refine gx_ti (y := 1) (by decide) ?_
    refine va_sld hx hb hX hbl hbA hS (i := 1) (gx_in (by decide)) dL_law_714 ?_
    refine gx_ti (y := xs 1) rfl ?_
    refine lv_aload_n hx hb dL_law_715 rfl (lv_at hl 3 rfl) ?_
    refine lv_iload_n hx hb dL_law_716 rfl (lv_at hl 0 rfl) ?_
    refine lv_iconst (v := 2) hx hb dL_law_717 (by decide) ?_
    refine lv_iadd hx hb dL_law_718 ?_
    refine gx_ti (y := 2) (by decide) ?_
    refine va_sld hx hb hX hbl hbA hS (i := 2) (gx_in (by decide)) dL_law_719 ?_
    refine gx_ti (y := xs 2) rfl ?_
    refine vp_callSi (va_Run.run (va_runV (As := [.int (xs 1), .int (xs 2)]) (rest := []) ⟨hx, hb, hml, hown, hts⟩ (q_decide l G q_1 bk tp ps rl u1 bd fr u2 pn nl u3 f1 ca bc bb bs (xs 1) (xs 2)) (cwV 2 hts (gdV (List.mem_of_getElem? (i := 1341) (by decide +kernel)) (List.mem_of_getElem? (i := 1342) (by decide +kernel)) (List.mem_of_getElem? (i := 1343) (by decide +kernel)) (List.mem_of_getElem? (i := 154) (by decide +kernel)) (fun w9 h9 => ⟨(in_q_decide _ h9), gd_q_decide w9 h9⟩)) rfl rfl rfl kVX11_decide ⟨Nat.le_of_ble_eq_true rfl, Nat.le_of_ble_eq_true rfl⟩) (preV_p (As := [.int (xs 1), .int (xs 2)]) (hP.sub (ws' := [(q_1, .inr (12, [.ref bk, .ref tp, .ref ps, .ref rl, u1, .ref bd, .ref fr, u2, .ref pn, .ref nl, u3])), (fr, .inr (4, [.ref bk, .ref bd, f1, .int 0])), (bk, .inr (2, [.ref ca, .ref bc, .ref bb, .ref bs, .int 0, .int 0])), (ca, .inl (gI G, 2088, .inl bk0))]) [0, 3, 1, 2] rfl) hB rfl rfl) rfl rfl hl.1 rfl (lv_room (Nat.le_of_ble_eq_true rfl)) dL_law_720 ⟨Nat.le_of_ble_eq_true rfl, Nat.le_of_ble_eq_true rfl⟩)) (fun r_66 hr_66 => ?_)
    subst hr_66
    refine lv_aload_n hx hb dL_law_723 rfl (lv_at hl 1 rfl) ?_
    refine lv_aload_n hx hb dL_law_724 rfl (lv_at hl 3 rfl) ?_
    refine lv_iload_n hx hb dL_law_725 rfl (lv_at hl 0 rfl) ?_
    refine lv_iconst (v := 1) hx hb dL_law_726 (by decide) ?_
    refine lv_iadd hx hb dL_law_727 ?_
    refine gx_ti (y := 1) (by decide) ?_
    refine va_sld hx hb hX hbl hbA hS (i := 1) (gx_in (by decide)) dL_law_728 ?_
    refine gx_ti (y := xs 1) rfl ?_
    refine lv_aload_n hx hb dL_law_729 rfl (lv_at hl 3 rfl) ?_
    refine lv_iload_n hx hb dL_law_730 rfl (lv_at hl 0 rfl) ?_
    refine lv_iconst (v := 2) hx hb dL_law_731 (by decide) ?_
    refine lv_iadd hx hb dL_law_732 ?_
    refine gx_ti (y := 2) (by decide) ?_
    refine va_sld hx hb hX hbl hbA hS (i := 2) (gx_in (by decide)) dL_law_733 ?_
    refine gx_ti (y := xs 2) rfl ?_
    refine vp_callSi (va_Run.run (va_runV (As := [.int (xs 1), .int (xs 2)]) (rest := [.int (if (xs 1) < 0 ∨ 4 ≤ (xs 1) then (-2) else if (xs 2) = 0 ∨ (xs 2) = 1 then (-3) else (-2))]) ⟨hx, hb, hml, hown, hts⟩ (m_decide l G q_3 Q (xs 1) (xs 2)) (cwV 2 hts (gdV (List.mem_of_getElem? (i := 2260) (by decide +kernel)) (List.mem_of_getElem? (i := 2261) (by decide +kernel)) (List.mem_of_getElem? (i := 2262) (by decide +kernel)) (List.mem_of_getElem? (i := 171) (by decide +kernel)) (fun w9 h9 => ⟨(in_m_decide _ h9), gd_m_decide w9 h9⟩)) rfl rfl rfl kVX13_decide ⟨Nat.le_of_ble_eq_true rfl, Nat.le_of_ble_eq_true rfl⟩) (preV_p (As := [.int (xs 1), .int (xs 2)]) (hP.sub (ws' := [(q_3, .inr (14, [.ref (Q 0), .ref (Q 1), .int 0, .int 0, .int 10, .ref (Q 5), .ref (Q 6), .ref (Q 7), .ref (Q 8), .ref (Q 9), .ref (Q 10), .ref (Q 11), .ref (Q 12), .ref (Q 13), .ref (Q 14), .ref (Q 15), .ref (Q 16), .ref (Q 17), .ref (Q 18), .ref (Q 19), .ref (Q 20), .ref (Q 21), .ref (Q 22), .ref (Q 23), .ref (Q 24), .ref (Q 25), .ref (Q 26), .int 0, .int 0, .int 0, .int 0, .int 0, .ref (Q 32), .ref (Q 33), .ref (Q 34), .ref (Q 35), .ref (Q 36), .ref (Q 37), .ref (Q 38), .ref (Q 39), .ref (Q 40), .ref (Q 40), .int 0, .int 0, .int 0, .int 0, .int 0, .int 0, .int 0, .int 0, .int (-1), .int 0, .ref (Q 52), .int 0, .ref (Q 54), .int 0, .ref (Q 56), .ref (Q 57), .ref (Q 58), .ref (Q 59), .ref (Q 60), .ref (Q 61), .ref (Q 62), .ref (Q 63), .ref (Q 64), .ref (Q 65), .ref (Q 66), .ref (Q 67), .ref (Q 68), .int 0, .ref (Q 70), .ref (Q 71)])), (Q 22, .inl (gI G, 4, .inl moOn))]) [4, 5] rfl) hB rfl rfl) rfl rfl hl.1 rfl (lv_room (Nat.le_of_ble_eq_true rfl)) dL_law_734 ⟨Nat.le_of_ble_eq_true rfl, Nat.le_of_ble_eq_true rfl⟩)) (fun r_67 hr_67 => ?_)
    subst hr_67
    refine lv_icmp_eq (tgt := 953) hx hb dL_law_737 (by decide) (fun _ => ?_) (fun c9 => absurd rfl c9)
    refine lv_iinc (v := 6) (lv' := [(3, .int 6), (2, .ref q_3), (1, .ref q_1), (0, .ref b)]) hx hb dL_law_953 hl (k := 0) rfl (by decide) (by decide) rfl (fun ls hl => ?_)
    refine lv_goto (tgt := 18) hx hb dL_law_956 (by decide) ?_
    refine lv_iload_n hx hb dL_law_18 rfl (lv_at hl 0 rfl) ?_
    refine lv_aload_n hx hb dL_law_19 rfl (lv_at hl 3 rfl) ?_
    refine va_slen hx hb hX hbl hbA hS dL_law_20 ?_
    refine gx_ti (y := 6) (by decide) ?_
    refine lv_bipush (v := 6) hx hb dL_law_21 (by decide) ?_
    refine lv_isub hx hb dL_law_23 ?_
    refine gx_ti (y := 0) (by decide) ?_
    refine lv_icmp_gt (tgt := 959) hx hb dL_law_24 (by decide) (fun _ => ?_) (fun c9 => absurd (by decide) c9)
    refine lv_iconst (v := 1) hx hb dL_law_959 (by decide) ?_
    refine va_forget (fun q hq => hAl q.base (hS.2.2 q hq)) ?_
    refine W.widen (k := 600002) (n := 7302232) (Nat.le_of_ble_eq_true rfl) (Nat.le_of_ble_eq_true rfl) ?_
    exact lw_ret hx hb hr hlocks dL_law_960
  · refine lv_tableIn (off := 709) (tgt := 742) hx hb dL_law_33 (by rw [c_25]; decide) (by rw [c_25]; decide) (by rw [c_25]; rfl) (by decide) ?_
    have hP := hP.sub (ws' := [(q_1, .inr (12, [.ref bk, .ref tp, .ref ps, .ref rl, u1, .ref bd, .ref fr, u2, .ref pn, .ref nl, u3])), (bk, .inr (2, [.ref ca, .ref bc, .ref bb, .ref bs, .int 0, .int 0])), (ca, .inl (gI G, 2088, .inl bk0)), (fr, .inr (4, [.ref bk, .ref bd, f1, .int 0])), (q_3, .inr (14, [.ref (Q 0), .ref (Q 1), .int 0, .int 0, .int 10, .ref (Q 5), .ref (Q 6), .ref (Q 7), .ref (Q 8), .ref (Q 9), .ref (Q 10), .ref (Q 11), .ref (Q 12), .ref (Q 13), .ref (Q 14), .ref (Q 15), .ref (Q 16), .ref (Q 17), .ref (Q 18), .ref (Q 19), .ref (Q 20), .ref (Q 21), .ref (Q 22), .ref (Q 23), .ref (Q 24), .ref (Q 25), .ref (Q 26), .int 0, .int 0, .int 0, .int 0, .int 0, .ref (Q 32), .ref (Q 33), .ref (Q 34), .ref (Q 35), .ref (Q 36), .ref (Q 37), .ref (Q 38), .ref (Q 39), .ref (Q 40), .ref (Q 40), .int 0, .int 0, .int 0, .int 0, .int 0, .int 0, .int 0, .int 0, .int (-1), .int 0, .ref (Q 52), .int 0, .ref (Q 54), .int 0, .ref (Q 56), .ref (Q 57), .ref (Q 58), .ref (Q 59), .ref (Q 60), .ref (Q 61), .ref (Q 62), .ref (Q 63), .ref (Q 64), .ref (Q 65), .ref (Q 66), .ref (Q 67), .ref (Q 68), .int 0, .ref (Q 70), .ref (Q 71)])), (Q 22, .inl (gI G, 4, .inl moOn))]) [0, 1, 2, 16, 27, 47] rfl
    have hD := hD.sub (ws' := [(q_1, .inr (12, [.ref bk, .ref tp, .ref ps, .ref rl, u1, .ref bd, .ref fr, u2, .ref pn, .ref nl, u3])), (bk, .inr (2, [.ref ca, .ref bc, .ref bb, .ref bs, .int 0, .int 0])), (ca, .inl (gI G, 2088, .inl bk0)), (fr, .inr (4, [.ref bk, .ref bd, f1, .int 0])), (q_3, .inr (14, [.ref (Q 0), .ref (Q 1), .int 0, .int 0, .int 10, .ref (Q 5), .ref (Q 6), .ref (Q 7), .ref (Q 8), .ref (Q 9), .ref (Q 10), .ref (Q 11), .ref (Q 12), .ref (Q 13), .ref (Q 14), .ref (Q 15), .ref (Q 16), .ref (Q 17), .ref (Q 18), .ref (Q 19), .ref (Q 20), .ref (Q 21), .ref (Q 22), .ref (Q 23), .ref (Q 24), .ref (Q 25), .ref (Q 26), .int 0, .int 0, .int 0, .int 0, .int 0, .ref (Q 32), .ref (Q 33), .ref (Q 34), .ref (Q 35), .ref (Q 36), .ref (Q 37), .ref (Q 38), .ref (Q 39), .ref (Q 40), .ref (Q 40), .int 0, .int 0, .int 0, .int 0, .int 0, .int 0, .int 0, .int 0, .int (-1), .int 0, .ref (Q 52), .int 0, .ref (Q 54), .int 0, .ref (Q 56), .ref (Q 57), .ref (Q 58), .ref (Q 59), .ref (Q 60), .ref (Q 61), .ref (Q 62), .ref (Q 63), .ref (Q 64), .ref (Q 65), .ref (Q 66), .ref (Q 67), .ref (Q 68), .int 0, .ref (Q 70), .ref (Q 71)])), (Q 22, .inl (gI G, 4, .inl moOn))]) [0, 1, 2, 16, 27, 47] (by decide) rfl
    refine lv_aload_n hx hb dL_law_742 rfl (lv_at hl 2 rfl) ?_
    refine lv_aload_n hx hb dL_law_743 rfl (lv_at hl 3 rfl) ?_
    refine lv_iload_n hx hb dL_law_744 rfl (lv_at hl 0 rfl) ?_
    refine lv_iconst (v := 1) hx hb dL_law_745 (by decide) ?_
    refine lv_iadd hx hb dL_law_746 ?_
    refine gx_ti (y := 1) (by decide) ?_
    refine va_sld hx hb hX hbl hbA hS (i := 1) (gx_in (by decide)) dL_law_747 ?_
    refine gx_ti (y := xs 1) rfl ?_
    refine lv_aload_n hx hb dL_law_748 rfl (lv_at hl 3 rfl) ?_
    refine lv_iload_n hx hb dL_law_749 rfl (lv_at hl 0 rfl) ?_
    refine lv_iconst (v := 2) hx hb dL_law_750 (by decide) ?_
    refine lv_iadd hx hb dL_law_751 ?_
    refine gx_ti (y := 2) (by decide) ?_
    refine va_sld hx hb hX hbl hbA hS (i := 2) (gx_in (by decide)) dL_law_752 ?_
    refine gx_ti (y := xs 2) rfl ?_
    refine vp_callSi (va_Run.run (va_runV (As := [.int (xs 1), .int (xs 2)]) (rest := []) ⟨hx, hb, hml, hown, hts⟩ (q_mat l G q_1 bk tp ps rl u1 bd fr u2 pn nl u3 f1 ca bc bb bs (xs 1) (xs 2)) (cwV 2 hts (gdV (List.mem_of_getElem? (i := 1350) (by decide +kernel)) (List.mem_of_getElem? (i := 1351) (by decide +kernel)) (List.mem_of_getElem? (i := 1352) (by decide +kernel)) (List.mem_of_getElem? (i := 154) (by decide +kernel)) (fun w9 h9 => ⟨(in_q_mat _ h9), gd_q_mat w9 h9⟩)) rfl rfl rfl kVX11_mat ⟨Nat.le_of_ble_eq_true rfl, Nat.le_of_ble_eq_true rfl⟩) (preV_p (As := [.int (xs 1), .int (xs 2)]) (hP.sub (ws' := [(q_1, .inr (12, [.ref bk, .ref tp, .ref ps, .ref rl, u1, .ref bd, .ref fr, u2, .ref pn, .ref nl, u3])), (fr, .inr (4, [.ref bk, .ref bd, f1, .int 0])), (bk, .inr (2, [.ref ca, .ref bc, .ref bb, .ref bs, .int 0, .int 0])), (ca, .inl (gI G, 2088, .inl bk0))]) [0, 3, 1, 2] rfl) hB rfl rfl) rfl rfl hl.1 rfl (lv_room (Nat.le_of_ble_eq_true rfl)) dL_law_753 ⟨Nat.le_of_ble_eq_true rfl, Nat.le_of_ble_eq_true rfl⟩)) (fun r_68 hr_68 => ?_)
    subst hr_68
    refine lv_aload_n hx hb dL_law_756 rfl (lv_at hl 1 rfl) ?_
    refine lv_aload_n hx hb dL_law_757 rfl (lv_at hl 3 rfl) ?_
    refine lv_iload_n hx hb dL_law_758 rfl (lv_at hl 0 rfl) ?_
    refine lv_iconst (v := 1) hx hb dL_law_759 (by decide) ?_
    refine lv_iadd hx hb dL_law_760 ?_
    refine gx_ti (y := 1) (by decide) ?_
    refine va_sld hx hb hX hbl hbA hS (i := 1) (gx_in (by decide)) dL_law_761 ?_
    refine gx_ti (y := xs 1) rfl ?_
    refine lv_aload_n hx hb dL_law_762 rfl (lv_at hl 3 rfl) ?_
    refine lv_iload_n hx hb dL_law_763 rfl (lv_at hl 0 rfl) ?_
    refine lv_iconst (v := 2) hx hb dL_law_764 (by decide) ?_
    refine lv_iadd hx hb dL_law_765 ?_
    refine gx_ti (y := 2) (by decide) ?_
    refine va_sld hx hb hX hbl hbA hS (i := 2) (gx_in (by decide)) dL_law_766 ?_
    refine gx_ti (y := xs 2) rfl ?_
    refine vp_callSi (va_Run.run (va_runV (As := [.int (xs 1), .int (xs 2)]) (rest := [.int (-1)]) ⟨hx, hb, hml, hown, hts⟩ (m_mat l G q_3 Q (xs 1) (xs 2)) (cwV 2 hts (gdV (List.mem_of_getElem? (i := 2264) (by decide +kernel)) (List.mem_of_getElem? (i := 2265) (by decide +kernel)) (List.mem_of_getElem? (i := 2266) (by decide +kernel)) (List.mem_of_getElem? (i := 171) (by decide +kernel)) (fun w9 h9 => ⟨(in_m_mat _ h9), gd_m_mat w9 h9⟩)) rfl rfl rfl kVX13_mat ⟨Nat.le_of_ble_eq_true rfl, Nat.le_of_ble_eq_true rfl⟩) (preV_p (As := [.int (xs 1), .int (xs 2)]) (hP.sub (ws' := [(q_3, .inr (14, [.ref (Q 0), .ref (Q 1), .int 0, .int 0, .int 10, .ref (Q 5), .ref (Q 6), .ref (Q 7), .ref (Q 8), .ref (Q 9), .ref (Q 10), .ref (Q 11), .ref (Q 12), .ref (Q 13), .ref (Q 14), .ref (Q 15), .ref (Q 16), .ref (Q 17), .ref (Q 18), .ref (Q 19), .ref (Q 20), .ref (Q 21), .ref (Q 22), .ref (Q 23), .ref (Q 24), .ref (Q 25), .ref (Q 26), .int 0, .int 0, .int 0, .int 0, .int 0, .ref (Q 32), .ref (Q 33), .ref (Q 34), .ref (Q 35), .ref (Q 36), .ref (Q 37), .ref (Q 38), .ref (Q 39), .ref (Q 40), .ref (Q 40), .int 0, .int 0, .int 0, .int 0, .int 0, .int 0, .int 0, .int 0, .int (-1), .int 0, .ref (Q 52), .int 0, .ref (Q 54), .int 0, .ref (Q 56), .ref (Q 57), .ref (Q 58), .ref (Q 59), .ref (Q 60), .ref (Q 61), .ref (Q 62), .ref (Q 63), .ref (Q 64), .ref (Q 65), .ref (Q 66), .ref (Q 67), .ref (Q 68), .int 0, .ref (Q 70), .ref (Q 71)])), (Q 22, .inl (gI G, 4, .inl moOn))]) [4, 5] rfl) hB rfl rfl) rfl rfl hl.1 rfl (lv_room (Nat.le_of_ble_eq_true rfl)) dL_law_767 ⟨Nat.le_of_ble_eq_true rfl, Nat.le_of_ble_eq_true rfl⟩)) (fun r_69 hr_69 => ?_)
    subst hr_69
    refine lv_icmp_eq (tgt := 953) hx hb dL_law_770 (by decide) (fun _ => ?_) (fun c9 => absurd (by decide) c9)
    refine lv_iinc (v := 6) (lv' := [(3, .int 6), (2, .ref q_3), (1, .ref q_1), (0, .ref b)]) hx hb dL_law_953 hl (k := 0) rfl (by decide) (by decide) rfl (fun ls hl => ?_)
    refine lv_goto (tgt := 18) hx hb dL_law_956 (by decide) ?_
    refine lv_iload_n hx hb dL_law_18 rfl (lv_at hl 0 rfl) ?_
    refine lv_aload_n hx hb dL_law_19 rfl (lv_at hl 3 rfl) ?_
    refine va_slen hx hb hX hbl hbA hS dL_law_20 ?_
    refine gx_ti (y := 6) (by decide) ?_
    refine lv_bipush (v := 6) hx hb dL_law_21 (by decide) ?_
    refine lv_isub hx hb dL_law_23 ?_
    refine gx_ti (y := 0) (by decide) ?_
    refine lv_icmp_gt (tgt := 959) hx hb dL_law_24 (by decide) (fun _ => ?_) (fun c9 => absurd (by decide) c9)
    refine lv_iconst (v := 1) hx hb dL_law_959 (by decide) ?_
    refine va_forget (fun q hq => hAl q.base (hS.2.2 q hq)) ?_
    refine W.widen (k := 600002) (n := 7302232) (Nat.le_of_ble_eq_true rfl) (Nat.le_of_ble_eq_true rfl) ?_
    exact lw_ret hx hb hr hlocks dL_law_960
  · refine lv_tableIn (off := 742) (tgt := 775) hx hb dL_law_33 (by rw [c_26]; decide) (by rw [c_26]; decide) (by rw [c_26]; rfl) (by decide) ?_
    have hP := hP.sub (ws' := [(q_1, .inr (12, [.ref bk, .ref tp, .ref ps, .ref rl, u1, .ref bd, .ref fr, u2, .ref pn, .ref nl, u3])), (bk, .inr (2, [.ref ca, .ref bc, .ref bb, .ref bs, .int 0, .int 0])), (ca, .inl (gI G, 2088, .inl bk0)), (bd, .inr (1, [.ref bk, b1, b2, b3, b4, b5])), (q_3, .inr (14, [.ref (Q 0), .ref (Q 1), .int 0, .int 0, .int 10, .ref (Q 5), .ref (Q 6), .ref (Q 7), .ref (Q 8), .ref (Q 9), .ref (Q 10), .ref (Q 11), .ref (Q 12), .ref (Q 13), .ref (Q 14), .ref (Q 15), .ref (Q 16), .ref (Q 17), .ref (Q 18), .ref (Q 19), .ref (Q 20), .ref (Q 21), .ref (Q 22), .ref (Q 23), .ref (Q 24), .ref (Q 25), .ref (Q 26), .int 0, .int 0, .int 0, .int 0, .int 0, .ref (Q 32), .ref (Q 33), .ref (Q 34), .ref (Q 35), .ref (Q 36), .ref (Q 37), .ref (Q 38), .ref (Q 39), .ref (Q 40), .ref (Q 40), .int 0, .int 0, .int 0, .int 0, .int 0, .int 0, .int 0, .int 0, .int (-1), .int 0, .ref (Q 52), .int 0, .ref (Q 54), .int 0, .ref (Q 56), .ref (Q 57), .ref (Q 58), .ref (Q 59), .ref (Q 60), .ref (Q 61), .ref (Q 62), .ref (Q 63), .ref (Q 64), .ref (Q 65), .ref (Q 66), .ref (Q 67), .ref (Q 68), .int 0, .ref (Q 70), .ref (Q 71)])), (Q 12, .inl (gI G, 4, .inl moDr)), (Q 13, .inl (gI G, 4, .inl (fun _ => 0)))]) [0, 1, 2, 15, 27, 45, 46] rfl
    have hD := hD.sub (ws' := [(q_1, .inr (12, [.ref bk, .ref tp, .ref ps, .ref rl, u1, .ref bd, .ref fr, u2, .ref pn, .ref nl, u3])), (bk, .inr (2, [.ref ca, .ref bc, .ref bb, .ref bs, .int 0, .int 0])), (ca, .inl (gI G, 2088, .inl bk0)), (bd, .inr (1, [.ref bk, b1, b2, b3, b4, b5])), (q_3, .inr (14, [.ref (Q 0), .ref (Q 1), .int 0, .int 0, .int 10, .ref (Q 5), .ref (Q 6), .ref (Q 7), .ref (Q 8), .ref (Q 9), .ref (Q 10), .ref (Q 11), .ref (Q 12), .ref (Q 13), .ref (Q 14), .ref (Q 15), .ref (Q 16), .ref (Q 17), .ref (Q 18), .ref (Q 19), .ref (Q 20), .ref (Q 21), .ref (Q 22), .ref (Q 23), .ref (Q 24), .ref (Q 25), .ref (Q 26), .int 0, .int 0, .int 0, .int 0, .int 0, .ref (Q 32), .ref (Q 33), .ref (Q 34), .ref (Q 35), .ref (Q 36), .ref (Q 37), .ref (Q 38), .ref (Q 39), .ref (Q 40), .ref (Q 40), .int 0, .int 0, .int 0, .int 0, .int 0, .int 0, .int 0, .int 0, .int (-1), .int 0, .ref (Q 52), .int 0, .ref (Q 54), .int 0, .ref (Q 56), .ref (Q 57), .ref (Q 58), .ref (Q 59), .ref (Q 60), .ref (Q 61), .ref (Q 62), .ref (Q 63), .ref (Q 64), .ref (Q 65), .ref (Q 66), .ref (Q 67), .ref (Q 68), .int 0, .ref (Q 70), .ref (Q 71)])), (Q 12, .inl (gI G, 4, .inl moDr)), (Q 13, .inl (gI G, 4, .inl (fun _ => 0)))]) [0, 1, 2, 15, 27, 45, 46] (by decide) rfl
    refine lv_aload_n hx hb dL_law_775 rfl (lv_at hl 2 rfl) ?_
    refine lv_aload_n hx hb dL_law_776 rfl (lv_at hl 3 rfl) ?_
    refine lv_iload_n hx hb dL_law_777 rfl (lv_at hl 0 rfl) ?_
    refine lv_iconst (v := 1) hx hb dL_law_778 (by decide) ?_
    refine lv_iadd hx hb dL_law_779 ?_
    refine gx_ti (y := 1) (by decide) ?_
    refine va_sld hx hb hX hbl hbA hS (i := 1) (gx_in (by decide)) dL_law_780 ?_
    refine gx_ti (y := xs 1) rfl ?_
    refine lv_aload_n hx hb dL_law_781 rfl (lv_at hl 3 rfl) ?_
    refine lv_iload_n hx hb dL_law_782 rfl (lv_at hl 0 rfl) ?_
    refine lv_iconst (v := 2) hx hb dL_law_783 (by decide) ?_
    refine lv_iadd hx hb dL_law_784 ?_
    refine gx_ti (y := 2) (by decide) ?_
    refine va_sld hx hb hX hbl hbA hS (i := 2) (gx_in (by decide)) dL_law_785 ?_
    refine gx_ti (y := xs 2) rfl ?_
    refine vp_callSi (va_Run.run (va_runV (As := [.int (xs 1), .int (xs 2)]) (rest := []) ⟨hx, hb, hml, hown, hts⟩ (q_strike l G q_1 bk tp ps rl u1 bd fr u2 pn nl u3 b1 b2 b3 b4 b5 ca bc bb bs (xs 1) (xs 2)) (cwV 2 hts (gdV (List.mem_of_getElem? (i := 1359) (by decide +kernel)) (List.mem_of_getElem? (i := 1360) (by decide +kernel)) (List.mem_of_getElem? (i := 1361) (by decide +kernel)) (List.mem_of_getElem? (i := 154) (by decide +kernel)) (fun w9 h9 => ⟨(in_q_strike _ h9), gd_q_strike w9 h9⟩)) rfl rfl rfl kVX11_strike ⟨Nat.le_of_ble_eq_true rfl, Nat.le_of_ble_eq_true rfl⟩) (preV_p (As := [.int (xs 1), .int (xs 2)]) (hP.sub (ws' := [(q_1, .inr (12, [.ref bk, .ref tp, .ref ps, .ref rl, u1, .ref bd, .ref fr, u2, .ref pn, .ref nl, u3])), (bd, .inr (1, [.ref bk, b1, b2, b3, b4, b5])), (bk, .inr (2, [.ref ca, .ref bc, .ref bb, .ref bs, .int 0, .int 0])), (ca, .inl (gI G, 2088, .inl bk0))]) [0, 3, 1, 2] rfl) hB rfl rfl) rfl rfl hl.1 rfl (lv_room (Nat.le_of_ble_eq_true rfl)) dL_law_786 ⟨Nat.le_of_ble_eq_true rfl, Nat.le_of_ble_eq_true rfl⟩)) (fun r_70 hr_70 => ?_)
    subst hr_70
    refine lv_aload_n hx hb dL_law_789 rfl (lv_at hl 1 rfl) ?_
    refine lv_aload_n hx hb dL_law_790 rfl (lv_at hl 3 rfl) ?_
    refine lv_iload_n hx hb dL_law_791 rfl (lv_at hl 0 rfl) ?_
    refine lv_iconst (v := 1) hx hb dL_law_792 (by decide) ?_
    refine lv_iadd hx hb dL_law_793 ?_
    refine gx_ti (y := 1) (by decide) ?_
    refine va_sld hx hb hX hbl hbA hS (i := 1) (gx_in (by decide)) dL_law_794 ?_
    refine gx_ti (y := xs 1) rfl ?_
    refine lv_aload_n hx hb dL_law_795 rfl (lv_at hl 3 rfl) ?_
    refine lv_iload_n hx hb dL_law_796 rfl (lv_at hl 0 rfl) ?_
    refine lv_iconst (v := 2) hx hb dL_law_797 (by decide) ?_
    refine lv_iadd hx hb dL_law_798 ?_
    refine gx_ti (y := 2) (by decide) ?_
    refine va_sld hx hb hX hbl hbA hS (i := 2) (gx_in (by decide)) dL_law_799 ?_
    refine gx_ti (y := xs 2) rfl ?_
    refine vp_callSi (va_Run.run (va_runV (As := [.int (xs 1), .int (xs 2)]) (rest := [.int (-2)]) ⟨hx, hb, hml, hown, hts⟩ (m_strike l G q_3 Q (xs 1) (xs 2)) (cwV 2 hts (gdV (List.mem_of_getElem? (i := 2272) (by decide +kernel)) (List.mem_of_getElem? (i := 2273) (by decide +kernel)) (List.mem_of_getElem? (i := 2274) (by decide +kernel)) (List.mem_of_getElem? (i := 171) (by decide +kernel)) (fun w9 h9 => ⟨(in_m_strike _ h9), gd_m_strike w9 h9⟩)) rfl rfl rfl kVX13_strike ⟨Nat.le_of_ble_eq_true rfl, Nat.le_of_ble_eq_true rfl⟩) (preV_p (As := [.int (xs 1), .int (xs 2)]) (hP.sub (ws' := [(q_3, .inr (14, [.ref (Q 0), .ref (Q 1), .int 0, .int 0, .int 10, .ref (Q 5), .ref (Q 6), .ref (Q 7), .ref (Q 8), .ref (Q 9), .ref (Q 10), .ref (Q 11), .ref (Q 12), .ref (Q 13), .ref (Q 14), .ref (Q 15), .ref (Q 16), .ref (Q 17), .ref (Q 18), .ref (Q 19), .ref (Q 20), .ref (Q 21), .ref (Q 22), .ref (Q 23), .ref (Q 24), .ref (Q 25), .ref (Q 26), .int 0, .int 0, .int 0, .int 0, .int 0, .ref (Q 32), .ref (Q 33), .ref (Q 34), .ref (Q 35), .ref (Q 36), .ref (Q 37), .ref (Q 38), .ref (Q 39), .ref (Q 40), .ref (Q 40), .int 0, .int 0, .int 0, .int 0, .int 0, .int 0, .int 0, .int 0, .int (-1), .int 0, .ref (Q 52), .int 0, .ref (Q 54), .int 0, .ref (Q 56), .ref (Q 57), .ref (Q 58), .ref (Q 59), .ref (Q 60), .ref (Q 61), .ref (Q 62), .ref (Q 63), .ref (Q 64), .ref (Q 65), .ref (Q 66), .ref (Q 67), .ref (Q 68), .int 0, .ref (Q 70), .ref (Q 71)])), (Q 12, .inl (gI G, 4, .inl moDr)), (Q 13, .inl (gI G, 4, .inl (fun _ => 0)))]) [4, 5, 6] rfl) hB rfl rfl) rfl rfl hl.1 rfl (lv_room (Nat.le_of_ble_eq_true rfl)) dL_law_800 ⟨Nat.le_of_ble_eq_true rfl, Nat.le_of_ble_eq_true rfl⟩)) (fun r_71 hr_71 => ?_)
    subst hr_71
    refine lv_icmp_eq (tgt := 953) hx hb dL_law_803 (by decide) (fun _ => ?_) (fun c9 => absurd (by decide) c9)
    refine lv_iinc (v := 6) (lv' := [(3, .int 6), (2, .ref q_3), (1, .ref q_1), (0, .ref b)]) hx hb dL_law_953 hl (k := 0) rfl (by decide) (by decide) rfl (fun ls hl => ?_)
    refine lv_goto (tgt := 18) hx hb dL_law_956 (by decide) ?_
    refine lv_iload_n hx hb dL_law_18 rfl (lv_at hl 0 rfl) ?_
    refine lv_aload_n hx hb dL_law_19 rfl (lv_at hl 3 rfl) ?_
    refine va_slen hx hb hX hbl hbA hS dL_law_20 ?_
    refine gx_ti (y := 6) (by decide) ?_
    refine lv_bipush (v := 6) hx hb dL_law_21 (by decide) ?_
    refine lv_isub hx hb dL_law_23 ?_
    refine gx_ti (y := 0) (by decide) ?_
    refine lv_icmp_gt (tgt := 959) hx hb dL_law_24 (by decide) (fun _ => ?_) (fun c9 => absurd (by decide) c9)
    refine lv_iconst (v := 1) hx hb dL_law_959 (by decide) ?_
    refine va_forget (fun q hq => hAl q.base (hS.2.2 q hq)) ?_
    refine W.widen (k := 600002) (n := 7302232) (Nat.le_of_ble_eq_true rfl) (Nat.le_of_ble_eq_true rfl) ?_
    exact lw_ret hx hb hr hlocks dL_law_960
  · refine lv_tableIn (off := 775) (tgt := 808) hx hb dL_law_33 (by rw [c_27]; decide) (by rw [c_27]; decide) (by rw [c_27]; rfl) (by decide) ?_
    have hP := hP.sub (ws' := [(q_1, .inr (12, [.ref bk, .ref tp, .ref ps, .ref rl, u1, .ref bd, .ref fr, u2, .ref pn, .ref nl, u3])), (bk, .inr (2, [.ref ca, .ref bc, .ref bb, .ref bs, .int 0, .int 0])), (ca, .inl (gI G, 2088, .inl bk0)), (bd, .inr (1, [.ref bk, b1, b2, b3, b4, b5])), (q_3, .inr (14, [.ref (Q 0), .ref (Q 1), .int 0, .int 0, .int 10, .ref (Q 5), .ref (Q 6), .ref (Q 7), .ref (Q 8), .ref (Q 9), .ref (Q 10), .ref (Q 11), .ref (Q 12), .ref (Q 13), .ref (Q 14), .ref (Q 15), .ref (Q 16), .ref (Q 17), .ref (Q 18), .ref (Q 19), .ref (Q 20), .ref (Q 21), .ref (Q 22), .ref (Q 23), .ref (Q 24), .ref (Q 25), .ref (Q 26), .int 0, .int 0, .int 0, .int 0, .int 0, .ref (Q 32), .ref (Q 33), .ref (Q 34), .ref (Q 35), .ref (Q 36), .ref (Q 37), .ref (Q 38), .ref (Q 39), .ref (Q 40), .ref (Q 40), .int 0, .int 0, .int 0, .int 0, .int 0, .int 0, .int 0, .int 0, .int (-1), .int 0, .ref (Q 52), .int 0, .ref (Q 54), .int 0, .ref (Q 56), .ref (Q 57), .ref (Q 58), .ref (Q 59), .ref (Q 60), .ref (Q 61), .ref (Q 62), .ref (Q 63), .ref (Q 64), .ref (Q 65), .ref (Q 66), .ref (Q 67), .ref (Q 68), .int 0, .ref (Q 70), .ref (Q 71)])), (Q 12, .inl (gI G, 4, .inl moDr)), (Q 13, .inl (gI G, 4, .inl (fun _ => 0)))]) [0, 1, 2, 15, 27, 45, 46] rfl
    have hD := hD.sub (ws' := [(q_1, .inr (12, [.ref bk, .ref tp, .ref ps, .ref rl, u1, .ref bd, .ref fr, u2, .ref pn, .ref nl, u3])), (bk, .inr (2, [.ref ca, .ref bc, .ref bb, .ref bs, .int 0, .int 0])), (ca, .inl (gI G, 2088, .inl bk0)), (bd, .inr (1, [.ref bk, b1, b2, b3, b4, b5])), (q_3, .inr (14, [.ref (Q 0), .ref (Q 1), .int 0, .int 0, .int 10, .ref (Q 5), .ref (Q 6), .ref (Q 7), .ref (Q 8), .ref (Q 9), .ref (Q 10), .ref (Q 11), .ref (Q 12), .ref (Q 13), .ref (Q 14), .ref (Q 15), .ref (Q 16), .ref (Q 17), .ref (Q 18), .ref (Q 19), .ref (Q 20), .ref (Q 21), .ref (Q 22), .ref (Q 23), .ref (Q 24), .ref (Q 25), .ref (Q 26), .int 0, .int 0, .int 0, .int 0, .int 0, .ref (Q 32), .ref (Q 33), .ref (Q 34), .ref (Q 35), .ref (Q 36), .ref (Q 37), .ref (Q 38), .ref (Q 39), .ref (Q 40), .ref (Q 40), .int 0, .int 0, .int 0, .int 0, .int 0, .int 0, .int 0, .int 0, .int (-1), .int 0, .ref (Q 52), .int 0, .ref (Q 54), .int 0, .ref (Q 56), .ref (Q 57), .ref (Q 58), .ref (Q 59), .ref (Q 60), .ref (Q 61), .ref (Q 62), .ref (Q 63), .ref (Q 64), .ref (Q 65), .ref (Q 66), .ref (Q 67), .ref (Q 68), .int 0, .ref (Q 70), .ref (Q 71)])), (Q 12, .inl (gI G, 4, .inl moDr)), (Q 13, .inl (gI G, 4, .inl (fun _ => 0)))]) [0, 1, 2, 15, 27, 45, 46] (by decide) rfl
    refine lv_aload_n hx hb dL_law_808 rfl (lv_at hl 2 rfl) ?_
    refine lv_aload_n hx hb dL_law_809 rfl (lv_at hl 3 rfl) ?_
    refine lv_iload_n hx hb dL_law_810 rfl (lv_at hl 0 rfl) ?_
    refine lv_iconst (v := 1) hx hb dL_law_811 (by decide) ?_
    refine lv_iadd hx hb dL_law_812 ?_
    refine gx_ti (y := 1) (by decide) ?_
    refine va_sld hx hb hX hbl hbA hS (i := 1) (gx_in (by decide)) dL_law_813 ?_
    refine gx_ti (y := xs 1) rfl ?_
    refine lv_aload_n hx hb dL_law_814 rfl (lv_at hl 3 rfl) ?_
    refine lv_iload_n hx hb dL_law_815 rfl (lv_at hl 0 rfl) ?_
    refine lv_iconst (v := 2) hx hb dL_law_816 (by decide) ?_
    refine lv_iadd hx hb dL_law_817 ?_
    refine gx_ti (y := 2) (by decide) ?_
    refine va_sld hx hb hX hbl hbA hS (i := 2) (gx_in (by decide)) dL_law_818 ?_
    refine gx_ti (y := xs 2) rfl ?_
    refine vp_callSi (va_Run.run (va_runV (As := [.int (xs 1), .int (xs 2)]) (rest := []) ⟨hx, hb, hml, hown, hts⟩ (q_medal l G q_1 bk tp ps rl u1 bd fr u2 pn nl u3 b1 b2 b3 b4 b5 ca bc bb bs (xs 1) (xs 2)) (cwV 2 hts (gdV (List.mem_of_getElem? (i := 1376) (by decide +kernel)) (List.mem_of_getElem? (i := 1377) (by decide +kernel)) (List.mem_of_getElem? (i := 1378) (by decide +kernel)) (List.mem_of_getElem? (i := 154) (by decide +kernel)) (fun w9 h9 => ⟨(in_q_medal _ h9), gd_q_medal w9 h9⟩)) rfl rfl rfl kVX11_medal ⟨Nat.le_of_ble_eq_true rfl, Nat.le_of_ble_eq_true rfl⟩) (preV_p (As := [.int (xs 1), .int (xs 2)]) (hP.sub (ws' := [(q_1, .inr (12, [.ref bk, .ref tp, .ref ps, .ref rl, u1, .ref bd, .ref fr, u2, .ref pn, .ref nl, u3])), (bd, .inr (1, [.ref bk, b1, b2, b3, b4, b5])), (bk, .inr (2, [.ref ca, .ref bc, .ref bb, .ref bs, .int 0, .int 0])), (ca, .inl (gI G, 2088, .inl bk0))]) [0, 3, 1, 2] rfl) hB rfl rfl) rfl rfl hl.1 rfl (lv_room (Nat.le_of_ble_eq_true rfl)) dL_law_819 ⟨Nat.le_of_ble_eq_true rfl, Nat.le_of_ble_eq_true rfl⟩)) (fun r_72 hr_72 => ?_)
    subst hr_72
    refine lv_aload_n hx hb dL_law_822 rfl (lv_at hl 1 rfl) ?_
    refine lv_aload_n hx hb dL_law_823 rfl (lv_at hl 3 rfl) ?_
    refine lv_iload_n hx hb dL_law_824 rfl (lv_at hl 0 rfl) ?_
    refine lv_iconst (v := 1) hx hb dL_law_825 (by decide) ?_
    refine lv_iadd hx hb dL_law_826 ?_
    refine gx_ti (y := 1) (by decide) ?_
    refine va_sld hx hb hX hbl hbA hS (i := 1) (gx_in (by decide)) dL_law_827 ?_
    refine gx_ti (y := xs 1) rfl ?_
    refine lv_aload_n hx hb dL_law_828 rfl (lv_at hl 3 rfl) ?_
    refine lv_iload_n hx hb dL_law_829 rfl (lv_at hl 0 rfl) ?_
    refine lv_iconst (v := 2) hx hb dL_law_830 (by decide) ?_
    refine lv_iadd hx hb dL_law_831 ?_
    refine gx_ti (y := 2) (by decide) ?_
    refine va_sld hx hb hX hbl hbA hS (i := 2) (gx_in (by decide)) dL_law_832 ?_
    refine gx_ti (y := xs 2) rfl ?_
    refine vp_callSi (va_Run.run (va_runV (As := [.int (xs 1), .int (xs 2)]) (rest := [.int (-1)]) ⟨hx, hb, hml, hown, hts⟩ (m_medal l G q_3 Q (xs 1) (xs 2)) (cwV 2 hts (gdV (List.mem_of_getElem? (i := 2276) (by decide +kernel)) (List.mem_of_getElem? (i := 2277) (by decide +kernel)) (List.mem_of_getElem? (i := 2278) (by decide +kernel)) (List.mem_of_getElem? (i := 171) (by decide +kernel)) (fun w9 h9 => ⟨(in_m_medal _ h9), gd_m_medal w9 h9⟩)) rfl rfl rfl kVX13_medal ⟨Nat.le_of_ble_eq_true rfl, Nat.le_of_ble_eq_true rfl⟩) (preV_p (As := [.int (xs 1), .int (xs 2)]) (hP.sub (ws' := [(q_3, .inr (14, [.ref (Q 0), .ref (Q 1), .int 0, .int 0, .int 10, .ref (Q 5), .ref (Q 6), .ref (Q 7), .ref (Q 8), .ref (Q 9), .ref (Q 10), .ref (Q 11), .ref (Q 12), .ref (Q 13), .ref (Q 14), .ref (Q 15), .ref (Q 16), .ref (Q 17), .ref (Q 18), .ref (Q 19), .ref (Q 20), .ref (Q 21), .ref (Q 22), .ref (Q 23), .ref (Q 24), .ref (Q 25), .ref (Q 26), .int 0, .int 0, .int 0, .int 0, .int 0, .ref (Q 32), .ref (Q 33), .ref (Q 34), .ref (Q 35), .ref (Q 36), .ref (Q 37), .ref (Q 38), .ref (Q 39), .ref (Q 40), .ref (Q 40), .int 0, .int 0, .int 0, .int 0, .int 0, .int 0, .int 0, .int 0, .int (-1), .int 0, .ref (Q 52), .int 0, .ref (Q 54), .int 0, .ref (Q 56), .ref (Q 57), .ref (Q 58), .ref (Q 59), .ref (Q 60), .ref (Q 61), .ref (Q 62), .ref (Q 63), .ref (Q 64), .ref (Q 65), .ref (Q 66), .ref (Q 67), .ref (Q 68), .int 0, .ref (Q 70), .ref (Q 71)])), (Q 12, .inl (gI G, 4, .inl moDr)), (Q 13, .inl (gI G, 4, .inl (fun _ => 0)))]) [4, 5, 6] rfl) hB rfl rfl) rfl rfl hl.1 rfl (lv_room (Nat.le_of_ble_eq_true rfl)) dL_law_833 ⟨Nat.le_of_ble_eq_true rfl, Nat.le_of_ble_eq_true rfl⟩)) (fun r_73 hr_73 => ?_)
    subst hr_73
    refine lv_icmp_eq (tgt := 953) hx hb dL_law_836 (by decide) (fun _ => ?_) (fun c9 => absurd (by decide) c9)
    refine lv_iinc (v := 6) (lv' := [(3, .int 6), (2, .ref q_3), (1, .ref q_1), (0, .ref b)]) hx hb dL_law_953 hl (k := 0) rfl (by decide) (by decide) rfl (fun ls hl => ?_)
    refine lv_goto (tgt := 18) hx hb dL_law_956 (by decide) ?_
    refine lv_iload_n hx hb dL_law_18 rfl (lv_at hl 0 rfl) ?_
    refine lv_aload_n hx hb dL_law_19 rfl (lv_at hl 3 rfl) ?_
    refine va_slen hx hb hX hbl hbA hS dL_law_20 ?_
    refine gx_ti (y := 6) (by decide) ?_
    refine lv_bipush (v := 6) hx hb dL_law_21 (by decide) ?_
    refine lv_isub hx hb dL_law_23 ?_
    refine gx_ti (y := 0) (by decide) ?_
    refine lv_icmp_gt (tgt := 959) hx hb dL_law_24 (by decide) (fun _ => ?_) (fun c9 => absurd (by decide) c9)
    refine lv_iconst (v := 1) hx hb dL_law_959 (by decide) ?_
    refine va_forget (fun q hq => hAl q.base (hS.2.2 q hq)) ?_
    refine W.widen (k := 600002) (n := 7302232) (Nat.le_of_ble_eq_true rfl) (Nat.le_of_ble_eq_true rfl) ?_
    exact lw_ret hx hb hr hlocks dL_law_960
  · refine lv_tableIn (off := 808) (tgt := 841) hx hb dL_law_33 (by rw [c_28]; decide) (by rw [c_28]; decide) (by rw [c_28]; rfl) (by decide) ?_
    have hP := hP.sub (ws' := [(q_1, .inr (12, [.ref bk, .ref tp, .ref ps, .ref rl, u1, .ref bd, .ref fr, u2, .ref pn, .ref nl, u3])), (bk, .inr (2, [.ref ca, .ref bc, .ref bb, .ref bs, .int 0, .int 0])), (ca, .inl (gI G, 2088, .inl bk0)), (bd, .inr (1, [.ref bk, b1, b2, b3, b4, b5])), (pn, .inr (7, [.ref bk, .ref bd, n1, .ref pe, .ref pm, n2, n3, .ref pt, .ref pb, .ref px, .ref pg, .int 0, .int 0, .int 0])), (pe, .inr (10, [.ref pe2])), (pe2, .inl (gI G, 148, .inl (fl 148 (-1) (fun _ => 0)))), (pm, .inr (10, [.ref pm2])), (pm2, .inl (gI G, 4, .inl (fl 4 0 (fun _ => 0)))), (px, .inr (10, [.ref px2])), (px2, .inl (gI G, 148, .inl (fl 148 (-1) (fun _ => 0)))), (pg, .inr (10, [.ref pg2])), (pg2, .inl (gI G, 148, .inl (fl 148 (-1) (fun _ => 0)))), (q_3, .inr (14, [.ref (Q 0), .ref (Q 1), .int 0, .int 0, .int 10, .ref (Q 5), .ref (Q 6), .ref (Q 7), .ref (Q 8), .ref (Q 9), .ref (Q 10), .ref (Q 11), .ref (Q 12), .ref (Q 13), .ref (Q 14), .ref (Q 15), .ref (Q 16), .ref (Q 17), .ref (Q 18), .ref (Q 19), .ref (Q 20), .ref (Q 21), .ref (Q 22), .ref (Q 23), .ref (Q 24), .ref (Q 25), .ref (Q 26), .int 0, .int 0, .int 0, .int 0, .int 0, .ref (Q 32), .ref (Q 33), .ref (Q 34), .ref (Q 35), .ref (Q 36), .ref (Q 37), .ref (Q 38), .ref (Q 39), .ref (Q 40), .ref (Q 40), .int 0, .int 0, .int 0, .int 0, .int 0, .int 0, .int 0, .int 0, .int (-1), .int 0, .ref (Q 52), .int 0, .ref (Q 54), .int 0, .ref (Q 56), .ref (Q 57), .ref (Q 58), .ref (Q 59), .ref (Q 60), .ref (Q 61), .ref (Q 62), .ref (Q 63), .ref (Q 64), .ref (Q 65), .ref (Q 66), .ref (Q 67), .ref (Q 68), .int 0, .ref (Q 70), .ref (Q 71)])), (Q 61, .inl (gI G, 160, .inl (fun _ => 0))), (Q 62, .inl (gI G, 160, .inl (fun _ => 0))), (Q 63, .inl (gI G, 160, .inl (fun _ => 0))), (Q 64, .inl (gI G, 160, .inl (fun _ => 0))), (Q 65, .inl (gI G, 160, .inl (fun _ => 0))), (Q 71, .inl (gI G, 4, .inl (fun _ => 0))), (Q 12, .inl (gI G, 4, .inl moDr)), (Q 13, .inl (gI G, 4, .inl (fun _ => 0))), (Q 22, .inl (gI G, 4, .inl moOn))]) [0, 1, 2, 15, 17, 18, 19, 20, 21, 22, 23, 24, 25, 27, 39, 40, 41, 42, 43, 44, 45, 46, 47] rfl
    have hD := hD.sub (ws' := [(q_1, .inr (12, [.ref bk, .ref tp, .ref ps, .ref rl, u1, .ref bd, .ref fr, u2, .ref pn, .ref nl, u3])), (bk, .inr (2, [.ref ca, .ref bc, .ref bb, .ref bs, .int 0, .int 0])), (ca, .inl (gI G, 2088, .inl bk0)), (bd, .inr (1, [.ref bk, b1, b2, b3, b4, b5])), (pn, .inr (7, [.ref bk, .ref bd, n1, .ref pe, .ref pm, n2, n3, .ref pt, .ref pb, .ref px, .ref pg, .int 0, .int 0, .int 0])), (pe, .inr (10, [.ref pe2])), (pe2, .inl (gI G, 148, .inl (fl 148 (-1) (fun _ => 0)))), (pm, .inr (10, [.ref pm2])), (pm2, .inl (gI G, 4, .inl (fl 4 0 (fun _ => 0)))), (px, .inr (10, [.ref px2])), (px2, .inl (gI G, 148, .inl (fl 148 (-1) (fun _ => 0)))), (pg, .inr (10, [.ref pg2])), (pg2, .inl (gI G, 148, .inl (fl 148 (-1) (fun _ => 0)))), (q_3, .inr (14, [.ref (Q 0), .ref (Q 1), .int 0, .int 0, .int 10, .ref (Q 5), .ref (Q 6), .ref (Q 7), .ref (Q 8), .ref (Q 9), .ref (Q 10), .ref (Q 11), .ref (Q 12), .ref (Q 13), .ref (Q 14), .ref (Q 15), .ref (Q 16), .ref (Q 17), .ref (Q 18), .ref (Q 19), .ref (Q 20), .ref (Q 21), .ref (Q 22), .ref (Q 23), .ref (Q 24), .ref (Q 25), .ref (Q 26), .int 0, .int 0, .int 0, .int 0, .int 0, .ref (Q 32), .ref (Q 33), .ref (Q 34), .ref (Q 35), .ref (Q 36), .ref (Q 37), .ref (Q 38), .ref (Q 39), .ref (Q 40), .ref (Q 40), .int 0, .int 0, .int 0, .int 0, .int 0, .int 0, .int 0, .int 0, .int (-1), .int 0, .ref (Q 52), .int 0, .ref (Q 54), .int 0, .ref (Q 56), .ref (Q 57), .ref (Q 58), .ref (Q 59), .ref (Q 60), .ref (Q 61), .ref (Q 62), .ref (Q 63), .ref (Q 64), .ref (Q 65), .ref (Q 66), .ref (Q 67), .ref (Q 68), .int 0, .ref (Q 70), .ref (Q 71)])), (Q 61, .inl (gI G, 160, .inl (fun _ => 0))), (Q 62, .inl (gI G, 160, .inl (fun _ => 0))), (Q 63, .inl (gI G, 160, .inl (fun _ => 0))), (Q 64, .inl (gI G, 160, .inl (fun _ => 0))), (Q 65, .inl (gI G, 160, .inl (fun _ => 0))), (Q 71, .inl (gI G, 4, .inl (fun _ => 0))), (Q 12, .inl (gI G, 4, .inl moDr)), (Q 13, .inl (gI G, 4, .inl (fun _ => 0))), (Q 22, .inl (gI G, 4, .inl moOn))]) [0, 1, 2, 15, 17, 18, 19, 20, 21, 22, 23, 24, 25, 27, 39, 40, 41, 42, 43, 44, 45, 46, 47] (by decide) rfl
    refine lv_aload_n hx hb dL_law_841 rfl (lv_at hl 2 rfl) ?_
    refine lv_aload_n hx hb dL_law_842 rfl (lv_at hl 3 rfl) ?_
    refine lv_iload_n hx hb dL_law_843 rfl (lv_at hl 0 rfl) ?_
    refine lv_iconst (v := 1) hx hb dL_law_844 (by decide) ?_
    refine lv_iadd hx hb dL_law_845 ?_
    refine gx_ti (y := 1) (by decide) ?_
    refine va_sld hx hb hX hbl hbA hS (i := 1) (gx_in (by decide)) dL_law_846 ?_
    refine gx_ti (y := xs 1) rfl ?_
    refine lv_aload_n hx hb dL_law_847 rfl (lv_at hl 3 rfl) ?_
    refine lv_iload_n hx hb dL_law_848 rfl (lv_at hl 0 rfl) ?_
    refine lv_iconst (v := 2) hx hb dL_law_849 (by decide) ?_
    refine lv_iadd hx hb dL_law_850 ?_
    refine gx_ti (y := 2) (by decide) ?_
    refine va_sld hx hb hX hbl hbA hS (i := 2) (gx_in (by decide)) dL_law_851 ?_
    refine gx_ti (y := xs 2) rfl ?_
    have hPc := hP.sub (ws' := [(q_1, .inr (12, [.ref bk, .ref tp, .ref ps, .ref rl, u1, .ref bd, .ref fr, u2, .ref pn, .ref nl, u3])), (pn, .inr (7, [.ref bk, .ref bd, n1, .ref pe, .ref pm, n2, n3, .ref pt, .ref pb, .ref px, .ref pg, .int 0, .int 0, .int 0])), (bd, .inr (1, [.ref bk, b1, b2, b3, b4, b5])), (bk, .inr (2, [.ref ca, .ref bc, .ref bb, .ref bs, .int 0, .int 0])), (ca, .inl (gI G, 2088, .inl bk0)), (pe, .inr (10, [.ref pe2])), (pe2, .inl (gI G, 148, .inl (fl 148 (-1) (fun _ => 0)))), (pm, .inr (10, [.ref pm2])), (pm2, .inl (gI G, 4, .inl (fl 4 0 (fun _ => 0)))), (px, .inr (10, [.ref px2])), (px2, .inl (gI G, 148, .inl (fl 148 (-1) (fun _ => 0)))), (pg, .inr (10, [.ref pg2])), (pg2, .inl (gI G, 148, .inl (fl 148 (-1) (fun _ => 0))))]) [0, 4, 3, 1, 2, 5, 6, 7, 8, 9, 10, 11, 12] rfl
    have hDc := hD.sub (ws' := [(q_1, .inr (12, [.ref bk, .ref tp, .ref ps, .ref rl, u1, .ref bd, .ref fr, u2, .ref pn, .ref nl, u3])), (pn, .inr (7, [.ref bk, .ref bd, n1, .ref pe, .ref pm, n2, n3, .ref pt, .ref pb, .ref px, .ref pg, .int 0, .int 0, .int 0])), (bd, .inr (1, [.ref bk, b1, b2, b3, b4, b5])), (bk, .inr (2, [.ref ca, .ref bc, .ref bb, .ref bs, .int 0, .int 0])), (ca, .inl (gI G, 2088, .inl bk0)), (pe, .inr (10, [.ref pe2])), (pe2, .inl (gI G, 148, .inl (fl 148 (-1) (fun _ => 0)))), (pm, .inr (10, [.ref pm2])), (pm2, .inl (gI G, 4, .inl (fl 4 0 (fun _ => 0)))), (px, .inr (10, [.ref px2])), (px2, .inl (gI G, 148, .inl (fl 148 (-1) (fun _ => 0)))), (pg, .inr (10, [.ref pg2])), (pg2, .inl (gI G, 148, .inl (fl 148 (-1) (fun _ => 0))))]) [0, 4, 3, 1, 2, 5, 6, 7, 8, 9, 10, 11, 12] (by decide) rfl
    have hFc := va_free (wc := [(q_1, .inr (12, [.ref bk, .ref tp, .ref ps, .ref rl, u1, .ref bd, .ref fr, u2, .ref pn, .ref nl, u3])), (pn, .inr (7, [.ref bk, .ref bd, n1, .ref pe, .ref pm, n2, n3, .ref pt, .ref pb, .ref px, .ref pg, .int 0, .int 0, .int 0])), (bd, .inr (1, [.ref bk, b1, b2, b3, b4, b5])), (bk, .inr (2, [.ref ca, .ref bc, .ref bb, .ref bs, .int 0, .int 0])), (ca, .inl (gI G, 2088, .inl bk0)), (pe, .inr (10, [.ref pe2])), (pe2, .inl (gI G, 148, .inl (fl 148 (-1) (fun _ => 0)))), (pm, .inr (10, [.ref pm2])), (pm2, .inl (gI G, 4, .inl (fl 4 0 (fun _ => 0)))), (px, .inr (10, [.ref px2])), (px2, .inl (gI G, 148, .inl (fl 148 (-1) (fun _ => 0)))), (pg, .inr (10, [.ref pg2])), (pg2, .inl (gI G, 148, .inl (fl 148 (-1) (fun _ => 0))))]) hD hS hA [0, 4, 3, 1, 2, 5, 6, 7, 8, 9, 10, 11, 12] rfl
    refine va_calli (va_runV (As := [.int (xs 1), .int (xs 2)]) (rest := []) ⟨hx, hb, hml, hown, hts⟩ (q_plan l G q_1 bk tp ps rl u1 bd fr u2 pn nl u3 n1 pe pm n2 n3 pt pb px pg b1 b2 b3 b4 b5 ca bc bb bs pe2 pm2 px2 pg2 (xs 1) (xs 2) H.size) (cwV 2 hts (gdV (List.mem_of_getElem? (i := 1431) (by decide +kernel)) (List.mem_of_getElem? (i := 1432) (by decide +kernel)) (List.mem_of_getElem? (i := 1433) (by decide +kernel)) (List.mem_of_getElem? (i := 154) (by decide +kernel)) (fun w9 h9 => ⟨(in_q_plan _ h9), gd_q_plan w9 h9⟩)) rfl rfl rfl kVX11_plan ⟨Nat.le_of_ble_eq_true rfl, Nat.le_of_ble_eq_true rfl⟩) (preV_m (As := [.int (xs 1), .int (xs 2)]) hPc hB hDc rfl rfl) rfl rfl hl.1 rfl (lv_room (Nat.le_of_ble_eq_true rfl)) dL_law_852 ⟨Nat.le_of_ble_eq_true rfl, Nat.le_of_ble_eq_true rfl⟩) hS (fun q _ h => hFc q h) hFc (fun r_74 u t H1 locs ht hvm hw hB1 hz1 hk1 hS => ?_)
    obtain ⟨hP1, hD1⟩ := hB1
    rw [ht] at hP1
    obtain ⟨hP, hD⟩ := va_join (wr := [(q_3, .inr (14, [.ref (Q 0), .ref (Q 1), .int 0, .int 0, .int 10, .ref (Q 5), .ref (Q 6), .ref (Q 7), .ref (Q 8), .ref (Q 9), .ref (Q 10), .ref (Q 11), .ref (Q 12), .ref (Q 13), .ref (Q 14), .ref (Q 15), .ref (Q 16), .ref (Q 17), .ref (Q 18), .ref (Q 19), .ref (Q 20), .ref (Q 21), .ref (Q 22), .ref (Q 23), .ref (Q 24), .ref (Q 25), .ref (Q 26), .int 0, .int 0, .int 0, .int 0, .int 0, .ref (Q 32), .ref (Q 33), .ref (Q 34), .ref (Q 35), .ref (Q 36), .ref (Q 37), .ref (Q 38), .ref (Q 39), .ref (Q 40), .ref (Q 40), .int 0, .int 0, .int 0, .int 0, .int 0, .int 0, .int 0, .int 0, .int (-1), .int 0, .ref (Q 52), .int 0, .ref (Q 54), .int 0, .ref (Q 56), .ref (Q 57), .ref (Q 58), .ref (Q 59), .ref (Q 60), .ref (Q 61), .ref (Q 62), .ref (Q 63), .ref (Q 64), .ref (Q 65), .ref (Q 66), .ref (Q 67), .ref (Q 68), .int 0, .ref (Q 70), .ref (Q 71)])), (Q 61, .inl (gI G, 160, .inl (fun _ => 0))), (Q 62, .inl (gI G, 160, .inl (fun _ => 0))), (Q 63, .inl (gI G, 160, .inl (fun _ => 0))), (Q 64, .inl (gI G, 160, .inl (fun _ => 0))), (Q 65, .inl (gI G, 160, .inl (fun _ => 0))), (Q 71, .inl (gI G, 4, .inl (fun _ => 0))), (Q 12, .inl (gI G, 4, .inl moDr)), (Q 13, .inl (gI G, 4, .inl (fun _ => 0))), (Q 22, .inl (gI G, 4, .inl moOn))]) (w1 := []) hP hD [0, 4, 3, 1, 2, 5, 6, 7, 8, 9, 10, 11, 12] [13, 14, 15, 16, 17, 18, 19, 20, 21, 22] rfl rfl (by decide) (by decide) hk1 hFc hP1 hD1
    generalize H1 = H at hP hS ⊢
    have hP : va_P (gD G) vwCl [(q_3, .inr (14, [.ref (Q 0), .ref (Q 1), .int 0, .int 0, .int 10, .ref (Q 5), .ref (Q 6), .ref (Q 7), .ref (Q 8), .ref (Q 9), .ref (Q 10), .ref (Q 11), .ref (Q 12), .ref (Q 13), .ref (Q 14), .ref (Q 15), .ref (Q 16), .ref (Q 17), .ref (Q 18), .ref (Q 19), .ref (Q 20), .ref (Q 21), .ref (Q 22), .ref (Q 23), .ref (Q 24), .ref (Q 25), .ref (Q 26), .int 0, .int 0, .int 0, .int 0, .int 0, .ref (Q 32), .ref (Q 33), .ref (Q 34), .ref (Q 35), .ref (Q 36), .ref (Q 37), .ref (Q 38), .ref (Q 39), .ref (Q 40), .ref (Q 40), .int 0, .int 0, .int 0, .int 0, .int 0, .int 0, .int 0, .int 0, .int (-1), .int 0, .ref (Q 52), .int 0, .ref (Q 54), .int 0, .ref (Q 56), .ref (Q 57), .ref (Q 58), .ref (Q 59), .ref (Q 60), .ref (Q 61), .ref (Q 62), .ref (Q 63), .ref (Q 64), .ref (Q 65), .ref (Q 66), .ref (Q 67), .ref (Q 68), .int 0, .ref (Q 70), .ref (Q 71)])), (Q 61, .inl (gI G, 160, .inl (fun _ => 0))), (Q 62, .inl (gI G, 160, .inl (fun _ => 0))), (Q 63, .inl (gI G, 160, .inl (fun _ => 0))), (Q 64, .inl (gI G, 160, .inl (fun _ => 0))), (Q 65, .inl (gI G, 160, .inl (fun _ => 0))), (Q 71, .inl (gI G, 4, .inl (fun _ => 0))), (Q 12, .inl (gI G, 4, .inl moDr)), (Q 13, .inl (gI G, 4, .inl (fun _ => 0))), (Q 22, .inl (gI G, 4, .inl moOn))] H := hP
    have hD : va_D A [(q_3, .inr (14, [.ref (Q 0), .ref (Q 1), .int 0, .int 0, .int 10, .ref (Q 5), .ref (Q 6), .ref (Q 7), .ref (Q 8), .ref (Q 9), .ref (Q 10), .ref (Q 11), .ref (Q 12), .ref (Q 13), .ref (Q 14), .ref (Q 15), .ref (Q 16), .ref (Q 17), .ref (Q 18), .ref (Q 19), .ref (Q 20), .ref (Q 21), .ref (Q 22), .ref (Q 23), .ref (Q 24), .ref (Q 25), .ref (Q 26), .int 0, .int 0, .int 0, .int 0, .int 0, .ref (Q 32), .ref (Q 33), .ref (Q 34), .ref (Q 35), .ref (Q 36), .ref (Q 37), .ref (Q 38), .ref (Q 39), .ref (Q 40), .ref (Q 40), .int 0, .int 0, .int 0, .int 0, .int 0, .int 0, .int 0, .int 0, .int (-1), .int 0, .ref (Q 52), .int 0, .ref (Q 54), .int 0, .ref (Q 56), .ref (Q 57), .ref (Q 58), .ref (Q 59), .ref (Q 60), .ref (Q 61), .ref (Q 62), .ref (Q 63), .ref (Q 64), .ref (Q 65), .ref (Q 66), .ref (Q 67), .ref (Q 68), .int 0, .ref (Q 70), .ref (Q 71)])), (Q 61, .inl (gI G, 160, .inl (fun _ => 0))), (Q 62, .inl (gI G, 160, .inl (fun _ => 0))), (Q 63, .inl (gI G, 160, .inl (fun _ => 0))), (Q 64, .inl (gI G, 160, .inl (fun _ => 0))), (Q 65, .inl (gI G, 160, .inl (fun _ => 0))), (Q 71, .inl (gI G, 4, .inl (fun _ => 0))), (Q 12, .inl (gI G, 4, .inl moDr)), (Q 13, .inl (gI G, 4, .inl (fun _ => 0))), (Q 22, .inl (gI G, 4, .inl moOn))] := hD
    have hw : r_74 = (if (xs 1) < 1 ∨ 4 < (xs 1) ∨ (xs 2) < 1 ∨ 60 < (xs 2) then (-2) else 0) := hw
    refine gx_ti hw ?_
    refine W.eq (g2 := F0 m 855 ls [.int (if (xs 1) < 1 ∨ 4 < (xs 1) ∨ (xs 2) < 1 ∨ 60 < (xs 2) then (-2) else 0)]) rfl ?_
    refine lv_aload_n hx hb dL_law_855 rfl (lv_at hl 1 rfl) ?_
    refine lv_aload_n hx hb dL_law_856 rfl (lv_at hl 3 rfl) ?_
    refine lv_iload_n hx hb dL_law_857 rfl (lv_at hl 0 rfl) ?_
    refine lv_iconst (v := 1) hx hb dL_law_858 (by decide) ?_
    refine lv_iadd hx hb dL_law_859 ?_
    refine gx_ti (y := 1) (by decide) ?_
    refine va_sld hx hb hX hbl hbA hS (i := 1) (gx_in (by decide)) dL_law_860 ?_
    refine gx_ti (y := xs 1) rfl ?_
    refine lv_aload_n hx hb dL_law_861 rfl (lv_at hl 3 rfl) ?_
    refine lv_iload_n hx hb dL_law_862 rfl (lv_at hl 0 rfl) ?_
    refine lv_iconst (v := 2) hx hb dL_law_863 (by decide) ?_
    refine lv_iadd hx hb dL_law_864 ?_
    refine gx_ti (y := 2) (by decide) ?_
    refine va_sld hx hb hX hbl hbA hS (i := 2) (gx_in (by decide)) dL_law_865 ?_
    refine gx_ti (y := xs 2) rfl ?_
    have hPc := hP.sub (ws' := [(q_3, .inr (14, [.ref (Q 0), .ref (Q 1), .int 0, .int 0, .int 10, .ref (Q 5), .ref (Q 6), .ref (Q 7), .ref (Q 8), .ref (Q 9), .ref (Q 10), .ref (Q 11), .ref (Q 12), .ref (Q 13), .ref (Q 14), .ref (Q 15), .ref (Q 16), .ref (Q 17), .ref (Q 18), .ref (Q 19), .ref (Q 20), .ref (Q 21), .ref (Q 22), .ref (Q 23), .ref (Q 24), .ref (Q 25), .ref (Q 26), .int 0, .int 0, .int 0, .int 0, .int 0, .ref (Q 32), .ref (Q 33), .ref (Q 34), .ref (Q 35), .ref (Q 36), .ref (Q 37), .ref (Q 38), .ref (Q 39), .ref (Q 40), .ref (Q 40), .int 0, .int 0, .int 0, .int 0, .int 0, .int 0, .int 0, .int 0, .int (-1), .int 0, .ref (Q 52), .int 0, .ref (Q 54), .int 0, .ref (Q 56), .ref (Q 57), .ref (Q 58), .ref (Q 59), .ref (Q 60), .ref (Q 61), .ref (Q 62), .ref (Q 63), .ref (Q 64), .ref (Q 65), .ref (Q 66), .ref (Q 67), .ref (Q 68), .int 0, .ref (Q 70), .ref (Q 71)])), (Q 12, .inl (gI G, 4, .inl moDr)), (Q 13, .inl (gI G, 4, .inl (fun _ => 0))), (Q 22, .inl (gI G, 4, .inl moOn)), (Q 71, .inl (gI G, 4, .inl (fun _ => 0))), (Q 65, .inl (gI G, 160, .inl (fun _ => 0))), (Q 63, .inl (gI G, 160, .inl (fun _ => 0))), (Q 64, .inl (gI G, 160, .inl (fun _ => 0))), (Q 61, .inl (gI G, 160, .inl (fun _ => 0))), (Q 62, .inl (gI G, 160, .inl (fun _ => 0)))]) [0, 7, 8, 9, 6, 5, 3, 4, 1, 2] rfl
    have hDc := hD.sub (ws' := [(q_3, .inr (14, [.ref (Q 0), .ref (Q 1), .int 0, .int 0, .int 10, .ref (Q 5), .ref (Q 6), .ref (Q 7), .ref (Q 8), .ref (Q 9), .ref (Q 10), .ref (Q 11), .ref (Q 12), .ref (Q 13), .ref (Q 14), .ref (Q 15), .ref (Q 16), .ref (Q 17), .ref (Q 18), .ref (Q 19), .ref (Q 20), .ref (Q 21), .ref (Q 22), .ref (Q 23), .ref (Q 24), .ref (Q 25), .ref (Q 26), .int 0, .int 0, .int 0, .int 0, .int 0, .ref (Q 32), .ref (Q 33), .ref (Q 34), .ref (Q 35), .ref (Q 36), .ref (Q 37), .ref (Q 38), .ref (Q 39), .ref (Q 40), .ref (Q 40), .int 0, .int 0, .int 0, .int 0, .int 0, .int 0, .int 0, .int 0, .int (-1), .int 0, .ref (Q 52), .int 0, .ref (Q 54), .int 0, .ref (Q 56), .ref (Q 57), .ref (Q 58), .ref (Q 59), .ref (Q 60), .ref (Q 61), .ref (Q 62), .ref (Q 63), .ref (Q 64), .ref (Q 65), .ref (Q 66), .ref (Q 67), .ref (Q 68), .int 0, .ref (Q 70), .ref (Q 71)])), (Q 12, .inl (gI G, 4, .inl moDr)), (Q 13, .inl (gI G, 4, .inl (fun _ => 0))), (Q 22, .inl (gI G, 4, .inl moOn)), (Q 71, .inl (gI G, 4, .inl (fun _ => 0))), (Q 65, .inl (gI G, 160, .inl (fun _ => 0))), (Q 63, .inl (gI G, 160, .inl (fun _ => 0))), (Q 64, .inl (gI G, 160, .inl (fun _ => 0))), (Q 61, .inl (gI G, 160, .inl (fun _ => 0))), (Q 62, .inl (gI G, 160, .inl (fun _ => 0)))]) [0, 7, 8, 9, 6, 5, 3, 4, 1, 2] (by decide) rfl
    have hFc := va_free (wc := [(q_3, .inr (14, [.ref (Q 0), .ref (Q 1), .int 0, .int 0, .int 10, .ref (Q 5), .ref (Q 6), .ref (Q 7), .ref (Q 8), .ref (Q 9), .ref (Q 10), .ref (Q 11), .ref (Q 12), .ref (Q 13), .ref (Q 14), .ref (Q 15), .ref (Q 16), .ref (Q 17), .ref (Q 18), .ref (Q 19), .ref (Q 20), .ref (Q 21), .ref (Q 22), .ref (Q 23), .ref (Q 24), .ref (Q 25), .ref (Q 26), .int 0, .int 0, .int 0, .int 0, .int 0, .ref (Q 32), .ref (Q 33), .ref (Q 34), .ref (Q 35), .ref (Q 36), .ref (Q 37), .ref (Q 38), .ref (Q 39), .ref (Q 40), .ref (Q 40), .int 0, .int 0, .int 0, .int 0, .int 0, .int 0, .int 0, .int 0, .int (-1), .int 0, .ref (Q 52), .int 0, .ref (Q 54), .int 0, .ref (Q 56), .ref (Q 57), .ref (Q 58), .ref (Q 59), .ref (Q 60), .ref (Q 61), .ref (Q 62), .ref (Q 63), .ref (Q 64), .ref (Q 65), .ref (Q 66), .ref (Q 67), .ref (Q 68), .int 0, .ref (Q 70), .ref (Q 71)])), (Q 12, .inl (gI G, 4, .inl moDr)), (Q 13, .inl (gI G, 4, .inl (fun _ => 0))), (Q 22, .inl (gI G, 4, .inl moOn)), (Q 71, .inl (gI G, 4, .inl (fun _ => 0))), (Q 65, .inl (gI G, 160, .inl (fun _ => 0))), (Q 63, .inl (gI G, 160, .inl (fun _ => 0))), (Q 64, .inl (gI G, 160, .inl (fun _ => 0))), (Q 61, .inl (gI G, 160, .inl (fun _ => 0))), (Q 62, .inl (gI G, 160, .inl (fun _ => 0)))]) hD hS hA [0, 7, 8, 9, 6, 5, 3, 4, 1, 2] rfl
    refine va_calli (va_runV (As := [.int (xs 1), .int (xs 2)]) (rest := [.int (if (xs 1) < 1 ∨ 4 < (xs 1) ∨ (xs 2) < 1 ∨ 60 < (xs 2) then (-2) else 0)]) ⟨hx, hb, hml, hown, hts⟩ (m_plan l G q_3 Q (fun _ => 0) (fun _ => 0) (fun _ => 0) (fun _ => 0) (fun _ => 0) (fun _ => 0) (xs 1) (xs 2) H.size) (cwV 2 hts (gdV (List.mem_of_getElem? (i := 2305) (by decide +kernel)) (List.mem_of_getElem? (i := 2306) (by decide +kernel)) (List.mem_of_getElem? (i := 2307) (by decide +kernel)) (List.mem_of_getElem? (i := 171) (by decide +kernel)) (fun w9 h9 => ⟨(in_m_plan _ h9), gd_m_plan w9 h9⟩)) rfl rfl rfl kVX13_plan ⟨Nat.le_of_ble_eq_true rfl, Nat.le_of_ble_eq_true rfl⟩) (preV_m (As := [.int (xs 1), .int (xs 2)]) hPc hB hDc rfl rfl) rfl rfl hl.1 rfl (lv_room (Nat.le_of_ble_eq_true rfl)) dL_law_866 ⟨Nat.le_of_ble_eq_true rfl, Nat.le_of_ble_eq_true rfl⟩) hS (fun q _ h => hFc q h) hFc (fun r_75 u t H1 locs ht hvm hw hB1 hz1 hk1 hS => ?_)
    obtain ⟨hP1, hD1⟩ := hB1
    rw [ht] at hP1
    obtain ⟨hP, hD⟩ := va_join (wr := []) (w1 := []) hP hD [0, 7, 8, 9, 6, 5, 3, 4, 1, 2] [] rfl rfl (by decide) (by decide) hk1 hFc hP1 hD1
    generalize H1 = H at hP hS ⊢
    have hP : va_P (gD G) vwCl [] H := hP
    have hD : va_D A [] := hD
    have hw : r_75 = (if (xs 1) < 1 ∨ 4 < (xs 1) ∨ (xs 2) < 1 ∨ 60 < (xs 2) then (-2) else 0) := hw
    refine gx_ti hw ?_
    refine W.eq (g2 := F0 m 869 ls [.int (if (xs 1) < 1 ∨ 4 < (xs 1) ∨ (xs 2) < 1 ∨ 60 < (xs 2) then (-2) else 0), .int (if (xs 1) < 1 ∨ 4 < (xs 1) ∨ (xs 2) < 1 ∨ 60 < (xs 2) then (-2) else 0)]) rfl ?_
    refine lv_icmp_eq (tgt := 953) hx hb dL_law_869 (by decide) (fun _ => ?_) (fun c9 => absurd rfl c9)
    refine lv_iinc (v := 6) (lv' := [(3, .int 6), (2, .ref q_3), (1, .ref q_1), (0, .ref b)]) hx hb dL_law_953 hl (k := 0) rfl (by decide) (by decide) rfl (fun ls hl => ?_)
    refine lv_goto (tgt := 18) hx hb dL_law_956 (by decide) ?_
    refine lv_iload_n hx hb dL_law_18 rfl (lv_at hl 0 rfl) ?_
    refine lv_aload_n hx hb dL_law_19 rfl (lv_at hl 3 rfl) ?_
    refine va_slen hx hb hX hbl hbA hS dL_law_20 ?_
    refine gx_ti (y := 6) (by decide) ?_
    refine lv_bipush (v := 6) hx hb dL_law_21 (by decide) ?_
    refine lv_isub hx hb dL_law_23 ?_
    refine gx_ti (y := 0) (by decide) ?_
    refine lv_icmp_gt (tgt := 959) hx hb dL_law_24 (by decide) (fun _ => ?_) (fun c9 => absurd (by decide) c9)
    refine lv_iconst (v := 1) hx hb dL_law_959 (by decide) ?_
    refine va_forget (fun q hq => hAl q.base (hS.2.2 q hq)) ?_
    refine W.widen (k := 600002) (n := 7302232) (Nat.le_of_ble_eq_true rfl) (Nat.le_of_ble_eq_true rfl) ?_
    exact lw_ret hx hb hr hlocks dL_law_960
  · refine lv_tableIn (off := 841) (tgt := 874) hx hb dL_law_33 (by rw [c_29]; decide) (by rw [c_29]; decide) (by rw [c_29]; rfl) (by decide) ?_
    have hP := hP.sub (ws' := [(q_1, .inr (12, [.ref bk, .ref tp, .ref ps, .ref rl, u1, .ref bd, .ref fr, u2, .ref pn, .ref nl, u3])), (bk, .inr (2, [.ref ca, .ref bc, .ref bb, .ref bs, .int 0, .int 0])), (ca, .inl (gI G, 2088, .inl bk0)), (bd, .inr (1, [.ref bk, b1, b2, b3, b4, b5])), (q_3, .inr (14, [.ref (Q 0), .ref (Q 1), .int 0, .int 0, .int 10, .ref (Q 5), .ref (Q 6), .ref (Q 7), .ref (Q 8), .ref (Q 9), .ref (Q 10), .ref (Q 11), .ref (Q 12), .ref (Q 13), .ref (Q 14), .ref (Q 15), .ref (Q 16), .ref (Q 17), .ref (Q 18), .ref (Q 19), .ref (Q 20), .ref (Q 21), .ref (Q 22), .ref (Q 23), .ref (Q 24), .ref (Q 25), .ref (Q 26), .int 0, .int 0, .int 0, .int 0, .int 0, .ref (Q 32), .ref (Q 33), .ref (Q 34), .ref (Q 35), .ref (Q 36), .ref (Q 37), .ref (Q 38), .ref (Q 39), .ref (Q 40), .ref (Q 40), .int 0, .int 0, .int 0, .int 0, .int 0, .int 0, .int 0, .int 0, .int (-1), .int 0, .ref (Q 52), .int 0, .ref (Q 54), .int 0, .ref (Q 56), .ref (Q 57), .ref (Q 58), .ref (Q 59), .ref (Q 60), .ref (Q 61), .ref (Q 62), .ref (Q 63), .ref (Q 64), .ref (Q 65), .ref (Q 66), .ref (Q 67), .ref (Q 68), .int 0, .ref (Q 70), .ref (Q 71)])), (Q 12, .inl (gI G, 4, .inl moDr)), (Q 13, .inl (gI G, 4, .inl (fun _ => 0)))]) [0, 1, 2, 15, 27, 45, 46] rfl
    have hD := hD.sub (ws' := [(q_1, .inr (12, [.ref bk, .ref tp, .ref ps, .ref rl, u1, .ref bd, .ref fr, u2, .ref pn, .ref nl, u3])), (bk, .inr (2, [.ref ca, .ref bc, .ref bb, .ref bs, .int 0, .int 0])), (ca, .inl (gI G, 2088, .inl bk0)), (bd, .inr (1, [.ref bk, b1, b2, b3, b4, b5])), (q_3, .inr (14, [.ref (Q 0), .ref (Q 1), .int 0, .int 0, .int 10, .ref (Q 5), .ref (Q 6), .ref (Q 7), .ref (Q 8), .ref (Q 9), .ref (Q 10), .ref (Q 11), .ref (Q 12), .ref (Q 13), .ref (Q 14), .ref (Q 15), .ref (Q 16), .ref (Q 17), .ref (Q 18), .ref (Q 19), .ref (Q 20), .ref (Q 21), .ref (Q 22), .ref (Q 23), .ref (Q 24), .ref (Q 25), .ref (Q 26), .int 0, .int 0, .int 0, .int 0, .int 0, .ref (Q 32), .ref (Q 33), .ref (Q 34), .ref (Q 35), .ref (Q 36), .ref (Q 37), .ref (Q 38), .ref (Q 39), .ref (Q 40), .ref (Q 40), .int 0, .int 0, .int 0, .int 0, .int 0, .int 0, .int 0, .int 0, .int (-1), .int 0, .ref (Q 52), .int 0, .ref (Q 54), .int 0, .ref (Q 56), .ref (Q 57), .ref (Q 58), .ref (Q 59), .ref (Q 60), .ref (Q 61), .ref (Q 62), .ref (Q 63), .ref (Q 64), .ref (Q 65), .ref (Q 66), .ref (Q 67), .ref (Q 68), .int 0, .ref (Q 70), .ref (Q 71)])), (Q 12, .inl (gI G, 4, .inl moDr)), (Q 13, .inl (gI G, 4, .inl (fun _ => 0)))]) [0, 1, 2, 15, 27, 45, 46] (by decide) rfl
    refine lv_aload_n hx hb dL_law_874 rfl (lv_at hl 2 rfl) ?_
    refine lv_aload_n hx hb dL_law_875 rfl (lv_at hl 3 rfl) ?_
    refine lv_iload_n hx hb dL_law_876 rfl (lv_at hl 0 rfl) ?_
    refine lv_iconst (v := 1) hx hb dL_law_877 (by decide) ?_
    refine lv_iadd hx hb dL_law_878 ?_
    refine gx_ti (y := 1) (by decide) ?_
    refine va_sld hx hb hX hbl hbA hS (i := 1) (gx_in (by decide)) dL_law_879 ?_
    refine gx_ti (y := xs 1) rfl ?_
    refine lv_aload_n hx hb dL_law_880 rfl (lv_at hl 3 rfl) ?_
    refine lv_iload_n hx hb dL_law_881 rfl (lv_at hl 0 rfl) ?_
    refine lv_iconst (v := 2) hx hb dL_law_882 (by decide) ?_
    refine lv_iadd hx hb dL_law_883 ?_
    refine gx_ti (y := 2) (by decide) ?_
    refine va_sld hx hb hX hbl hbA hS (i := 2) (gx_in (by decide)) dL_law_884 ?_
    refine gx_ti (y := xs 2) rfl ?_
    refine lv_aload_n hx hb dL_law_885 rfl (lv_at hl 3 rfl) ?_
    refine lv_iload_n hx hb dL_law_886 rfl (lv_at hl 0 rfl) ?_
    refine lv_iconst (v := 3) hx hb dL_law_887 (by decide) ?_
    refine lv_iadd hx hb dL_law_888 ?_
    refine gx_ti (y := 3) (by decide) ?_
    refine va_sld hx hb hX hbl hbA hS (i := 3) (gx_in (by decide)) dL_law_889 ?_
    refine gx_ti (y := xs 3) rfl ?_
    refine vp_callSi (va_Run.run (va_runV (As := [.int (xs 1), .int (xs 2), .int (xs 3)]) (rest := []) ⟨hx, hb, hml, hown, hts⟩ (q_planned l G q_1 bk tp ps rl u1 bd fr u2 pn nl u3 b1 b2 b3 b4 b5 ca bc bb bs (xs 1) (xs 2) (xs 3)) (cwV 3 hts (gdV (List.mem_of_getElem? (i := 1525) (by decide +kernel)) (List.mem_of_getElem? (i := 1526) (by decide +kernel)) (List.mem_of_getElem? (i := 1527) (by decide +kernel)) (List.mem_of_getElem? (i := 154) (by decide +kernel)) (fun w9 h9 => ⟨(in_q_planned _ h9), gd_q_planned w9 h9⟩)) rfl rfl rfl kVX11_planned ⟨Nat.le_of_ble_eq_true rfl, Nat.le_of_ble_eq_true rfl⟩) (preV_p (As := [.int (xs 1), .int (xs 2), .int (xs 3)]) (hP.sub (ws' := [(q_1, .inr (12, [.ref bk, .ref tp, .ref ps, .ref rl, u1, .ref bd, .ref fr, u2, .ref pn, .ref nl, u3])), (bd, .inr (1, [.ref bk, b1, b2, b3, b4, b5])), (bk, .inr (2, [.ref ca, .ref bc, .ref bb, .ref bs, .int 0, .int 0])), (ca, .inl (gI G, 2088, .inl bk0))]) [0, 3, 1, 2] rfl) hB rfl rfl) rfl rfl hl.1 rfl (lv_room (Nat.le_of_ble_eq_true rfl)) dL_law_890 ⟨Nat.le_of_ble_eq_true rfl, Nat.le_of_ble_eq_true rfl⟩)) (fun r_76 hr_76 => ?_)
    subst hr_76
    refine lv_aload_n hx hb dL_law_893 rfl (lv_at hl 1 rfl) ?_
    refine lv_aload_n hx hb dL_law_894 rfl (lv_at hl 3 rfl) ?_
    refine lv_iload_n hx hb dL_law_895 rfl (lv_at hl 0 rfl) ?_
    refine lv_iconst (v := 1) hx hb dL_law_896 (by decide) ?_
    refine lv_iadd hx hb dL_law_897 ?_
    refine gx_ti (y := 1) (by decide) ?_
    refine va_sld hx hb hX hbl hbA hS (i := 1) (gx_in (by decide)) dL_law_898 ?_
    refine gx_ti (y := xs 1) rfl ?_
    refine lv_aload_n hx hb dL_law_899 rfl (lv_at hl 3 rfl) ?_
    refine lv_iload_n hx hb dL_law_900 rfl (lv_at hl 0 rfl) ?_
    refine lv_iconst (v := 2) hx hb dL_law_901 (by decide) ?_
    refine lv_iadd hx hb dL_law_902 ?_
    refine gx_ti (y := 2) (by decide) ?_
    refine va_sld hx hb hX hbl hbA hS (i := 2) (gx_in (by decide)) dL_law_903 ?_
    refine gx_ti (y := xs 2) rfl ?_
    refine lv_aload_n hx hb dL_law_904 rfl (lv_at hl 3 rfl) ?_
    refine lv_iload_n hx hb dL_law_905 rfl (lv_at hl 0 rfl) ?_
    refine lv_iconst (v := 3) hx hb dL_law_906 (by decide) ?_
    refine lv_iadd hx hb dL_law_907 ?_
    refine gx_ti (y := 3) (by decide) ?_
    refine va_sld hx hb hX hbl hbA hS (i := 3) (gx_in (by decide)) dL_law_908 ?_
    refine gx_ti (y := xs 3) rfl ?_
    refine vp_callSi (va_Run.run (va_runV (As := [.int (xs 1), .int (xs 2), .int (xs 3)]) (rest := [.int (-1)]) ⟨hx, hb, hml, hown, hts⟩ (m_planned l G q_3 Q (xs 1) (xs 2) (xs 3)) (cwV 3 hts (gdV (List.mem_of_getElem? (i := 2328) (by decide +kernel)) (List.mem_of_getElem? (i := 2329) (by decide +kernel)) (List.mem_of_getElem? (i := 2330) (by decide +kernel)) (List.mem_of_getElem? (i := 171) (by decide +kernel)) (fun w9 h9 => ⟨(in_m_planned _ h9), gd_m_planned w9 h9⟩)) rfl rfl rfl kVX13_planned ⟨Nat.le_of_ble_eq_true rfl, Nat.le_of_ble_eq_true rfl⟩) (preV_p (As := [.int (xs 1), .int (xs 2), .int (xs 3)]) (hP.sub (ws' := [(q_3, .inr (14, [.ref (Q 0), .ref (Q 1), .int 0, .int 0, .int 10, .ref (Q 5), .ref (Q 6), .ref (Q 7), .ref (Q 8), .ref (Q 9), .ref (Q 10), .ref (Q 11), .ref (Q 12), .ref (Q 13), .ref (Q 14), .ref (Q 15), .ref (Q 16), .ref (Q 17), .ref (Q 18), .ref (Q 19), .ref (Q 20), .ref (Q 21), .ref (Q 22), .ref (Q 23), .ref (Q 24), .ref (Q 25), .ref (Q 26), .int 0, .int 0, .int 0, .int 0, .int 0, .ref (Q 32), .ref (Q 33), .ref (Q 34), .ref (Q 35), .ref (Q 36), .ref (Q 37), .ref (Q 38), .ref (Q 39), .ref (Q 40), .ref (Q 40), .int 0, .int 0, .int 0, .int 0, .int 0, .int 0, .int 0, .int 0, .int (-1), .int 0, .ref (Q 52), .int 0, .ref (Q 54), .int 0, .ref (Q 56), .ref (Q 57), .ref (Q 58), .ref (Q 59), .ref (Q 60), .ref (Q 61), .ref (Q 62), .ref (Q 63), .ref (Q 64), .ref (Q 65), .ref (Q 66), .ref (Q 67), .ref (Q 68), .int 0, .ref (Q 70), .ref (Q 71)])), (Q 12, .inl (gI G, 4, .inl moDr)), (Q 13, .inl (gI G, 4, .inl (fun _ => 0)))]) [4, 5, 6] rfl) hB rfl rfl) rfl rfl hl.1 rfl (lv_room (Nat.le_of_ble_eq_true rfl)) dL_law_909 ⟨Nat.le_of_ble_eq_true rfl, Nat.le_of_ble_eq_true rfl⟩)) (fun r_77 hr_77 => ?_)
    subst hr_77
    refine lv_icmp_eq (tgt := 953) hx hb dL_law_912 (by decide) (fun _ => ?_) (fun c9 => absurd (by decide) c9)
    refine lv_iinc (v := 6) (lv' := [(3, .int 6), (2, .ref q_3), (1, .ref q_1), (0, .ref b)]) hx hb dL_law_953 hl (k := 0) rfl (by decide) (by decide) rfl (fun ls hl => ?_)
    refine lv_goto (tgt := 18) hx hb dL_law_956 (by decide) ?_
    refine lv_iload_n hx hb dL_law_18 rfl (lv_at hl 0 rfl) ?_
    refine lv_aload_n hx hb dL_law_19 rfl (lv_at hl 3 rfl) ?_
    refine va_slen hx hb hX hbl hbA hS dL_law_20 ?_
    refine gx_ti (y := 6) (by decide) ?_
    refine lv_bipush (v := 6) hx hb dL_law_21 (by decide) ?_
    refine lv_isub hx hb dL_law_23 ?_
    refine gx_ti (y := 0) (by decide) ?_
    refine lv_icmp_gt (tgt := 959) hx hb dL_law_24 (by decide) (fun _ => ?_) (fun c9 => absurd (by decide) c9)
    refine lv_iconst (v := 1) hx hb dL_law_959 (by decide) ?_
    refine va_forget (fun q hq => hAl q.base (hS.2.2 q hq)) ?_
    refine W.widen (k := 600002) (n := 7302232) (Nat.le_of_ble_eq_true rfl) (Nat.le_of_ble_eq_true rfl) ?_
    exact lw_ret hx hb hr hlocks dL_law_960
  · refine lv_tableIn (off := 884) (tgt := 917) hx hb dL_law_33 (by rw [c_30]; decide) (by rw [c_30]; decide) (by rw [c_30]; rfl) (by decide) ?_
    have hP := hP.sub (ws' := [(q_1, .inr (12, [.ref bk, .ref tp, .ref ps, .ref rl, u1, .ref bd, .ref fr, u2, .ref pn, .ref nl, u3])), (bk, .inr (2, [.ref ca, .ref bc, .ref bb, .ref bs, .int 0, .int 0])), (q_3, .inr (14, [.ref (Q 0), .ref (Q 1), .int 0, .int 0, .int 10, .ref (Q 5), .ref (Q 6), .ref (Q 7), .ref (Q 8), .ref (Q 9), .ref (Q 10), .ref (Q 11), .ref (Q 12), .ref (Q 13), .ref (Q 14), .ref (Q 15), .ref (Q 16), .ref (Q 17), .ref (Q 18), .ref (Q 19), .ref (Q 20), .ref (Q 21), .ref (Q 22), .ref (Q 23), .ref (Q 24), .ref (Q 25), .ref (Q 26), .int 0, .int 0, .int 0, .int 0, .int 0, .ref (Q 32), .ref (Q 33), .ref (Q 34), .ref (Q 35), .ref (Q 36), .ref (Q 37), .ref (Q 38), .ref (Q 39), .ref (Q 40), .ref (Q 40), .int 0, .int 0, .int 0, .int 0, .int 0, .int 0, .int 0, .int 0, .int (-1), .int 0, .ref (Q 52), .int 0, .ref (Q 54), .int 0, .ref (Q 56), .ref (Q 57), .ref (Q 58), .ref (Q 59), .ref (Q 60), .ref (Q 61), .ref (Q 62), .ref (Q 63), .ref (Q 64), .ref (Q 65), .ref (Q 66), .ref (Q 67), .ref (Q 68), .int 0, .ref (Q 70), .ref (Q 71)]))]) [0, 1, 27] rfl
    have hD := hD.sub (ws' := [(q_1, .inr (12, [.ref bk, .ref tp, .ref ps, .ref rl, u1, .ref bd, .ref fr, u2, .ref pn, .ref nl, u3])), (bk, .inr (2, [.ref ca, .ref bc, .ref bb, .ref bs, .int 0, .int 0])), (q_3, .inr (14, [.ref (Q 0), .ref (Q 1), .int 0, .int 0, .int 10, .ref (Q 5), .ref (Q 6), .ref (Q 7), .ref (Q 8), .ref (Q 9), .ref (Q 10), .ref (Q 11), .ref (Q 12), .ref (Q 13), .ref (Q 14), .ref (Q 15), .ref (Q 16), .ref (Q 17), .ref (Q 18), .ref (Q 19), .ref (Q 20), .ref (Q 21), .ref (Q 22), .ref (Q 23), .ref (Q 24), .ref (Q 25), .ref (Q 26), .int 0, .int 0, .int 0, .int 0, .int 0, .ref (Q 32), .ref (Q 33), .ref (Q 34), .ref (Q 35), .ref (Q 36), .ref (Q 37), .ref (Q 38), .ref (Q 39), .ref (Q 40), .ref (Q 40), .int 0, .int 0, .int 0, .int 0, .int 0, .int 0, .int 0, .int 0, .int (-1), .int 0, .ref (Q 52), .int 0, .ref (Q 54), .int 0, .ref (Q 56), .ref (Q 57), .ref (Q 58), .ref (Q 59), .ref (Q 60), .ref (Q 61), .ref (Q 62), .ref (Q 63), .ref (Q 64), .ref (Q 65), .ref (Q 66), .ref (Q 67), .ref (Q 68), .int 0, .ref (Q 70), .ref (Q 71)]))]) [0, 1, 27] (by decide) rfl
    refine lv_aload_n hx hb dL_law_917 rfl (lv_at hl 2 rfl) ?_
    refine vp_callSi (va_Run.run (va_runV (As := []) (rest := []) ⟨hx, hb, hml, hown, hts⟩ (q_undo l G q_1 bk tp ps rl u1 bd fr u2 pn nl u3 ca bc bb bs) (cwV 0 hts (gdV (List.mem_of_getElem? (i := 1533) (by decide +kernel)) (List.mem_of_getElem? (i := 1534) (by decide +kernel)) (List.mem_of_getElem? (i := 1535) (by decide +kernel)) (List.mem_of_getElem? (i := 154) (by decide +kernel)) (fun w9 h9 => ⟨(in_q_undo _ h9), gd_q_undo w9 h9⟩)) rfl rfl rfl kVX11_undo ⟨Nat.le_of_ble_eq_true rfl, Nat.le_of_ble_eq_true rfl⟩) (preV_p (As := []) (hP.sub (ws' := [(q_1, .inr (12, [.ref bk, .ref tp, .ref ps, .ref rl, u1, .ref bd, .ref fr, u2, .ref pn, .ref nl, u3])), (bk, .inr (2, [.ref ca, .ref bc, .ref bb, .ref bs, .int 0, .int 0]))]) [0, 1] rfl) hB rfl rfl) rfl rfl hl.1 rfl (lv_room (Nat.le_of_ble_eq_true rfl)) dL_law_918 ⟨Nat.le_of_ble_eq_true rfl, Nat.le_of_ble_eq_true rfl⟩)) (fun r_78 hr_78 => ?_)
    subst hr_78
    refine lv_aload_n hx hb dL_law_921 rfl (lv_at hl 1 rfl) ?_
    refine vp_callSi (va_Run.run (va_runV (As := []) (rest := [.int (-1)]) ⟨hx, hb, hml, hown, hts⟩ (m_undo l G q_3 Q) (cwV 0 hts (gdV (List.mem_of_getElem? (i := 1835) (by decide +kernel)) (List.mem_of_getElem? (i := 1836) (by decide +kernel)) (List.mem_of_getElem? (i := 1837) (by decide +kernel)) (List.mem_of_getElem? (i := 171) (by decide +kernel)) (fun w9 h9 => ⟨(in_m_undo _ h9), gd_m_undo w9 h9⟩)) rfl rfl rfl kVX13_undo ⟨Nat.le_of_ble_eq_true rfl, Nat.le_of_ble_eq_true rfl⟩) (preV_p (As := []) (hP.sub (ws' := [(q_3, .inr (14, [.ref (Q 0), .ref (Q 1), .int 0, .int 0, .int 10, .ref (Q 5), .ref (Q 6), .ref (Q 7), .ref (Q 8), .ref (Q 9), .ref (Q 10), .ref (Q 11), .ref (Q 12), .ref (Q 13), .ref (Q 14), .ref (Q 15), .ref (Q 16), .ref (Q 17), .ref (Q 18), .ref (Q 19), .ref (Q 20), .ref (Q 21), .ref (Q 22), .ref (Q 23), .ref (Q 24), .ref (Q 25), .ref (Q 26), .int 0, .int 0, .int 0, .int 0, .int 0, .ref (Q 32), .ref (Q 33), .ref (Q 34), .ref (Q 35), .ref (Q 36), .ref (Q 37), .ref (Q 38), .ref (Q 39), .ref (Q 40), .ref (Q 40), .int 0, .int 0, .int 0, .int 0, .int 0, .int 0, .int 0, .int 0, .int (-1), .int 0, .ref (Q 52), .int 0, .ref (Q 54), .int 0, .ref (Q 56), .ref (Q 57), .ref (Q 58), .ref (Q 59), .ref (Q 60), .ref (Q 61), .ref (Q 62), .ref (Q 63), .ref (Q 64), .ref (Q 65), .ref (Q 66), .ref (Q 67), .ref (Q 68), .int 0, .ref (Q 70), .ref (Q 71)]))]) [2] rfl) hB rfl rfl) rfl rfl hl.1 rfl (lv_room (Nat.le_of_ble_eq_true rfl)) dL_law_922 ⟨Nat.le_of_ble_eq_true rfl, Nat.le_of_ble_eq_true rfl⟩)) (fun r_79 hr_79 => ?_)
    subst hr_79
    refine lv_icmp_eq (tgt := 953) hx hb dL_law_925 (by decide) (fun _ => ?_) (fun c9 => absurd (by decide) c9)
    refine lv_iinc (v := 6) (lv' := [(3, .int 6), (2, .ref q_3), (1, .ref q_1), (0, .ref b)]) hx hb dL_law_953 hl (k := 0) rfl (by decide) (by decide) rfl (fun ls hl => ?_)
    refine lv_goto (tgt := 18) hx hb dL_law_956 (by decide) ?_
    refine lv_iload_n hx hb dL_law_18 rfl (lv_at hl 0 rfl) ?_
    refine lv_aload_n hx hb dL_law_19 rfl (lv_at hl 3 rfl) ?_
    refine va_slen hx hb hX hbl hbA hS dL_law_20 ?_
    refine gx_ti (y := 6) (by decide) ?_
    refine lv_bipush (v := 6) hx hb dL_law_21 (by decide) ?_
    refine lv_isub hx hb dL_law_23 ?_
    refine gx_ti (y := 0) (by decide) ?_
    refine lv_icmp_gt (tgt := 959) hx hb dL_law_24 (by decide) (fun _ => ?_) (fun c9 => absurd (by decide) c9)
    refine lv_iconst (v := 1) hx hb dL_law_959 (by decide) ?_
    refine va_forget (fun q hq => hAl q.base (hS.2.2 q hq)) ?_
    refine W.widen (k := 600002) (n := 7302232) (Nat.le_of_ble_eq_true rfl) (Nat.le_of_ble_eq_true rfl) ?_
    exact lw_ret hx hb hr hlocks dL_law_960
  · refine lv_tableIn (off := 897) (tgt := 930) hx hb dL_law_33 (by rw [c_31]; decide) (by rw [c_31]; decide) (by rw [c_31]; rfl) (by decide) ?_
    have hP := hP.sub (ws' := [(q_1, .inr (12, [.ref bk, .ref tp, .ref ps, .ref rl, u1, .ref bd, .ref fr, u2, .ref pn, .ref nl, u3])), (bk, .inr (2, [.ref ca, .ref bc, .ref bb, .ref bs, .int 0, .int 0])), (ca, .inl (gI G, 2088, .inl bk0)), (tp, .inr (11, [.ref ty, .int 0, .int 0, .int 0, .int 0, .int 0])), (rl, .inr (9, [.ref bk])), (fr, .inr (4, [.ref bk, .ref bd, f1, .int 0])), (nl, .inr (5, [.int 0, .int 0, .int 0, .int 0, .int 0, .int 0, l1, l2, l3])), (q_3, .inr (14, [.ref (Q 0), .ref (Q 1), .int 0, .int 0, .int 10, .ref (Q 5), .ref (Q 6), .ref (Q 7), .ref (Q 8), .ref (Q 9), .ref (Q 10), .ref (Q 11), .ref (Q 12), .ref (Q 13), .ref (Q 14), .ref (Q 15), .ref (Q 16), .ref (Q 17), .ref (Q 18), .ref (Q 19), .ref (Q 20), .ref (Q 21), .ref (Q 22), .ref (Q 23), .ref (Q 24), .ref (Q 25), .ref (Q 26), .int 0, .int 0, .int 0, .int 0, .int 0, .ref (Q 32), .ref (Q 33), .ref (Q 34), .ref (Q 35), .ref (Q 36), .ref (Q 37), .ref (Q 38), .ref (Q 39), .ref (Q 40), .ref (Q 40), .int 0, .int 0, .int 0, .int 0, .int 0, .int 0, .int 0, .int 0, .int (-1), .int 0, .ref (Q 52), .int 0, .ref (Q 54), .int 0, .ref (Q 56), .ref (Q 57), .ref (Q 58), .ref (Q 59), .ref (Q 60), .ref (Q 61), .ref (Q 62), .ref (Q 63), .ref (Q 64), .ref (Q 65), .ref (Q 66), .ref (Q 67), .ref (Q 68), .int 0, .ref (Q 70), .ref (Q 71)])), (Q 22, .inl (gI G, 4, .inl moOn))]) [0, 1, 2, 9, 14, 16, 26, 27, 47] rfl
    have hD := hD.sub (ws' := [(q_1, .inr (12, [.ref bk, .ref tp, .ref ps, .ref rl, u1, .ref bd, .ref fr, u2, .ref pn, .ref nl, u3])), (bk, .inr (2, [.ref ca, .ref bc, .ref bb, .ref bs, .int 0, .int 0])), (ca, .inl (gI G, 2088, .inl bk0)), (tp, .inr (11, [.ref ty, .int 0, .int 0, .int 0, .int 0, .int 0])), (rl, .inr (9, [.ref bk])), (fr, .inr (4, [.ref bk, .ref bd, f1, .int 0])), (nl, .inr (5, [.int 0, .int 0, .int 0, .int 0, .int 0, .int 0, l1, l2, l3])), (q_3, .inr (14, [.ref (Q 0), .ref (Q 1), .int 0, .int 0, .int 10, .ref (Q 5), .ref (Q 6), .ref (Q 7), .ref (Q 8), .ref (Q 9), .ref (Q 10), .ref (Q 11), .ref (Q 12), .ref (Q 13), .ref (Q 14), .ref (Q 15), .ref (Q 16), .ref (Q 17), .ref (Q 18), .ref (Q 19), .ref (Q 20), .ref (Q 21), .ref (Q 22), .ref (Q 23), .ref (Q 24), .ref (Q 25), .ref (Q 26), .int 0, .int 0, .int 0, .int 0, .int 0, .ref (Q 32), .ref (Q 33), .ref (Q 34), .ref (Q 35), .ref (Q 36), .ref (Q 37), .ref (Q 38), .ref (Q 39), .ref (Q 40), .ref (Q 40), .int 0, .int 0, .int 0, .int 0, .int 0, .int 0, .int 0, .int 0, .int (-1), .int 0, .ref (Q 52), .int 0, .ref (Q 54), .int 0, .ref (Q 56), .ref (Q 57), .ref (Q 58), .ref (Q 59), .ref (Q 60), .ref (Q 61), .ref (Q 62), .ref (Q 63), .ref (Q 64), .ref (Q 65), .ref (Q 66), .ref (Q 67), .ref (Q 68), .int 0, .ref (Q 70), .ref (Q 71)])), (Q 22, .inl (gI G, 4, .inl moOn))]) [0, 1, 2, 9, 14, 16, 26, 27, 47] (by decide) rfl
    refine lv_aload_n hx hb dL_law_930 rfl (lv_at hl 2 rfl) ?_
    refine lv_aload_n hx hb dL_law_931 rfl (lv_at hl 3 rfl) ?_
    refine lv_iload_n hx hb dL_law_932 rfl (lv_at hl 0 rfl) ?_
    refine lv_iconst (v := 1) hx hb dL_law_933 (by decide) ?_
    refine lv_iadd hx hb dL_law_934 ?_
    refine gx_ti (y := 1) (by decide) ?_
    refine va_sld hx hb hX hbl hbA hS (i := 1) (gx_in (by decide)) dL_law_935 ?_
    refine gx_ti (y := xs 1) rfl ?_
    refine vp_callSi (va_Run.run (va_runV (As := [.int (xs 1)]) (rest := []) ⟨hx, hb, hml, hown, hts⟩ (q_count l G q_1 bk tp ps rl u1 bd fr u2 pn nl u3 f1 ty l1 l2 l3 ca bc bb bs (xs 1)) (cwV 1 hts (gdV (List.mem_of_getElem? (i := 1543) (by decide +kernel)) (List.mem_of_getElem? (i := 1544) (by decide +kernel)) (List.mem_of_getElem? (i := 1545) (by decide +kernel)) (List.mem_of_getElem? (i := 154) (by decide +kernel)) (fun w9 h9 => ⟨(in_q_count _ h9), gd_q_count w9 h9⟩)) rfl rfl rfl kVX11_count ⟨Nat.le_of_ble_eq_true rfl, Nat.le_of_ble_eq_true rfl⟩) (preV_p (As := [.int (xs 1)]) (hP.sub (ws' := [(q_1, .inr (12, [.ref bk, .ref tp, .ref ps, .ref rl, u1, .ref bd, .ref fr, u2, .ref pn, .ref nl, u3])), (rl, .inr (9, [.ref bk])), (fr, .inr (4, [.ref bk, .ref bd, f1, .int 0])), (tp, .inr (11, [.ref ty, .int 0, .int 0, .int 0, .int 0, .int 0])), (nl, .inr (5, [.int 0, .int 0, .int 0, .int 0, .int 0, .int 0, l1, l2, l3])), (bk, .inr (2, [.ref ca, .ref bc, .ref bb, .ref bs, .int 0, .int 0])), (ca, .inl (gI G, 2088, .inl bk0))]) [0, 4, 5, 3, 6, 1, 2] rfl) hB rfl rfl) rfl rfl hl.1 rfl (lv_room (Nat.le_of_ble_eq_true rfl)) dL_law_936 ⟨Nat.le_of_ble_eq_true rfl, Nat.le_of_ble_eq_true rfl⟩)) (fun r_80 hr_80 => ?_)
    subst hr_80
    refine lv_aload_n hx hb dL_law_939 rfl (lv_at hl 1 rfl) ?_
    refine lv_aload_n hx hb dL_law_940 rfl (lv_at hl 3 rfl) ?_
    refine lv_iload_n hx hb dL_law_941 rfl (lv_at hl 0 rfl) ?_
    refine lv_iconst (v := 1) hx hb dL_law_942 (by decide) ?_
    refine lv_iadd hx hb dL_law_943 ?_
    refine gx_ti (y := 1) (by decide) ?_
    refine va_sld hx hb hX hbl hbA hS (i := 1) (gx_in (by decide)) dL_law_944 ?_
    refine gx_ti (y := xs 1) rfl ?_
    refine vp_callSi (va_Run.run (va_runV (As := [.int (xs 1)]) (rest := [.int (if (xs 1) < 0 ∨ 9 ≤ (xs 1) then (-1) else if (xs 1) = 2 then 10 else 0)]) ⟨hx, hb, hml, hown, hts⟩ (m_count l G q_3 Q (xs 1)) (cwV 1 hts (gdV (List.mem_of_getElem? (i := 2332) (by decide +kernel)) (List.mem_of_getElem? (i := 2333) (by decide +kernel)) (List.mem_of_getElem? (i := 2334) (by decide +kernel)) (List.mem_of_getElem? (i := 171) (by decide +kernel)) (fun w9 h9 => ⟨(in_m_count _ h9), gd_m_count w9 h9⟩)) rfl rfl rfl kVX13_count ⟨Nat.le_of_ble_eq_true rfl, Nat.le_of_ble_eq_true rfl⟩) (preV_p (As := [.int (xs 1)]) (hP.sub (ws' := [(q_3, .inr (14, [.ref (Q 0), .ref (Q 1), .int 0, .int 0, .int 10, .ref (Q 5), .ref (Q 6), .ref (Q 7), .ref (Q 8), .ref (Q 9), .ref (Q 10), .ref (Q 11), .ref (Q 12), .ref (Q 13), .ref (Q 14), .ref (Q 15), .ref (Q 16), .ref (Q 17), .ref (Q 18), .ref (Q 19), .ref (Q 20), .ref (Q 21), .ref (Q 22), .ref (Q 23), .ref (Q 24), .ref (Q 25), .ref (Q 26), .int 0, .int 0, .int 0, .int 0, .int 0, .ref (Q 32), .ref (Q 33), .ref (Q 34), .ref (Q 35), .ref (Q 36), .ref (Q 37), .ref (Q 38), .ref (Q 39), .ref (Q 40), .ref (Q 40), .int 0, .int 0, .int 0, .int 0, .int 0, .int 0, .int 0, .int 0, .int (-1), .int 0, .ref (Q 52), .int 0, .ref (Q 54), .int 0, .ref (Q 56), .ref (Q 57), .ref (Q 58), .ref (Q 59), .ref (Q 60), .ref (Q 61), .ref (Q 62), .ref (Q 63), .ref (Q 64), .ref (Q 65), .ref (Q 66), .ref (Q 67), .ref (Q 68), .int 0, .ref (Q 70), .ref (Q 71)])), (Q 22, .inl (gI G, 4, .inl moOn))]) [7, 8] rfl) hB rfl rfl) rfl rfl hl.1 rfl (lv_room (Nat.le_of_ble_eq_true rfl)) dL_law_945 ⟨Nat.le_of_ble_eq_true rfl, Nat.le_of_ble_eq_true rfl⟩)) (fun r_81 hr_81 => ?_)
    subst hr_81
    refine lv_icmp_eq (tgt := 953) hx hb dL_law_948 (by decide) (fun _ => ?_) (fun c9 => absurd rfl c9)
    refine lv_iinc (v := 6) (lv' := [(3, .int 6), (2, .ref q_3), (1, .ref q_1), (0, .ref b)]) hx hb dL_law_953 hl (k := 0) rfl (by decide) (by decide) rfl (fun ls hl => ?_)
    refine lv_goto (tgt := 18) hx hb dL_law_956 (by decide) ?_
    refine lv_iload_n hx hb dL_law_18 rfl (lv_at hl 0 rfl) ?_
    refine lv_aload_n hx hb dL_law_19 rfl (lv_at hl 3 rfl) ?_
    refine va_slen hx hb hX hbl hbA hS dL_law_20 ?_
    refine gx_ti (y := 6) (by decide) ?_
    refine lv_bipush (v := 6) hx hb dL_law_21 (by decide) ?_
    refine lv_isub hx hb dL_law_23 ?_
    refine gx_ti (y := 0) (by decide) ?_
    refine lv_icmp_gt (tgt := 959) hx hb dL_law_24 (by decide) (fun _ => ?_) (fun c9 => absurd (by decide) c9)
    refine lv_iconst (v := 1) hx hb dL_law_959 (by decide) ?_
    refine va_forget (fun q hq => hAl q.base (hS.2.2 q hq)) ?_
    refine W.widen (k := 600002) (n := 7302232) (Nat.le_of_ble_eq_true rfl) (Nat.le_of_ble_eq_true rfl) ?_
    exact lw_ret hx hb hr hlocks dL_law_960
-- ===== YOUR PART ENDS =====
set_option maxHeartbeats 4000000 in
theorem lw_walk (l : Launch) (b : Addr) (xs : List Int32) : MetFree l x (headSpec (Jvm.Cond.code x code maxLocals ret :: tables_1) room_1) (lw_P b xs) (fun _ _ _ _ _ => True) lw_Q := by
  refine MetFree.of_bodyS (code := code) (maxLocals := maxLocals) (ret := ret) (by decide) ?_ ?_
  · intro args s m h hn
    obtain ⟨meth, c, h1, h2, h3, h4, h5, h6, -, -⟩ := Cond.code_spec hn (atoms_spec (ws := Jvm.Cond.code x code maxLocals ret :: tables_1) h _ List.mem_cons_self)
    exact ⟨meth, c, h1, h2, h3, h4, h5, h6⟩
  · intro p e s m args below meth c s₁ B hml0 hP _
    obtain ⟨rfl, hx, hbd, hgv⟩ := hP
    obtain ⟨scr, harrAt, hlist, hof, hsmall⟩ := hx
    obtain ⟨hcb, hkn, -, -⟩ := State.arrayAt?_spec harrAt
    have hown : s.vm.findClass R_law = some m.cls := findClass_of_methodNamed B.named
    have hts0 : ∀ c ∈ (Jvm.Cond.code x code maxLocals ret :: tables_1), c.before #[Value.ref b] s = true := atoms_spec (ws := Jvm.Cond.code x code maxLocals ret :: tables_1) B.pre
    have hts : ∀ w ∈ lw_tbl, w.before #[Value.ref b] s = true := k2_hts_sels lw_privs (fun w hw => hts0 w (List.mem_cons_of_mem _ hw)) lw_privs_ok
    have hml : c.maxLocals = 4 := B.maxLocals_eq (hts0 _ List.mem_cons_self)
    have X₀ : Stand p l e room_1 s m #[Value.ref b] below meth c s₁ [] 0 0 := Stand.of_body B
    have hh0 : s₁.heap = s.heap := by rw [B.state]; rfl
    have hsz : scr.slots.size = xs.length := by rw [← Array.length_toList, hlist, List.length_map]
    have hval : ∀ j : Nat, j < xs.length → scr.slots[j]? = some (.int (xs.getD j 0)) := fun j hj => by
      rw [← Array.getElem?_toList, hlist]
      simp [hj]
    have hbl : b < s.heap.size := (Array.getElem?_eq_some_iff.mp hcb).1
    have hX : va_X b xs.length (fun j => xs.getD j 0) s s.heap := ⟨scr, hcb, hof, hkn, hsz, hval⟩
    have K : W p l e room_1 s m #[Value.ref b] below meth c s₁.heap [] 0 0 (lw_Z below #[Value.ref b] s) (entryFrame m ([Value.ref b] : List Value).toArray 4) := by
      rw [hh0]
      exact whole_start l hbd ⟨B.exec, B.bytes, B.returns, hml, hown, hts, hX, hbl, B.notSynchronized, hgv⟩
    obtain ⟨t, a1, o, b1, b2, b3⟩ := K s₁ rfl X₀
    exact ⟨t, o, a1, b1, b2, b3⟩
theorem lw_pre_spec {args : Array Value} {s : State} (h : (Jvm.Cond.and given_1 narrow_1).before args s = true) (hr : rest_1_c.before args s = true) : ∃ (b : Addr) (xs : List Int32), lw_P b xs args s := by
  have hs := flat_of_before _ h
  have hq := flat_of_before _ hr
  have hc : (Cond.count 1).before args s = true := hs _ (by decide +kernel)
  have harr : (Cond.arrayOf (.arg 0) .int).before args s = true := hs _ (by decide +kernel)
  have hle : (Cond.le (.length (.arg 0)) (.int 6)).before args s = true := hs _ (by decide +kernel)
  have hlen : (Cond.isInt (.length (.arg 0))).before args s = true := hq _ (by decide +kernel)
  have hall : (Cond.all (.arg 0) (.isInt (.elem (.arg 0) (.index 0)))).before args s = true := hq _ (by decide +kernel)
  obtain ⟨b, xs, hb, hx⟩ := State.ints_of_pre rfl harr hlen hall
  have hsm : xs.length < 2 ^ 31 := hx.choose_spec.2.2.2
  have hev : (Term.length (.arg 0)).eval args s none [] s = some (.int xs.length.toInt32) := hx.length_eval hb
  have hv := Cond.le_ints hev (show (Term.int 6).eval args s none [] s = some (.int 6) from rfl)
  have hd : xs.length.toInt32 ≤ 6 := by
    simpa [Cond.before, Cond.holds, hv] using hle
  have hN : xs.length ≤ 6 := (Int32.ofNat_le_ofNat hsm (by decide)).mp (show Int32.ofNat xs.length ≤ Int32.ofNat 6 from hd)
  exact ⟨b, xs, Cond.one_arg hc (show args[0]? = some (.ref b) from hb), hx, hN, h⟩
theorem lw_comes (l : Launch) : Comes l x (Jvm.Cond.code x code maxLocals ret :: tables_1) room_1 (fun tb e args s => Calls_1 tb e args s ∧ rest_1 tb e args s ∧ Pre_1 tb e args s)
    (fun _ _ args s o t => lw_Q args s o t) := by
  intro p e ha hc hk s m args below hf hfit hheap happ hpre
  obtain ⟨b, xs, hP⟩ := lw_pre_spec hpre.2.2 hpre.2.1
  obtain ⟨k, o, h1, h2, h3, hQ⟩ := lw_walk l b xs p e ha hc hk s m args below hf ((Spec.applies_iff_loose hf).mp happ).1 hP trivial
  exact ⟨k, o, h1, h2, h3, hQ⟩
theorem lw_frame {s t : State} {o : Outcome} {args : Array Value} (h : Framed s o t [] 600002 7302232) :
    Framed s o t (fieldLocs frame_1_writes args s ++ arrayLocs frame_1_arrays args s ++ staticLocs frame_1_statics s) 600002 7302232 := h
theorem lw_limb (L : Cond) (hL : ∀ (args : Array Value) (s t : State), L.after args s (.returned (some (.int 1))) t = true) :
    ArmFor flags0 classFile x code maxLocals ret World_1 tables_1 room_1 Calls_1 rest_1 Pre_1
      (fun tb e a s o t => postC L tb e a s o t ∧ Framed s o t (fieldLocs frame_1_writes a s ++ arrayLocs frame_1_arrays a s ++ staticLocs frame_1_statics s) 600002 7302232) := by
  intro l _ _ _ p e ha hc hk s m args below hf hfit hheap happ hpre
  obtain ⟨k, o, h1, h2, h3, rfl, hF⟩ := lw_comes l p e ha hc hk s m args below hf hfit hheap happ hpre
  exact ⟨k, _, h1, h2, h3, hL args s _, lw_frame hF⟩
theorem i_vc : Claimed_1_1 ∧ Claimed_1_2 := ⟨lw_limb limb_1_1 (fun args s t => by simp [limb_1_1, Cond.after, Cond.holds, Cond.value]), lw_limb limb_1_2 (fun args s t => Cond.after_iff.mpr (by
  first | (rw [show limb_1_2 = Cond.eq .result (.int 1) from rfl, Cond.eq_ints (x := 1) (y := 1) rfl rfl]; simp; done) | (simp [limb_1_2, Cond.value, Term.eval]; done)))⟩
