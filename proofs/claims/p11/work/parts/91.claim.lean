theorem arrK {ty : FieldType} {args : Array Value} {s : State} (hty : ty = .int ∨ ty = .byte ∨ ty = .boolean) (h : (Cond.arrayClass ty).before args s = true) : ∃ cA : ClassId, ArrOfT s cA ty ∧ va_RA s cA ty := by
  obtain ⟨cA, kA, comp, h1, h2, h3⟩ := Cond.arrayClass_spec h
  refine ⟨cA, fun n z => ⟨fun k h => (by cases h), kA, h2, comp, h3⟩, ?_⟩
  rcases hty with rfl | rfl | rfl <;> exact h1
set_option maxHeartbeats 4000000 in
set_option maxRecDepth 100000 in
theorem whole_start {p : Program} {e : Env} {s : State} {m : MethodId} {below : List Frame} {meth : Method} {c : Code} (l : Launch) {b L : Nat} {xs : Nat → Int32} (hL : L ≤ 3072) (C0 : lw_At p s m meth c b L xs) : W p l e room_1 s m #[Value.ref b] below meth c s.heap [] 0 0 (lw_Z below #[Value.ref b] s) (entryFrame m ([Value.ref b] : List Value).toArray 4) := by
  obtain ⟨hx, hb, hr, hml, hown, hts, hX, hbl, hlocks, hgv⟩ := id C0
  have hown : s.vm.findClass RL = some m.cls := hown
  have hb : c.code = cL_law := hb
  obtain ⟨c0, iS0, hKn0⟩ := u_known (C := RJx4a65c) (T := TJx4a65c) (N := 3) (n := 3) hts in_wsJx4a65c0 (hts (.instantiable RJx4a65c 3) (List.mem_of_getElem? (i := 530) (by decide +kernel)))
  obtain ⟨c1, iS1, hKn1⟩ := u_known (C := RX0) (T := TX0) (N := 6) (n := 6) hts in_wsX00 (hts (.instantiable RX0 6) (List.mem_of_getElem? (i := 408) (by decide +kernel)))
  obtain ⟨c2, iS2, hKn2⟩ := u_known (C := RX1) (T := TX1) (N := 6) (n := 6) hts in_wsX10 (hts (.instantiable RX1 6) (List.mem_of_getElem? (i := 192) (by decide +kernel)))
  obtain ⟨c3, iS3, hKn3⟩ := u_known (C := RX2) (T := TX2) (N := 3) (n := 3) hts in_wsX20 (hts (.instantiable RX2 3) (List.mem_of_getElem? (i := 390) (by decide +kernel)))
  obtain ⟨c4, iS4, hKn4⟩ := u_known (C := RX3) (T := TX3) (N := 4) (n := 4) hts in_wsX30 (hts (.instantiable RX3 4) (List.mem_of_getElem? (i := 435) (by decide +kernel)))
  obtain ⟨c5, iS5, hKn5⟩ := u_known (C := RX4) (T := TX4) (N := 9) (n := 9) hts in_wsX40 (hts (.instantiable RX4 9) (List.mem_of_getElem? (i := 285) (by decide +kernel)))
  obtain ⟨c6, iS6, hKn6⟩ := u_known (C := RX5) (T := TX5) (N := 14) (n := 14) hts in_wsX50 (hts (.instantiable RX5 14) (List.mem_of_getElem? (i := 277) (by decide +kernel)))
  obtain ⟨c7, iS7, hKn7⟩ := u_known (C := RX6) (T := TX6) (N := 14) (n := 14) hts in_wsX60 (hts (.instantiable RX6 14) (List.mem_of_getElem? (i := 477) (by decide +kernel)))
  obtain ⟨c8, iS8, hKn8⟩ := u_known (C := RX7) (T := TX7) (N := 4) (n := 4) hts in_wsX70 (hts (.instantiable RX7 4) (List.mem_of_getElem? (i := 456) (by decide +kernel)))
  obtain ⟨c9, iS9, hKn9⟩ := u_known (C := RX8) (T := TX8) (N := 1) (n := 1) hts in_wsX80 (hts (.instantiable RX8 1) (List.mem_of_getElem? (i := 380) (by decide +kernel)))
  obtain ⟨c10, iS10, hKn10⟩ := u_known (C := RX9) (T := TX9) (N := 1) (n := 1) hts in_wsX90 (hts (.instantiable RX9 1) (List.mem_of_getElem? (i := 198) (by decide +kernel)))
  obtain ⟨c11, iS11, hKn11⟩ := u_known (C := RX10) (T := TX10) (N := 6) (n := 6) hts in_wsX100 (hts (.instantiable RX10 6) (List.mem_of_getElem? (i := 246) (by decide +kernel)))
  obtain ⟨c12, iS12, hKn12⟩ := u_known (C := RX11) (T := TX11) (N := 11) (n := 11) hts in_wsX110 (hts (.instantiable RX11 11) (List.mem_of_getElem? (i := 184) (by decide +kernel)))
  obtain ⟨c13, iS13, hKn13⟩ := u_known (C := RX12) (T := TX12) (N := 6) (n := 6) hts in_wsX120 (hts (.instantiable RX12 6) (List.mem_of_getElem? (i := 1554) (by decide +kernel)))
  obtain ⟨c14, iS14, hKn14⟩ := u_known (C := RX13) (T := TX13) (N := 72) (n := 72) hts in_wsX130 (hts (.instantiable RX13 72) (List.mem_of_getElem? (i := 1548) (by decide +kernel)))
  obtain ⟨cyI, hAI, hNI⟩ := arrK (ty := .int) (Or.inl rfl) (hts (.arrayClass .int) (List.mem_of_getElem? (i := 213) (by decide +kernel)))
  obtain ⟨cyB, hAB, hNB⟩ := arrK (ty := .byte) (Or.inr (Or.inl rfl)) (hts (.arrayClass .byte) (List.mem_of_getElem? (i := 970) (by decide +kernel)))
  obtain ⟨cyZ, hAZ, hNZ⟩ := arrK (ty := .boolean) (Or.inr (Or.inr rfl)) (hts (.arrayClass .boolean) (List.mem_of_getElem? (i := 1612) (by decide +kernel)))
  obtain ⟨G, hK⟩ : ∃ G : gG, va_K (gD G) vwCl (gT G) s := by
    refine ⟨(fun k => match k with | 0 => c0 | 1 => c1 | 2 => c2 | 3 => c3 | 4 => c4 | 5 => c5 | 6 => c6 | 7 => c7 | 8 => c8 | 9 => c9 | 10 => c10 | 11 => c11 | 12 => c12 | 13 => c13 | _ => c14, fun k => match k with | 0 => iS0 | 1 => iS1 | 2 => iS2 | 3 => iS3 | 4 => iS4 | 5 => iS5 | 6 => iS6 | 7 => iS7 | 8 => iS8 | 9 => iS9 | 10 => iS10 | 11 => iS11 | 12 => iS12 | 13 => iS13 | _ => iS14, cyI, cyB, cyZ), ?_, ?_⟩
    · intro k q hq
      match k, hq with
      | 0, hq => cases hq; exact hKn0
      | 1, hq => cases hq; exact hKn1
      | 2, hq => cases hq; exact hKn2
      | 3, hq => cases hq; exact hKn3
      | 4, hq => cases hq; exact hKn4
      | 5, hq => cases hq; exact hKn5
      | 6, hq => cases hq; exact hKn6
      | 7, hq => cases hq; exact hKn7
      | 8, hq => cases hq; exact hKn8
      | 9, hq => cases hq; exact hKn9
      | 10, hq => cases hq; exact hKn10
      | 11, hq => cases hq; exact hKn11
      | 12, hq => cases hq; exact hKn12
      | 13, hq => cases hq; exact hKn13
      | 14, hq => cases hq; exact hKn14
      | k + 15, hq => cases hq
    · intro k q hq
      match k, hq with
      | 0, hq => cases hq; exact ⟨hAI, hNI⟩
      | 1, hq => cases hq; exact ⟨hAB, hNB⟩
      | 2, hq => cases hq; exact ⟨hAZ, hNZ⟩
      | k + 3, hq => cases hq
  have hKN : KN s := ⟨(List.forall_mem_cons.mpr ⟨va_Nw.of rfl (hts (.fieldLinkNest "JudoHall" 92 "JudoHall$Tape" "length" "I" "JudoHall") (List.mem_of_getElem? (i := 254) (by decide +kernel))), (List.forall_mem_cons.mpr ⟨va_Nw.of rfl (hts (.fieldLinkNest "JudoHall" 125 "JudoHall$Laws" "lines" "I" "JudoHall") (List.mem_of_getElem? (i := 302) (by decide +kernel))), (List.forall_mem_cons.mpr ⟨va_Nw.of rfl (hts (.fieldLinkNest "JudoHall" 128 "JudoHall$Parser" "fault" "I" "JudoHall") (List.mem_of_getElem? (i := 345) (by decide +kernel))), (List.forall_mem_cons.mpr ⟨va_Nw.of rfl (hts (.fieldLinkNest "JudoHall" 131 "JudoHall$Parser" "place" "I" "JudoHall") (List.mem_of_getElem? (i := 343) (by decide +kernel))), (List.forall_mem_cons.mpr ⟨va_Nw.of rfl (hts (.fieldLinkNest "JudoHall" 249 "JudoHall$Laws" "time" "I" "JudoHall") (List.mem_of_getElem? (i := 294) (by decide +kernel))), (List.forall_mem_cons.mpr ⟨va_Nw.of rfl (hts (.fieldLinkNest "JudoHall" 263 "JudoHall$Laws" "signs" "I" "JudoHall") (List.mem_of_getElem? (i := 300) (by decide +kernel))), (List.forall_mem_cons.mpr ⟨va_Nw.of rfl (hts (.fieldLinkNest "JudoHall" 314 "JudoHall$Book" "entries" "I" "JudoHall") (List.mem_of_getElem? (i := 231) (by decide +kernel))), (List.forall_mem_cons.mpr ⟨va_Nw.of rfl (hts (.fieldLinkNest "JudoHall" 320 "JudoHall$Laws" "parts" "I" "JudoHall") (List.mem_of_getElem? (i := 307) (by decide +kernel))), (List.forall_mem_cons.mpr ⟨va_Nw.of rfl (hts (.fieldLinkNest "JudoHall$Floor" 68 "JudoHall$Laws" "golden" "I" "JudoHall") (List.mem_of_getElem? (i := 297) (by decide +kernel))), (List.forall_mem_cons.mpr ⟨va_Nw.of rfl (hts (.fieldLinkNest "JudoHall$Floor" 80 "JudoHall$Laws" "lines" "I" "JudoHall") (List.mem_of_getElem? (i := 304) (by decide +kernel))), (List.forall_mem_cons.mpr ⟨va_Nw.of rfl (hts (.fieldLinkNest "JudoHall$Floor" 87 "JudoHall$Laws" "points" "LJudoHall$Row;" "JudoHall") (List.mem_of_getElem? (i := 314) (by decide +kernel))), (List.forall_mem_cons.mpr ⟨va_Nw.of rfl (hts (.fieldLinkNest "JudoHall$Floor" 103 "JudoHall$Laws" "ends" "LJudoHall$Row;" "JudoHall") (List.mem_of_getElem? (i := 311) (by decide +kernel))), (List.forall_mem_cons.mpr ⟨va_Nw.of rfl (hts (.fieldLinkNest "JudoHall$Parser" 67 "JudoHall$Tape" "kind" "I" "JudoHall") (List.mem_of_getElem? (i := 257) (by decide +kernel))), (List.forall_mem_cons.mpr ⟨va_Nw.of rfl (hts (.fieldLinkNest "JudoHall$Parser" 74 "JudoHall$Tape" "from" "I" "JudoHall") (List.mem_of_getElem? (i := 259) (by decide +kernel))), (List.forall_mem_cons.mpr ⟨va_Nw.of rfl (hts (.fieldLinkNest "JudoHall$Parser" 121 "JudoHall$Tape" "value" "I" "JudoHall") (List.mem_of_getElem? (i := 262) (by decide +kernel))), (List.forall_mem_cons.mpr ⟨va_Nw.of rfl (hts (.fieldLinkNest "JudoHall$Parser" 124 "JudoHall$Laws" "time" "I" "JudoHall") (List.mem_of_getElem? (i := 293) (by decide +kernel))), (List.forall_mem_cons.mpr ⟨va_Nw.of rfl (hts (.fieldLinkNest "JudoHall$Parser" 127 "JudoHall$Laws" "golden" "I" "JudoHall") (List.mem_of_getElem? (i := 296) (by decide +kernel))), (List.forall_mem_cons.mpr ⟨va_Nw.of rfl (hts (.fieldLinkNest "JudoHall$Parser" 130 "JudoHall$Laws" "signs" "I" "JudoHall") (List.mem_of_getElem? (i := 299) (by decide +kernel))), (List.forall_mem_cons.mpr ⟨va_Nw.of rfl (hts (.fieldLinkNest "JudoHall$Parser" 136 "JudoHall$Laws" "points" "LJudoHall$Row;" "JudoHall") (List.mem_of_getElem? (i := 313) (by decide +kernel))), (List.forall_mem_cons.mpr ⟨va_Nw.of rfl (hts (.fieldLinkNest "JudoHall$Parser" 139 "JudoHall$Laws" "lines" "I" "JudoHall") (List.mem_of_getElem? (i := 303) (by decide +kernel))), (List.forall_mem_cons.mpr ⟨va_Nw.of rfl (hts (.fieldLinkNest "JudoHall$Parser" 175 "JudoHall$Laws" "parts" "I" "JudoHall") (List.mem_of_getElem? (i := 306) (by decide +kernel))), (fun _ h => absurd h List.not_mem_nil)⟩)⟩)⟩)⟩)⟩)⟩)⟩)⟩)⟩)⟩)⟩)⟩)⟩)⟩)⟩)⟩)⟩)⟩)⟩)⟩)⟩), List.forall_mem_cons.mpr ⟨va_Nw.of rfl (hts (.methodLinkNest "JudoHall$Board" 55 yX11_isClass "JudoHall") (List.mem_of_getElem? (i := 1218) (by decide +kernel))), fun _ h => absurd h List.not_mem_nil⟩⟩
  have hB : KB G s := ⟨hK, hKN⟩
  have hsf := flat_of_before _ hgv
  obtain ⟨A, hAe⟩ : ∃ A : Nat → Prop, A = fun q => s.heap.size ≤ q := ⟨_, rfl⟩
  have hA : ∀ q : Nat, s.heap.size ≤ q → A q := fun q h => by rw [hAe]; exact h
  have hAl : ∀ q : Nat, A q → s.heap.size ≤ q := fun q h => by rw [hAe] at h; exact h
  have hAn : ∀ a : Nat, a < s.heap.size → ¬ A a := fun a h z => absurd (hAl a z) (Nat.not_le.mpr h)
  have hbA : ¬ A b := hAn b hbl
  obtain ⟨Z, mi, hE, hLE⟩ := start_facts (A := #[Value.ref b]) (X := A) hsf hts hAn
  have hXX : lX p c s m b A G Z mi L xs := ⟨hx, hb, hml, hown, hts, hB, hE, hLE, hA, hX, hbl, hbA⟩
  have hl := lv_entry ([.ref b]) (n := 4) (Nat.le_of_ble_eq_true rfl)
  rw [lg_entry_eq]
  generalize (lg_sl ([.ref b]) ++ List.replicate (4 - (lg_sl ([.ref b])).length) Slot.unset).toArray = ls at hl ⊢
  have hl : lv_has ls 4 [(0, .ref b)] := hl
  refine st_jh hXX hl (fun Q D T1 P H locs ls hP0 hT hPw hDw hS hl => ?_)
  refine st_mo hP0 (by omega) (by omega) hXX hl hPw hDw hS (fun Qm v H locs ls hL0 hP2 hD2 hS hl => ?_)
  have hH : bH G Q D (tlC Z Q 0 0 none ++ T1) u0c (nQ Qm) v.1 A s H locs := by
    have hP3 := hP2
    have hD3 := hD2
    rw [← mW_nQ G Qm v.1] at hP3 hD3
    exact bH.back hP3 hD3 hS
  refine law_loop (q1 := Q 0) (q3 := Qm 72) hXX hr hlocks hL hAl 513 0 _ _ _ _ ls (by omega) (by omega) hl ?_
  refine ⟨Q, D, 0, none, T1, P, [], u0c, 0, 0, 512, 0, 0, nQ Qm, v, rfl, rfl, nQ_ok Qm, hH, hT, Nat.zero_le _, ?_, fun x hx => absurd hx List.not_mem_nil, cs_u0, by omega, tp_u0, by omega, by omega, hL0, by omega, by omega⟩
  rw [hP0]
  show (0 : Int32).toInt ≤ bB
  decide
set_option maxHeartbeats 4000000 in
theorem lw_walk (l : Launch) (b : Addr) (xs : List Int32) : MetFree l x (headSpec (Jvm.Cond.code x code maxLocals ret :: tables_1) room_1) (lw_P b xs) (fun _ _ _ _ _ => True) lw_Q := by
  refine MetFree.of_bodyS (code := code) (maxLocals := maxLocals) (ret := ret) (by decide) ?_ ?_
  · intro args s m h hn
    obtain ⟨meth, c, h1, h2, h3, h4, h5, h6, -, -⟩ := Cond.code_spec hn (atoms_spec (ws := Jvm.Cond.code x code maxLocals ret :: tables_1) h _ List.mem_cons_self)
    exact ⟨meth, c, h1, h2, h3, h4, h5, h6⟩
  · intro p e s m args below meth c s₁ B hml0 hP _
    obtain ⟨rfl, hx, hbd, hgv⟩ := hP
    obtain ⟨scr, harrAt, hlist, hof, hsmall⟩ := hx
    obtain ⟨hcb, hkn, -, -⟩ := State.arrayAt?_spec harrAt
    have hown : s.vm.findClass R_law = some m.cls := findClass_of_methodNamed B.named
    have hts0 : ∀ c ∈ (Jvm.Cond.code x code maxLocals ret :: tables_1), c.before #[Value.ref b] s = true := atoms_spec (ws := Jvm.Cond.code x code maxLocals ret :: tables_1) B.pre
    have hts : ∀ w ∈ lw_tbl, w.before #[Value.ref b] s = true := k2_hts_sels lw_privs (fun w hw => hts0 w (List.mem_cons_of_mem _ hw)) lw_privs_ok
    have hml : c.maxLocals = 4 := B.maxLocals_eq (hts0 _ List.mem_cons_self)
    have X₀ : Stand p l e room_1 s m #[Value.ref b] below meth c s₁ [] 0 0 := Stand.of_body B
    have hh0 : s₁.heap = s.heap := by rw [B.state]; rfl
    have hsz : scr.slots.size = xs.length := by rw [← Array.length_toList, hlist, List.length_map]
    have hval : ∀ j : Nat, j < xs.length → scr.slots[j]? = some (.int (xs.getD j 0)) := fun j hj => by
      rw [← Array.getElem?_toList, hlist]
      simp [hj]
    have hbl : b < s.heap.size := (Array.getElem?_eq_some_iff.mp hcb).1
    have hX : va_X b xs.length (fun j => xs.getD j 0) s s.heap := ⟨scr, hcb, hof, hkn, hsz, hval⟩
    have K : W p l e room_1 s m #[Value.ref b] below meth c s₁.heap [] 0 0 (lw_Z below #[Value.ref b] s) (entryFrame m ([Value.ref b] : List Value).toArray 4) := by
      rw [hh0]
      exact whole_start l hbd ⟨B.exec, B.bytes, B.returns, hml, hown, hts, hX, hbl, B.notSynchronized, hgv⟩
    obtain ⟨t, a1, o, b1, b2, b3⟩ := K s₁ rfl X₀
    exact ⟨t, o, a1, b1, b2, b3⟩
theorem lw_pre_spec {args : Array Value} {s : State} (h : (Jvm.Cond.and given_1 narrow_1).before args s = true) (hr : rest_1_c.before args s = true) : ∃ (b : Addr) (xs : List Int32), lw_P b xs args s := by
  have hs := flat_of_before _ h
  have hq := flat_of_before _ hr
  have hc : (Cond.count 1).before args s = true := hs _ (by decide +kernel)
  have harr : (Cond.arrayOf (.arg 0) .int).before args s = true := hs _ (by decide +kernel)
  have hle : (Cond.le (.length (.arg 0)) (.int 3072)).before args s = true := hs _ (by decide +kernel)
  have hlen : (Cond.isInt (.length (.arg 0))).before args s = true := hq _ (by decide +kernel)
  have hall : (Cond.all (.arg 0) (.isInt (.elem (.arg 0) (.index 0)))).before args s = true := hq _ (by decide +kernel)
  obtain ⟨b, xs, hb, hx⟩ := State.ints_of_pre rfl harr hlen hall
  have hsm : xs.length < 2 ^ 31 := hx.choose_spec.2.2.2
  have hev : (Term.length (.arg 0)).eval args s none [] s = some (.int xs.length.toInt32) := hx.length_eval hb
  have hv := Cond.le_ints hev (show (Term.int 3072).eval args s none [] s = some (.int 3072) from rfl)
  have hd : xs.length.toInt32 ≤ 3072 := by
    simpa [Cond.before, Cond.holds, hv] using hle
  have hN : xs.length ≤ 3072 := (Int32.ofNat_le_ofNat hsm (by decide)).mp (show Int32.ofNat xs.length ≤ Int32.ofNat 3072 from hd)
  exact ⟨b, xs, Cond.one_arg hc (show args[0]? = some (.ref b) from hb), hx, hN, h⟩
theorem lw_comes (l : Launch) : Comes l x (Jvm.Cond.code x code maxLocals ret :: tables_1) room_1 (fun tb e args s => Calls_1 tb e args s ∧ rest_1 tb e args s ∧ Pre_1 tb e args s)
    (fun _ _ args s o t => lw_Q args s o t) := by
  intro p e ha hc hk s m args below hf hfit hheap happ hpre
  obtain ⟨b, xs, hP⟩ := lw_pre_spec hpre.2.2 hpre.2.1
  obtain ⟨k, o, h1, h2, h3, hQ⟩ := lw_walk l b xs p e ha hc hk s m args below hf ((Spec.applies_iff_loose hf).mp happ).1 hP trivial
  exact ⟨k, o, h1, h2, h3, hQ⟩
theorem lw_frame {s t : State} {o : Outcome} {args : Array Value} (h : Framed s o t [] 601024 7293033) :
    Framed s o t (fieldLocs frame_1_writes args s ++ arrayLocs frame_1_arrays args s ++ staticLocs frame_1_statics s) 601024 7293033 := h
theorem lw_limb (L : Cond) (hL : ∀ (args : Array Value) (s t : State), L.after args s (.returned (some (.int 1))) t = true) :
    ArmFor flags0 classFile x code maxLocals ret World_1 tables_1 room_1 Calls_1 rest_1 Pre_1
      (fun tb e a s o t => postC L tb e a s o t ∧ Framed s o t (fieldLocs frame_1_writes a s ++ arrayLocs frame_1_arrays a s ++ staticLocs frame_1_statics s) 601024 7293033) := by
  intro l _ _ _ p e ha hc hk s m args below hf hfit hheap happ hpre
  obtain ⟨k, o, h1, h2, h3, rfl, hF⟩ := lw_comes l p e ha hc hk s m args below hf hfit hheap happ hpre
  exact ⟨k, _, h1, h2, h3, hL args s _, lw_frame hF⟩
theorem i_vc : Claimed_1_1 ∧ Claimed_1_2 := ⟨lw_limb limb_1_1 (fun args s t => by simp [limb_1_1, Cond.after, Cond.holds, Cond.value]), lw_limb limb_1_2 (fun args s t => Cond.after_iff.mpr (by
  first | (rw [show limb_1_2 = Cond.eq .result (.int 1) from rfl, Cond.eq_ints (x := 1) (y := 1) rfl rfl]; simp; done) | (simp [limb_1_2, Cond.value, Term.eval]; done)))⟩

