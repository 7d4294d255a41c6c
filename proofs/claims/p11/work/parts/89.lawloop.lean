def R_law : String := "JudoHallLaw"
def lw_P (b : Addr) (xs : List Int32) (args : Array Value) (s : State) : Prop := args = #[.ref b] ∧ s.IntsAt b xs ∧ xs.length ≤ 3072 ∧ (Jvm.Cond.and given_1 narrow_1).before args s = true
def lw_Q (_ : Array Value) (s : State) (o : Outcome) (t : State) : Prop := o = .returned (some (.int 1)) ∧ Framed s o t [] 601024 7293033
def lw_Z (below : List Frame) (a : Array Value) (s : State) : State → Prop := fun t => ∃ o, t.status = .running ∧ Ended t below o ∧ lw_Q a s o t
/-- the law's own end, with 1 on the stack, nothing written that was there before, its room as the claim has it -/
theorem lw_ret {p : Program} {l : Launch} {e : Env} {s : State} {m : MethodId} {below : List Frame} {meth : Method} {c : Code} {b : Nat} (hx : p.tables.exec = Jvm.exec) (hb : c.code = code) (hr : meth.sig.returnType = ret) (hlocks : meth.locks = false) {pc : Nat} {H : Heap} {ls : Array Slot} (hdg : decode code pc = .ok (.ireturn, 1)) : W p l e room_1 s m #[Value.ref b] below meth c H [] 601024 7293033 (lw_Z below #[Value.ref b] s) (F0 m pc ls [.int 1]) := by
  intro T hT X
  obtain ⟨fs, hret, hrun, hended, hW, hframe⟩ := X.leave (v := some (.int 1)) (hlocks := hlocks) (fun h => by rw [hr] at h; cases h)
  have hmeth' : T.vm.method? m = some meth := X.method'
  refine ⟨T.setFrames fs, ?_, .returned (some (.int 1)), hrun, hended, rfl, ⟨_, rfl⟩, hW, hframe⟩
  jvm_step X.here [X.here.top, hx, hb, hdg, hmeth', hr, ret, narrow_b1]
  (try refine ⟨rfl, ?_⟩); (try refine ⟨rfl, ?_⟩)
  first | (intro acts; rw [hret _ acts rfl rfl rfl]) | rw [hret _ _ rfl rfl rfl]
  exact Steps.refl _
/-- what holds at the law's entry: the machine, the code, the tables' words (any of lw_tbl by 'hts w (by decide +kernel)'), the script of L ints xs at the cell b, what the Statement gives of the start (any of its parts by flat_of_before) -/
def lw_At (p : Program) (s : State) (m : MethodId) (meth : Method) (c : Code) (b L : Nat) (xs : Nat → Int32) : Prop :=
  p.tables.exec = Jvm.exec ∧ c.code = code ∧ meth.sig.returnType = ret ∧ c.maxLocals = 4 ∧ s.vm.findClass R_law = some m.cls ∧ (∀ w ∈ lw_tbl, w.before #[Value.ref b] s = true) ∧ va_X b L xs s s.heap ∧ b < s.heap.size ∧ meth.locks = false ∧ (Jvm.Cond.and given_1 narrow_1).before #[Value.ref b] s = true
theorem gx_nb0 {w : Int32} (h : w < 0) : w.toInt < 0 := by
  rw [Int32.lt_iff_toInt_lt, i32_0] at h
  exact h
theorem gx_nb25 {w : Int32} (h : (25 : Int32) ≤ w) : (24 : Int) < w.toInt := by
  rw [Int32.le_iff_toInt_le] at h
  have e : (25 : Int32).toInt = 25 := by decide
  omega
theorem gx_c25 {w : Int32} (h0 : ¬ w < 0) (h1 : ¬ (25 : Int32) ≤ w) : w = 0 ∨ w = 1 ∨ w = 2 ∨ w = 3 ∨ w = 4 ∨ w = 5 ∨ w = 6 ∨ w = 7 ∨ w = 8 ∨ w = 9 ∨ w = 10 ∨ w = 11 ∨ w = 12 ∨ w = 13 ∨ w = 14 ∨ w = 15 ∨ w = 16 ∨ w = 17 ∨ w = 18 ∨ w = 19 ∨ w = 20 ∨ w = 21 ∨ w = 22 ∨ w = 23 ∨ w = 24 := by
  obtain ⟨j, hj, rfl⟩ := nI_of h0
  have h2 : j < 25 := Nat.not_le.mp (fun h => h1 (nI_le h hj))
  rcases (show j = 0 ∨ j = 1 ∨ j = 2 ∨ j = 3 ∨ j = 4 ∨ j = 5 ∨ j = 6 ∨ j = 7 ∨ j = 8 ∨ j = 9 ∨ j = 10 ∨ j = 11 ∨ j = 12 ∨ j = 13 ∨ j = 14 ∨ j = 15 ∨ j = 16 ∨ j = 17 ∨ j = 18 ∨ j = 19 ∨ j = 20 ∨ j = 21 ∨ j = 22 ∨ j = 23 ∨ j = 24 by omega) with rfl | rfl | rfl | rfl | rfl | rfl | rfl | rfl | rfl | rfl | rfl | rfl | rfl | rfl | rfl | rfl | rfl | rfl | rfl | rfl | rfl | rfl | rfl | rfl | rfl <;> decide
section LAWL
variable {p : Program} {l : Launch} {e : Env} {s : State} {m : MethodId} {b : Nat} {below : List Frame} {meth : Method} {c : Code} {H : Heap} {locs : List Loc} {Q' : State → Prop} {cells slots N q1 q3 : Nat} {ls : Array Slot} {G : gG} {Z : gC} {mi L : Nat} {xs : Nat → Int32} {A : Nat → Prop}
set_option maxHeartbeats 4000000 in
set_option maxRecDepth 100000 in
theorem law_step (hX : lX p c s m b A G Z mi L xs) (hlocks : meth.locks = false) (hL : L ≤ 3072) (hl : lv_has ls 4 [(3, .int (nI (6 * N))), (2, .ref q3), (1, .ref q1), (0, .ref b)]) (hN : 6 * N + 6 ≤ L) (h : LI G Z s A q1 q3 N H locs cells slots) (kk : ∀ (H1 : Heap) (locs1 : List Loc) (c1 s1 : Nat), LI G Z s A q1 q3 (N + 1) H1 locs1 c1 s1 → W p l e room_1 s m #[Value.ref b] below meth c H1 locs1 c1 s1 Q' (F0 m 953 ls [])) : W p l e room_1 s m #[Value.ref b] below meth c H locs cells slots Q' (F0 m 27 ls []) := by
  have hS : va_S A s.heap H locs := by
    obtain ⟨Q, D, mc, o, T1, P, LW, u, n, ch, C, tp, M, Qm, v, h1, h2, hQ, hH, -⟩ := h
    exact hH.2.2
  obtain ⟨hx, hb, -, -, -, -, -, -, -, hXx, hbl, hbA⟩ := id hX
  refine lv_aload_n hx hb dL_law_27 rfl (lv_at hl 3 rfl) ?_
  refine lv_iload_n hx hb dL_law_28 rfl (lv_at hl 0 rfl) ?_
  refine va_sld hx hb hXx hbl hbA hS (vp_in_nI (by omega) (by omega)) dL_law_29 ?_
  refine lv_bipush (v := 31) hx hb dL_law_30 (by decide) ?_
  refine lv_iand hx hb dL_law_32 ?_
  generalize xs (nI (6 * N)).toNatClampNeg &&& 31 = w
  by_cases c5 : w < 0
  · exact lv_tableOut (tgt := 953) hx hb dL_law_33 (Or.inl (gx_nb0 c5)) (by decide) (kk _ _ _ _ h.up)
  by_cases c6 : (25 : Int32) ≤ w
  · exact lv_tableOut (tgt := 953) hx hb dL_law_33 (Or.inr (gx_nb25 c6)) (by decide) (kk _ _ _ _ h.up)
  rcases gx_c25 c5 c6 with h0 | h1 | h2 | h3 | h4 | h5 | h6 | h7 | h8 | h9 | h10 | h11 | h12 | h13 | h14 | h15 | h16 | h17 | h18 | h19 | h20 | h21 | h22 | h23 | h24
  · exact gx_ti h0 (lv_tableIn (off := 115) (tgt := 148) hx hb dL_law_33 (by decide) (by decide) rfl (by decide) (law_feed hX hlocks hL hl hN h kk))
  · exact gx_ti h1 (lv_tableIn (off := 178) (tgt := 211) hx hb dL_law_33 (by decide) (by decide) rfl (by decide) (law_end hX hlocks hL hl hN h kk))
  · exact gx_ti h2 (lv_tableIn (off := 201) (tgt := 234) hx hb dL_law_33 (by decide) (by decide) rfl (by decide) (law_laws hX hlocks hL hl hN h kk))
  · exact gx_ti h3 (lv_tableIn (off := 214) (tgt := 247) hx hb dL_law_33 (by decide) (by decide) rfl (by decide) (law_fault hX hlocks hL hl hN h kk))
  · exact gx_ti h4 (lv_tableIn (off := 237) (tgt := 270) hx hb dL_law_33 (by decide) (by decide) rfl (by decide) (law_limit hX hlocks hL hl hN h kk))
  · exact gx_ti h5 (lv_tableIn (off := 280) (tgt := 313) hx hb dL_law_33 (by decide) (by decide) rfl (by decide) (law_enter hX hlocks hL hl hN h kk))
  · exact gx_ti h6 (lv_tableIn (off := 313) (tgt := 346) hx hb dL_law_33 (by decide) (by decide) rfl (by decide) (law_weigh hX hlocks hL hl hN h kk))
  · exact gx_ti h7 (lv_tableIn (off := 346) (tgt := 379) hx hb dL_law_33 (by decide) (by decide) rfl (by decide) (law_seed hX hlocks hL hl hN h kk))
  · exact gx_ti h8 (lv_tableIn (off := 379) (tgt := 412) hx hb dL_law_33 (by decide) (by decide) rfl (by decide) (law_draw hX hlocks hL hl hN h kk))
  · exact gx_ti h9 (lv_tableIn (off := 402) (tgt := 435) hx hb dL_law_33 (by decide) (by decide) rfl (by decide) (law_fighter hX hlocks hL hl hN h kk))
  · exact gx_ti h10 (lv_tableIn (off := 435) (tgt := 468) hx hb dL_law_33 (by decide) (by decide) rfl (by decide) (law_about hX hlocks hL hl hN h kk))
  · exact gx_ti h11 (lv_tableIn (off := 468) (tgt := 501) hx hb dL_law_33 (by decide) (by decide) rfl (by decide) (law_fight hX hlocks hL hl hN h kk))
  · exact gx_ti h12 (lv_tableIn (off := 511) (tgt := 544) hx hb dL_law_33 (by decide) (by decide) rfl (by decide) (law_now hX hlocks hL hl hN h kk))
  · exact gx_ti h13 (lv_tableIn (off := 534) (tgt := 567) hx hb dL_law_33 (by decide) (by decide) rfl (by decide) (law_rest hX hlocks hL hl hN h kk))
  · exact gx_ti h14 (lv_tableIn (off := 557) (tgt := 590) hx hb dL_law_33 (by decide) (by decide) rfl (by decide) (law_begin hX hlocks hL hl hN h kk))
  · exact gx_ti h15 (lv_tableIn (off := 600) (tgt := 633) hx hb dL_law_33 (by decide) (by decide) rfl (by decide) (law_event hX hlocks hL hl hN h kk))
  · exact gx_ti h16 (lv_tableIn (off := 643) (tgt := 676) hx hb dL_law_33 (by decide) (by decide) rfl (by decide) (law_tick hX hlocks hL hl hN h kk))
  · exact gx_ti h17 (lv_tableIn (off := 676) (tgt := 709) hx hb dL_law_33 (by decide) (by decide) rfl (by decide) (law_decide hX hlocks hL hl hN h kk))
  · exact gx_ti h18 (lv_tableIn (off := 709) (tgt := 742) hx hb dL_law_33 (by decide) (by decide) rfl (by decide) (law_mat hX hlocks hL hl hN h kk))
  · exact gx_ti h19 (lv_tableIn (off := 742) (tgt := 775) hx hb dL_law_33 (by decide) (by decide) rfl (by decide) (law_strike hX hlocks hL hl hN h kk))
  · exact gx_ti h20 (lv_tableIn (off := 775) (tgt := 808) hx hb dL_law_33 (by decide) (by decide) rfl (by decide) (law_medal hX hlocks hL hl hN h kk))
  · exact gx_ti h21 (lv_tableIn (off := 808) (tgt := 841) hx hb dL_law_33 (by decide) (by decide) rfl (by decide) (law_plan hX hlocks hL hl hN h kk))
  · exact gx_ti h22 (lv_tableIn (off := 841) (tgt := 874) hx hb dL_law_33 (by decide) (by decide) rfl (by decide) (law_planned hX hlocks hL hl hN h kk))
  · exact gx_ti h23 (lv_tableIn (off := 884) (tgt := 917) hx hb dL_law_33 (by decide) (by decide) rfl (by decide) (law_undo hX hlocks hL hl hN h kk))
  · exact gx_ti h24 (lv_tableIn (off := 897) (tgt := 930) hx hb dL_law_33 (by decide) (by decide) rfl (by decide) (law_count hX hlocks hL hl hN h kk))
theorem law_sub {a b : Nat} (ha : a < 2 ^ 30) (hb : b < 2 ^ 30) (h : a < b + 6) : nI a - nI 6 < nI b := by
  rcases Nat.lt_or_ge a 6 with z | z
  · have h1 : nI a - nI 6 < 0 := pk_sneg (by decide) z
    have h2 : (0 : Int32) ≤ nI b := Int32.not_lt.mp (nI_nn (by omega))
    rw [Int32.lt_iff_toInt_lt] at h1 ⊢
    rw [Int32.le_iff_toInt_le] at h2
    omega
  · rw [nI_sub z]
    exact nI_lt (by omega) (by omega)
set_option maxHeartbeats 4000000 in
set_option maxRecDepth 100000 in
theorem law_loop (hX : lX p c s m b A G Z mi L xs) (hr : meth.sig.returnType = ret) (hlocks : meth.locks = false) (hL : L ≤ 3072) (hAl : ∀ q : Nat, A q → s.heap.size ≤ q) : ∀ (k N : Nat) (H : Heap) (locs : List Loc) (cells slots : Nat) (ls : Array Slot), L < 6 * N + 6 * k → N ≤ 512 → lv_has ls 4 [(3, .int (nI (6 * N))), (2, .ref q3), (1, .ref q1), (0, .ref b)] → LI G Z s A q1 q3 N H locs cells slots → W p l e room_1 s m #[Value.ref b] below meth c H locs cells slots (lw_Z below #[Value.ref b] s) (F0 m 18 ls []) := by
  obtain ⟨hx, hb, -, -, -, -, -, -, -, hXx, hbl, hbA⟩ := id hX
  have ex : ∀ (N : Nat) (H : Heap) (locs : List Loc) (cells slots : Nat) (ls : Array Slot), L < 6 * N + 6 → N ≤ 512 → lv_has ls 4 [(3, .int (nI (6 * N))), (2, .ref q3), (1, .ref q1), (0, .ref b)] → LI G Z s A q1 q3 N H locs cells slots → W p l e room_1 s m #[Value.ref b] below meth c H locs cells slots (lw_Z below #[Value.ref b] s) (F0 m 18 ls []) := fun N H locs cells slots ls hlt hN hl h => by
    obtain ⟨Q, D, mc, o, T1, P, LW, u, n, ch, C, tp, M, Qm, v, h1, h2, hQ, hH, hT, hLW, hPb, hWb, hSs, hch, htp, htp3, hM, hLv, hce, hsl⟩ := h
    have hC := hSs.1.C
    have hS := hH.2.2
    refine lv_iload_n hx hb dL_law_18 rfl (lv_at hl 0 rfl) ?_
    refine lv_aload_n hx hb dL_law_19 rfl (lv_at hl 3 rfl) ?_
    refine va_slen hx hb hXx hbl hbA hS dL_law_20 ?_
    refine lv_bipush (v := nI 6) hx hb dL_law_21 (by decide) ?_
    refine lv_isub hx hb dL_law_23 ?_
    refine lv_icmp_gt (tgt := 959) hx hb dL_law_24 (by decide) (fun _ => ?_) (fun c9 => absurd (law_sub (a := L) (b := 6 * N) (by omega) (by omega) (by omega)) c9)
    refine lv_iconst (v := 1) hx hb dL_law_959 (by decide) ?_
    refine va_forget (fun q hq => hAl q.base (hS.2.2 q hq)) ?_
    refine W.widen (k := 601024) (n := 7293033) (by omega) (by omega) ?_
    exact lw_ret hx hb hr hlocks dL_law_960
  intro k
  induction k with
  | zero => exact fun N H locs cells slots ls hlt hN hl h => ex N H locs cells slots ls (by omega) hN hl h
  | succ k ih =>
    intro N H locs cells slots ls hlt hN hl h
    rcases Nat.lt_or_ge L (6 * N + 6) with z | z
    · exact ex N H locs cells slots ls z hN hl h
    · have hS : va_S A s.heap H locs := by
        obtain ⟨Q, D, mc, o, T1, P, LW, u, n, ch, C, tp, M, Qm, v, h1, h2, hQ, hH, -⟩ := h
        exact hH.2.2
      refine lv_iload_n hx hb dL_law_18 rfl (lv_at hl 0 rfl) ?_
      refine lv_aload_n hx hb dL_law_19 rfl (lv_at hl 3 rfl) ?_
      refine va_slen hx hb hXx hbl hbA hS dL_law_20 ?_
      refine lv_bipush (v := nI 6) hx hb dL_law_21 (by decide) ?_
      refine lv_isub hx hb dL_law_23 ?_
      refine lv_icmp_gt (tgt := 959) hx hb dL_law_24 (by decide) (fun c9 => ?_) (fun _ => ?_)
      · have e9 : nI L - nI 6 = nI (L - 6) := nI_sub (by omega)
        have c8 : nI L - nI 6 < nI (6 * N) := c9
        rw [e9] at c8
        exact absurd c8 (Int32.not_lt.mpr (nI_le (by omega) (by omega)))
      · refine law_step hX hlocks hL hl z h (fun H1 locs1 c1 s1 h1 => ?_)
        refine lv_iinc (v := nI (6 * (N + 1))) (lv' := [(3, .int (nI (6 * (N + 1)))), (2, .ref q3), (1, .ref q1), (0, .ref b)]) hx hb dL_law_953 hl (k := 0) rfl ?_ (by decide) rfl (fun ls hl => ?_)
        · have e6 : Int32.ofInt 6 = nI 6 := by decide
          rw [e6, nI_add]
          rfl
        · refine lv_goto (tgt := 18) hx hb dL_law_956 (by decide) ?_
          exact ih (N + 1) H1 locs1 c1 s1 ls (by omega) (by omega) hl h1
end LAWL
