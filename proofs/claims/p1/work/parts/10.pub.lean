theorem gx_z {x : Int32} (h0 : ¬ x < 0) (h1 : x ≤ 0) : x = 0 := Int32.le_antisymm h1 (Int32.not_lt.mp h0)
def wo_q_feed : List Cond := [.fieldLink RX11 19 "JudoHall" "tape" "LJudoHall$Tape;", .methodLink RX11 96 yX10_push, .instanceMethod yX10_push, .selects RX10 yX10_push yX10_push, .initialized RX10]
def wq_q_feed : List Cond := .code yX11_feed cX11_feed 6 (some .int) :: (wo_q_feed ++ (wsX110 ++ (wsX100 ++ (wq_c_push ++ []))))
theorem gd_q_feed : ∀ w ∈ wq_q_feed, Gd w := List.forall_mem_cons.mpr ⟨Or.inl rfl, List.forall_mem_append.mpr ⟨gdl wo_q_feed (by decide +kernel), (List.forall_mem_append.mpr ⟨gd_wsX110, (List.forall_mem_append.mpr ⟨gd_wsX100, (List.forall_mem_append.mpr ⟨gd_c_push, (fun _ h => absurd h List.not_mem_nil)⟩)⟩)⟩)⟩⟩
theorem in_q_feed : ∀ w ∈ wq_q_feed, w ∈ lw_tbl := List.forall_mem_cons.mpr ⟨List.mem_of_getElem? (i := 592) (by decide +kernel), List.forall_mem_append.mpr ⟨inT wo_q_feed [556, 593, 594, 595, 159] (by decide +kernel), (List.forall_mem_append.mpr ⟨in_wsX110, (List.forall_mem_append.mpr ⟨in_wsX100, (List.forall_mem_append.mpr ⟨in_c_push, (fun _ h => absurd h List.not_mem_nil)⟩)⟩)⟩)⟩⟩
set_option maxHeartbeats 4000000 in
set_option maxRecDepth 100000 in
theorem q_feed (l : Launch) (G : gG) (jh : Nat) (bk : Nat) (tp : Nat) (ps : Nat) (rl : Nat) (u1 : Value) (bd : Nat) (fr : Nat) (u2 : Value) (pn : Nat) (nl : Nat) (u3 : Value) (ty : Nat) (ty2 : Nat) (x : Int32) (y : Int32) (z : Int32) (z2 : Int32) (z3 : Int32) (sz : Nat) : Met l yX11_feed wq_q_feed ({ frames := 2, cells := 0, slots := 0, locals := 44 }) (va_Pc [.ref jh, .int x, .int y, .int z, .int z2, .int z3] (mP G [(jh, .inr (12, [.ref bk, .ref tp, .ref ps, .ref rl, u1, .ref bd, .ref fr, u2, .ref pn, .ref nl, u3])), (tp, .inr (11, [.ref ty, .int 0, .int 0, .int 0, .int 0, .int 0])), (ty, .inr (10, [.ref ty2])), (ty2, .inl (gI G, 3000, .inl (fl 3000 0 (fun _ => 0))))] sz)) (va_Qi (fun (r : Int32) (_ : Unit) => r = 20) (fun (_ : Unit) (t : State) => va_P (gD G) vwCl [] t.heap ∧ va_D (va_A [(jh, .inr (12, [.ref bk, .ref tp, .ref ps, .ref rl, u1, .ref bd, .ref fr, u2, .ref pn, .ref nl, u3])), (tp, .inr (11, [.ref ty, .int 0, .int 0, .int 0, .int 0, .int 0])), (ty, .inr (10, [.ref ty2])), (ty2, .inl (gI G, 3000, .inl (fl 3000 0 (fun _ => 0))))] sz) []) (va_A [(jh, .inr (12, [.ref bk, .ref tp, .ref ps, .ref rl, u1, .ref bd, .ref fr, u2, .ref pn, .ref nl, u3])), (tp, .inr (11, [.ref ty, .int 0, .int 0, .int 0, .int 0, .int 0])), (ty, .inr (10, [.ref ty2])), (ty2, .inl (gI G, 3000, .inl (fl 3000 0 (fun _ => 0))))] sz)) 0 0 (va_A [(jh, .inr (12, [.ref bk, .ref tp, .ref ps, .ref rl, u1, .ref bd, .ref fr, u2, .ref pn, .ref nl, u3])), (tp, .inr (11, [.ref ty, .int 0, .int 0, .int 0, .int 0, .int 0])), (ty, .inr (10, [.ref ty2])), (ty2, .inl (gI G, 3000, .inl (fl 3000 0 (fun _ => 0))))] sz) := by
  refine Met.ofW (cc := cX11_feed) (maxL := 6) (ret := (some .int)) (by decide) rfl ?_
  intro p e s m args below meth c s₁ B hml hv
  obtain ⟨rfl, hsz, hP, hB, hD0⟩ := hv
  have hx := B.exec
  have hb := B.bytes
  have hr := B.returns
  have hts := atoms_spec (ws := wq_q_feed) B.pre
  have hown : s.vm.findClass RX11 = some m.cls := findClass_of_methodNamed B.named
  have hlocks := B.notSynchronized
  have hK := hB.1
  subst hsz
  have hD := hD0.self (sz := s.heap.size)
  generalize hAe : va_A [(jh, .inr (12, [.ref bk, .ref tp, .ref ps, .ref rl, u1, .ref bd, .ref fr, u2, .ref pn, .ref nl, u3])), (tp, .inr (11, [.ref ty, .int 0, .int 0, .int 0, .int 0, .int 0])), (ty, .inr (10, [.ref ty2])), (ty2, .inl (gI G, 3000, .inl (fl 3000 0 (fun _ => 0))))] s.heap.size = A at hD ⊢
  have hA : ∀ q : Nat, s.heap.size ≤ q → A q := fun q h => by rw [← hAe]; exact Or.inr h
  have hS : va_S A s.heap s.heap [] := va_S.rf
  have hP : va_P (gD G) vwCl [(jh, .inr (12, [.ref bk, .ref tp, .ref ps, .ref rl, u1, .ref bd, .ref fr, u2, .ref pn, .ref nl, u3])), (tp, .inr (11, [.ref ty, .int 0, .int 0, .int 0, .int 0, .int 0])), (ty, .inr (10, [.ref ty2])), (ty2, .inl (gI G, 3000, .inl (fl 3000 0 (fun _ => 0))))] s.heap := hP
  have hD : va_D A [(jh, .inr (12, [.ref bk, .ref tp, .ref ps, .ref rl, u1, .ref bd, .ref fr, u2, .ref pn, .ref nl, u3])), (tp, .inr (11, [.ref ty, .int 0, .int 0, .int 0, .int 0, .int 0])), (ty, .inr (10, [.ref ty2])), (ty2, .inl (gI G, 3000, .inl (fl 3000 0 (fun _ => 0))))] := hD
  have hl := lv_entry ([.ref jh, .int x, .int y, .int z, .int z2, .int z3]) (n := 6) (Nat.le_of_ble_eq_true rfl)
  rw [lg_entry_eq]
  generalize (lg_sl ([.ref jh, .int x, .int y, .int z, .int z2, .int z3]) ++ List.replicate (6 - (lg_sl ([.ref jh, .int x, .int y, .int z, .int z2, .int z3])).length) Slot.unset).toArray = ls at hl ⊢
  have hl : lv_has ls 6 [(0, .ref jh), (1, .int x), (2, .int y), (3, .int z), (4, .int z2), (5, .int z3)] := hl
  refine lv_aload_n hx hb dX11_feed_0 rfl (lv_at hl 0 rfl) ?_
  refine va_get (D := gD G) (ci := 12) (v := .ref tp) (C := RX11) (T := TX11) (N := 11) hx hb hts (fun _ h9 => (List.mem_cons_of_mem _ (List.mem_append_right _ (List.mem_append_left _ h9)))) hown hK hP 0 rfl rfl 1 (by decide) (hts (.fieldLink RX11 19 "JudoHall" "tape" "LJudoHall$Tape;") (List.mem_cons_of_mem _ (List.mem_append_left _ (List.mem_of_getElem? (i := 0) rfl)))) (fun _ h9 => h9) rfl dX11_feed_1 ?_
  refine va_getN (D := gD G) (ci := 11) (v := .int 0) (C := RX10) (T := TX10) (N := 6) hx hb hts (fun _ h9 => (List.mem_cons_of_mem _ (List.mem_append_right _ (List.mem_append_right _ (List.mem_append_left _ h9))))) hown hK hP 1 rfl rfl 1 (by decide) (hB.nf 0 rfl) (fun _ h9 => h9) rfl dX11_feed_4 ?_
  refine lv_bipush (v := 20) hx hb dX11_feed_7 (by decide) ?_
  refine lv_iadd hx hb dX11_feed_9 ?_
  refine gx_ti (y := 20) (by decide) ?_
  refine lv_sipush (v := 3000) hx hb dX11_feed_10 (by decide) ?_
  refine lv_icmp_le (tgt := 19) hx hb dX11_feed_13 (by decide) (fun _ => ?_) (fun c9 => absurd (by decide) c9)
  refine lv_aload_n hx hb dX11_feed_19 rfl (lv_at hl 0 rfl) ?_
  refine va_get (D := gD G) (ci := 12) (v := .ref tp) (C := RX11) (T := TX11) (N := 11) hx hb hts (fun _ h9 => (List.mem_cons_of_mem _ (List.mem_append_right _ (List.mem_append_left _ h9)))) hown hK hP 0 rfl rfl 1 (by decide) (hts (.fieldLink RX11 19 "JudoHall" "tape" "LJudoHall$Tape;") (List.mem_cons_of_mem _ (List.mem_append_left _ (List.mem_of_getElem? (i := 0) rfl)))) (fun _ h9 => h9) rfl dX11_feed_20 ?_
  refine lv_iload_n hx hb dX11_feed_23 rfl (lv_at hl 1 rfl) ?_
  have hPc := hP.sub (ws' := [(tp, .inr (11, [.ref ty, .int 0, .int 0, .int 0, .int 0, .int 0])), (ty, .inr (10, [.ref ty2])), (ty2, .inl (gI G, 3000, .inl (fl 3000 0 (fun _ => 0))))]) [1, 2, 3] rfl
  have hDc := hD.sub (ws' := [(tp, .inr (11, [.ref ty, .int 0, .int 0, .int 0, .int 0, .int 0])), (ty, .inr (10, [.ref ty2])), (ty2, .inl (gI G, 3000, .inl (fl 3000 0 (fun _ => 0))))]) [1, 2, 3] (by decide) rfl
  have hFc := va_free (wc := [(tp, .inr (11, [.ref ty, .int 0, .int 0, .int 0, .int 0, .int 0])), (ty, .inr (10, [.ref ty2])), (ty2, .inl (gI G, 3000, .inl (fl 3000 0 (fun _ => 0))))]) hD hS hA [1, 2, 3] rfl
  refine va_callv (va_runV (As := [.int x]) (rest := []) ⟨hx, hb, hml, hown, hts⟩ (c_push l G tp ty ty2 (fl 3000 0 (fun _ => 0)) (.int 0) (.int 0) (.int 0) (.int 0) 0 x s.heap.size) (cwV 1 hts (gdV (List.mem_cons_of_mem _ (List.mem_append_left _ (List.mem_of_getElem? (i := 1) rfl))) (List.mem_cons_of_mem _ (List.mem_append_left _ (List.mem_of_getElem? (i := 2) rfl))) (List.mem_cons_of_mem _ (List.mem_append_left _ (List.mem_of_getElem? (i := 3) rfl))) (List.mem_cons_of_mem _ (List.mem_append_left _ (List.mem_of_getElem? (i := 4) rfl))) (fun w9 h9 => ⟨(List.mem_cons_of_mem _ (List.mem_append_right _ (List.mem_append_right _ (List.mem_append_right _ (List.mem_append_left _ h9))))), gd_c_push w9 h9⟩)) rfl rfl rfl kVX10_push ⟨Nat.le_of_ble_eq_true rfl, Nat.le_of_ble_eq_true rfl⟩) (preV_m (As := [.int x]) hPc hB hDc rfl rfl) rfl rfl hl.1 rfl (lv_room (Nat.le_of_ble_eq_true rfl)) dX11_feed_24 ⟨Nat.le_of_ble_eq_true rfl, Nat.le_of_ble_eq_true rfl⟩) hS (fun q _ h => hFc q h) hFc (fun u t H1 locs ht hvm hw hB1 hz1 hk1 hS => ?_)
  obtain ⟨q_2, hP1, hD1⟩ := hB1
  rw [ht] at hP1
  obtain ⟨hP, hD⟩ := va_join (wr := [(jh, .inr (12, [.ref bk, .ref tp, .ref ps, .ref rl, u1, .ref bd, .ref fr, u2, .ref pn, .ref nl, u3]))]) (w1 := [(tp, .inr (11, [.ref ty, .int ((((0 + 1) + 1) + 1) + 1), .int 0, .int 0, .int 0, .int 0])), (ty, .inr (10, [.ref ty2])), (ty2, .inl (gI G, 3000, .inl q_2))]) hP hD [1, 2, 3] [0] rfl rfl (by decide) (by decide) hk1 hFc hP1 hD1
  generalize H1 = H at hP hS ⊢
  have hP : va_P (gD G) vwCl [(jh, .inr (12, [.ref bk, .ref tp, .ref ps, .ref rl, u1, .ref bd, .ref fr, u2, .ref pn, .ref nl, u3])), (tp, .inr (11, [.ref ty, .int ((((0 + 1) + 1) + 1) + 1), .int 0, .int 0, .int 0, .int 0])), (ty, .inr (10, [.ref ty2])), (ty2, .inl (gI G, 3000, .inl q_2))] H := hP
  have hD : va_D A [(jh, .inr (12, [.ref bk, .ref tp, .ref ps, .ref rl, u1, .ref bd, .ref fr, u2, .ref pn, .ref nl, u3])), (tp, .inr (11, [.ref ty, .int ((((0 + 1) + 1) + 1) + 1), .int 0, .int 0, .int 0, .int 0])), (ty, .inr (10, [.ref ty2])), (ty2, .inl (gI G, 3000, .inl q_2))] := hD
  refine W.eq (g2 := F0 m 27 ls []) rfl ?_
  refine lv_aload_n hx hb dX11_feed_27 rfl (lv_at hl 0 rfl) ?_
  refine va_get (D := gD G) (ci := 12) (v := .ref tp) (C := RX11) (T := TX11) (N := 11) hx hb hts (fun _ h9 => (List.mem_cons_of_mem _ (List.mem_append_right _ (List.mem_append_left _ h9)))) hown hK hP 0 rfl rfl 1 (by decide) (hts (.fieldLink RX11 19 "JudoHall" "tape" "LJudoHall$Tape;") (List.mem_cons_of_mem _ (List.mem_append_left _ (List.mem_of_getElem? (i := 0) rfl)))) (fun _ h9 => h9) rfl dX11_feed_28 ?_
  refine lv_iload_n hx hb dX11_feed_31 rfl (lv_at hl 2 rfl) ?_
  have hPc := hP.sub (ws' := [(tp, .inr (11, [.ref ty, .int ((((0 + 1) + 1) + 1) + 1), .int 0, .int 0, .int 0, .int 0])), (ty, .inr (10, [.ref ty2])), (ty2, .inl (gI G, 3000, .inl q_2))]) [1, 2, 3] rfl
  have hDc := hD.sub (ws' := [(tp, .inr (11, [.ref ty, .int ((((0 + 1) + 1) + 1) + 1), .int 0, .int 0, .int 0, .int 0])), (ty, .inr (10, [.ref ty2])), (ty2, .inl (gI G, 3000, .inl q_2))]) [1, 2, 3] (by decide) rfl
  have hFc := va_free (wc := [(tp, .inr (11, [.ref ty, .int ((((0 + 1) + 1) + 1) + 1), .int 0, .int 0, .int 0, .int 0])), (ty, .inr (10, [.ref ty2])), (ty2, .inl (gI G, 3000, .inl q_2))]) hD hS hA [1, 2, 3] rfl
  refine va_callv (va_runV (As := [.int y]) (rest := []) ⟨hx, hb, hml, hown, hts⟩ (c_push l G tp ty ty2 q_2 (.int 0) (.int 0) (.int 0) (.int 0) ((((0 + 1) + 1) + 1) + 1) y H.size) (cwV 1 hts (gdV (List.mem_cons_of_mem _ (List.mem_append_left _ (List.mem_of_getElem? (i := 1) rfl))) (List.mem_cons_of_mem _ (List.mem_append_left _ (List.mem_of_getElem? (i := 2) rfl))) (List.mem_cons_of_mem _ (List.mem_append_left _ (List.mem_of_getElem? (i := 3) rfl))) (List.mem_cons_of_mem _ (List.mem_append_left _ (List.mem_of_getElem? (i := 4) rfl))) (fun w9 h9 => ⟨(List.mem_cons_of_mem _ (List.mem_append_right _ (List.mem_append_right _ (List.mem_append_right _ (List.mem_append_left _ h9))))), gd_c_push w9 h9⟩)) rfl rfl rfl kVX10_push ⟨Nat.le_of_ble_eq_true rfl, Nat.le_of_ble_eq_true rfl⟩) (preV_m (As := [.int y]) hPc hB hDc rfl rfl) rfl rfl hl.1 rfl (lv_room (Nat.le_of_ble_eq_true rfl)) dX11_feed_32 ⟨Nat.le_of_ble_eq_true rfl, Nat.le_of_ble_eq_true rfl⟩) hS (fun q _ h => hFc q h) hFc (fun u t H1 locs ht hvm hw hB1 hz1 hk1 hS => ?_)
  obtain ⟨q_4, hP1, hD1⟩ := hB1
  rw [ht] at hP1
  obtain ⟨hP, hD⟩ := va_join (wr := [(jh, .inr (12, [.ref bk, .ref tp, .ref ps, .ref rl, u1, .ref bd, .ref fr, u2, .ref pn, .ref nl, u3]))]) (w1 := [(tp, .inr (11, [.ref ty, .int ((((((((0 + 1) + 1) + 1) + 1) + 1) + 1) + 1) + 1), .int 0, .int 0, .int 0, .int 0])), (ty, .inr (10, [.ref ty2])), (ty2, .inl (gI G, 3000, .inl q_4))]) hP hD [1, 2, 3] [0] rfl rfl (by decide) (by decide) hk1 hFc hP1 hD1
  generalize H1 = H at hP hS ⊢
  have hP : va_P (gD G) vwCl [(jh, .inr (12, [.ref bk, .ref tp, .ref ps, .ref rl, u1, .ref bd, .ref fr, u2, .ref pn, .ref nl, u3])), (tp, .inr (11, [.ref ty, .int ((((((((0 + 1) + 1) + 1) + 1) + 1) + 1) + 1) + 1), .int 0, .int 0, .int 0, .int 0])), (ty, .inr (10, [.ref ty2])), (ty2, .inl (gI G, 3000, .inl q_4))] H := hP
  have hD : va_D A [(jh, .inr (12, [.ref bk, .ref tp, .ref ps, .ref rl, u1, .ref bd, .ref fr, u2, .ref pn, .ref nl, u3])), (tp, .inr (11, [.ref ty, .int ((((((((0 + 1) + 1) + 1) + 1) + 1) + 1) + 1) + 1), .int 0, .int 0, .int 0, .int 0])), (ty, .inr (10, [.ref ty2])), (ty2, .inl (gI G, 3000, .inl q_4))] := hD
  refine W.eq (g2 := F0 m 35 ls []) rfl ?_
  refine lv_aload_n hx hb dX11_feed_35 rfl (lv_at hl 0 rfl) ?_
  refine va_get (D := gD G) (ci := 12) (v := .ref tp) (C := RX11) (T := TX11) (N := 11) hx hb hts (fun _ h9 => (List.mem_cons_of_mem _ (List.mem_append_right _ (List.mem_append_left _ h9)))) hown hK hP 0 rfl rfl 1 (by decide) (hts (.fieldLink RX11 19 "JudoHall" "tape" "LJudoHall$Tape;") (List.mem_cons_of_mem _ (List.mem_append_left _ (List.mem_of_getElem? (i := 0) rfl)))) (fun _ h9 => h9) rfl dX11_feed_36 ?_
  refine lv_iload_n hx hb dX11_feed_39 rfl (lv_at hl 3 rfl) ?_
  have hPc := hP.sub (ws' := [(tp, .inr (11, [.ref ty, .int ((((((((0 + 1) + 1) + 1) + 1) + 1) + 1) + 1) + 1), .int 0, .int 0, .int 0, .int 0])), (ty, .inr (10, [.ref ty2])), (ty2, .inl (gI G, 3000, .inl q_4))]) [1, 2, 3] rfl
  have hDc := hD.sub (ws' := [(tp, .inr (11, [.ref ty, .int ((((((((0 + 1) + 1) + 1) + 1) + 1) + 1) + 1) + 1), .int 0, .int 0, .int 0, .int 0])), (ty, .inr (10, [.ref ty2])), (ty2, .inl (gI G, 3000, .inl q_4))]) [1, 2, 3] (by decide) rfl
  have hFc := va_free (wc := [(tp, .inr (11, [.ref ty, .int ((((((((0 + 1) + 1) + 1) + 1) + 1) + 1) + 1) + 1), .int 0, .int 0, .int 0, .int 0])), (ty, .inr (10, [.ref ty2])), (ty2, .inl (gI G, 3000, .inl q_4))]) hD hS hA [1, 2, 3] rfl
  refine va_callv (va_runV (As := [.int z]) (rest := []) ⟨hx, hb, hml, hown, hts⟩ (c_push l G tp ty ty2 q_4 (.int 0) (.int 0) (.int 0) (.int 0) ((((((((0 + 1) + 1) + 1) + 1) + 1) + 1) + 1) + 1) z H.size) (cwV 1 hts (gdV (List.mem_cons_of_mem _ (List.mem_append_left _ (List.mem_of_getElem? (i := 1) rfl))) (List.mem_cons_of_mem _ (List.mem_append_left _ (List.mem_of_getElem? (i := 2) rfl))) (List.mem_cons_of_mem _ (List.mem_append_left _ (List.mem_of_getElem? (i := 3) rfl))) (List.mem_cons_of_mem _ (List.mem_append_left _ (List.mem_of_getElem? (i := 4) rfl))) (fun w9 h9 => ⟨(List.mem_cons_of_mem _ (List.mem_append_right _ (List.mem_append_right _ (List.mem_append_right _ (List.mem_append_left _ h9))))), gd_c_push w9 h9⟩)) rfl rfl rfl kVX10_push ⟨Nat.le_of_ble_eq_true rfl, Nat.le_of_ble_eq_true rfl⟩) (preV_m (As := [.int z]) hPc hB hDc rfl rfl) rfl rfl hl.1 rfl (lv_room (Nat.le_of_ble_eq_true rfl)) dX11_feed_40 ⟨Nat.le_of_ble_eq_true rfl, Nat.le_of_ble_eq_true rfl⟩) hS (fun q _ h => hFc q h) hFc (fun u t H1 locs ht hvm hw hB1 hz1 hk1 hS => ?_)
  obtain ⟨q_6, hP1, hD1⟩ := hB1
  rw [ht] at hP1
  obtain ⟨hP, hD⟩ := va_join (wr := [(jh, .inr (12, [.ref bk, .ref tp, .ref ps, .ref rl, u1, .ref bd, .ref fr, u2, .ref pn, .ref nl, u3]))]) (w1 := [(tp, .inr (11, [.ref ty, .int ((((((((((((0 + 1) + 1) + 1) + 1) + 1) + 1) + 1) + 1) + 1) + 1) + 1) + 1), .int 0, .int 0, .int 0, .int 0])), (ty, .inr (10, [.ref ty2])), (ty2, .inl (gI G, 3000, .inl q_6))]) hP hD [1, 2, 3] [0] rfl rfl (by decide) (by decide) hk1 hFc hP1 hD1
  generalize H1 = H at hP hS ⊢
  have hP : va_P (gD G) vwCl [(jh, .inr (12, [.ref bk, .ref tp, .ref ps, .ref rl, u1, .ref bd, .ref fr, u2, .ref pn, .ref nl, u3])), (tp, .inr (11, [.ref ty, .int ((((((((((((0 + 1) + 1) + 1) + 1) + 1) + 1) + 1) + 1) + 1) + 1) + 1) + 1), .int 0, .int 0, .int 0, .int 0])), (ty, .inr (10, [.ref ty2])), (ty2, .inl (gI G, 3000, .inl q_6))] H := hP
  have hD : va_D A [(jh, .inr (12, [.ref bk, .ref tp, .ref ps, .ref rl, u1, .ref bd, .ref fr, u2, .ref pn, .ref nl, u3])), (tp, .inr (11, [.ref ty, .int ((((((((((((0 + 1) + 1) + 1) + 1) + 1) + 1) + 1) + 1) + 1) + 1) + 1) + 1), .int 0, .int 0, .int 0, .int 0])), (ty, .inr (10, [.ref ty2])), (ty2, .inl (gI G, 3000, .inl q_6))] := hD
  refine W.eq (g2 := F0 m 43 ls []) rfl ?_
  refine lv_aload_n hx hb dX11_feed_43 rfl (lv_at hl 0 rfl) ?_
  refine va_get (D := gD G) (ci := 12) (v := .ref tp) (C := RX11) (T := TX11) (N := 11) hx hb hts (fun _ h9 => (List.mem_cons_of_mem _ (List.mem_append_right _ (List.mem_append_left _ h9)))) hown hK hP 0 rfl rfl 1 (by decide) (hts (.fieldLink RX11 19 "JudoHall" "tape" "LJudoHall$Tape;") (List.mem_cons_of_mem _ (List.mem_append_left _ (List.mem_of_getElem? (i := 0) rfl)))) (fun _ h9 => h9) rfl dX11_feed_44 ?_
  refine lv_iload hx hb dX11_feed_47 (lv_at hl 4 rfl) ?_
  have hPc := hP.sub (ws' := [(tp, .inr (11, [.ref ty, .int ((((((((((((0 + 1) + 1) + 1) + 1) + 1) + 1) + 1) + 1) + 1) + 1) + 1) + 1), .int 0, .int 0, .int 0, .int 0])), (ty, .inr (10, [.ref ty2])), (ty2, .inl (gI G, 3000, .inl q_6))]) [1, 2, 3] rfl
  have hDc := hD.sub (ws' := [(tp, .inr (11, [.ref ty, .int ((((((((((((0 + 1) + 1) + 1) + 1) + 1) + 1) + 1) + 1) + 1) + 1) + 1) + 1), .int 0, .int 0, .int 0, .int 0])), (ty, .inr (10, [.ref ty2])), (ty2, .inl (gI G, 3000, .inl q_6))]) [1, 2, 3] (by decide) rfl
  have hFc := va_free (wc := [(tp, .inr (11, [.ref ty, .int ((((((((((((0 + 1) + 1) + 1) + 1) + 1) + 1) + 1) + 1) + 1) + 1) + 1) + 1), .int 0, .int 0, .int 0, .int 0])), (ty, .inr (10, [.ref ty2])), (ty2, .inl (gI G, 3000, .inl q_6))]) hD hS hA [1, 2, 3] rfl
  refine va_callv (va_runV (As := [.int z2]) (rest := []) ⟨hx, hb, hml, hown, hts⟩ (c_push l G tp ty ty2 q_6 (.int 0) (.int 0) (.int 0) (.int 0) ((((((((((((0 + 1) + 1) + 1) + 1) + 1) + 1) + 1) + 1) + 1) + 1) + 1) + 1) z2 H.size) (cwV 1 hts (gdV (List.mem_cons_of_mem _ (List.mem_append_left _ (List.mem_of_getElem? (i := 1) rfl))) (List.mem_cons_of_mem _ (List.mem_append_left _ (List.mem_of_getElem? (i := 2) rfl))) (List.mem_cons_of_mem _ (List.mem_append_left _ (List.mem_of_getElem? (i := 3) rfl))) (List.mem_cons_of_mem _ (List.mem_append_left _ (List.mem_of_getElem? (i := 4) rfl))) (fun w9 h9 => ⟨(List.mem_cons_of_mem _ (List.mem_append_right _ (List.mem_append_right _ (List.mem_append_right _ (List.mem_append_left _ h9))))), gd_c_push w9 h9⟩)) rfl rfl rfl kVX10_push ⟨Nat.le_of_ble_eq_true rfl, Nat.le_of_ble_eq_true rfl⟩) (preV_m (As := [.int z2]) hPc hB hDc rfl rfl) rfl rfl hl.1 rfl (lv_room (Nat.le_of_ble_eq_true rfl)) dX11_feed_49 ⟨Nat.le_of_ble_eq_true rfl, Nat.le_of_ble_eq_true rfl⟩) hS (fun q _ h => hFc q h) hFc (fun u t H1 locs ht hvm hw hB1 hz1 hk1 hS => ?_)
  obtain ⟨q_8, hP1, hD1⟩ := hB1
  rw [ht] at hP1
  obtain ⟨hP, hD⟩ := va_join (wr := [(jh, .inr (12, [.ref bk, .ref tp, .ref ps, .ref rl, u1, .ref bd, .ref fr, u2, .ref pn, .ref nl, u3]))]) (w1 := [(tp, .inr (11, [.ref ty, .int ((((((((((((((((0 + 1) + 1) + 1) + 1) + 1) + 1) + 1) + 1) + 1) + 1) + 1) + 1) + 1) + 1) + 1) + 1), .int 0, .int 0, .int 0, .int 0])), (ty, .inr (10, [.ref ty2])), (ty2, .inl (gI G, 3000, .inl q_8))]) hP hD [1, 2, 3] [0] rfl rfl (by decide) (by decide) hk1 hFc hP1 hD1
  generalize H1 = H at hP hS ⊢
  have hP : va_P (gD G) vwCl [(jh, .inr (12, [.ref bk, .ref tp, .ref ps, .ref rl, u1, .ref bd, .ref fr, u2, .ref pn, .ref nl, u3])), (tp, .inr (11, [.ref ty, .int ((((((((((((((((0 + 1) + 1) + 1) + 1) + 1) + 1) + 1) + 1) + 1) + 1) + 1) + 1) + 1) + 1) + 1) + 1), .int 0, .int 0, .int 0, .int 0])), (ty, .inr (10, [.ref ty2])), (ty2, .inl (gI G, 3000, .inl q_8))] H := hP
  have hD : va_D A [(jh, .inr (12, [.ref bk, .ref tp, .ref ps, .ref rl, u1, .ref bd, .ref fr, u2, .ref pn, .ref nl, u3])), (tp, .inr (11, [.ref ty, .int ((((((((((((((((0 + 1) + 1) + 1) + 1) + 1) + 1) + 1) + 1) + 1) + 1) + 1) + 1) + 1) + 1) + 1) + 1), .int 0, .int 0, .int 0, .int 0])), (ty, .inr (10, [.ref ty2])), (ty2, .inl (gI G, 3000, .inl q_8))] := hD
  refine W.eq (g2 := F0 m 52 ls []) rfl ?_
  refine lv_aload_n hx hb dX11_feed_52 rfl (lv_at hl 0 rfl) ?_
  refine va_get (D := gD G) (ci := 12) (v := .ref tp) (C := RX11) (T := TX11) (N := 11) hx hb hts (fun _ h9 => (List.mem_cons_of_mem _ (List.mem_append_right _ (List.mem_append_left _ h9)))) hown hK hP 0 rfl rfl 1 (by decide) (hts (.fieldLink RX11 19 "JudoHall" "tape" "LJudoHall$Tape;") (List.mem_cons_of_mem _ (List.mem_append_left _ (List.mem_of_getElem? (i := 0) rfl)))) (fun _ h9 => h9) rfl dX11_feed_53 ?_
  refine lv_iload hx hb dX11_feed_56 (lv_at hl 5 rfl) ?_
  have hPc := hP.sub (ws' := [(tp, .inr (11, [.ref ty, .int ((((((((((((((((0 + 1) + 1) + 1) + 1) + 1) + 1) + 1) + 1) + 1) + 1) + 1) + 1) + 1) + 1) + 1) + 1), .int 0, .int 0, .int 0, .int 0])), (ty, .inr (10, [.ref ty2])), (ty2, .inl (gI G, 3000, .inl q_8))]) [1, 2, 3] rfl
  have hDc := hD.sub (ws' := [(tp, .inr (11, [.ref ty, .int ((((((((((((((((0 + 1) + 1) + 1) + 1) + 1) + 1) + 1) + 1) + 1) + 1) + 1) + 1) + 1) + 1) + 1) + 1), .int 0, .int 0, .int 0, .int 0])), (ty, .inr (10, [.ref ty2])), (ty2, .inl (gI G, 3000, .inl q_8))]) [1, 2, 3] (by decide) rfl
  have hFc := va_free (wc := [(tp, .inr (11, [.ref ty, .int ((((((((((((((((0 + 1) + 1) + 1) + 1) + 1) + 1) + 1) + 1) + 1) + 1) + 1) + 1) + 1) + 1) + 1) + 1), .int 0, .int 0, .int 0, .int 0])), (ty, .inr (10, [.ref ty2])), (ty2, .inl (gI G, 3000, .inl q_8))]) hD hS hA [1, 2, 3] rfl
  refine va_callv (va_runV (As := [.int z3]) (rest := []) ⟨hx, hb, hml, hown, hts⟩ (c_push l G tp ty ty2 q_8 (.int 0) (.int 0) (.int 0) (.int 0) ((((((((((((((((0 + 1) + 1) + 1) + 1) + 1) + 1) + 1) + 1) + 1) + 1) + 1) + 1) + 1) + 1) + 1) + 1) z3 H.size) (cwV 1 hts (gdV (List.mem_cons_of_mem _ (List.mem_append_left _ (List.mem_of_getElem? (i := 1) rfl))) (List.mem_cons_of_mem _ (List.mem_append_left _ (List.mem_of_getElem? (i := 2) rfl))) (List.mem_cons_of_mem _ (List.mem_append_left _ (List.mem_of_getElem? (i := 3) rfl))) (List.mem_cons_of_mem _ (List.mem_append_left _ (List.mem_of_getElem? (i := 4) rfl))) (fun w9 h9 => ⟨(List.mem_cons_of_mem _ (List.mem_append_right _ (List.mem_append_right _ (List.mem_append_right _ (List.mem_append_left _ h9))))), gd_c_push w9 h9⟩)) rfl rfl rfl kVX10_push ⟨Nat.le_of_ble_eq_true rfl, Nat.le_of_ble_eq_true rfl⟩) (preV_m (As := [.int z3]) hPc hB hDc rfl rfl) rfl rfl hl.1 rfl (lv_room (Nat.le_of_ble_eq_true rfl)) dX11_feed_58 ⟨Nat.le_of_ble_eq_true rfl, Nat.le_of_ble_eq_true rfl⟩) hS (fun q _ h => hFc q h) hFc (fun u t H1 locs ht hvm hw hB1 hz1 hk1 hS => ?_)
  obtain ⟨q_10, hP1, hD1⟩ := hB1
  rw [ht] at hP1
  obtain ⟨hP, hD⟩ := va_join (wr := [(jh, .inr (12, [.ref bk, .ref tp, .ref ps, .ref rl, u1, .ref bd, .ref fr, u2, .ref pn, .ref nl, u3]))]) (w1 := [(tp, .inr (11, [.ref ty, .int ((((((((((((((((((((0 + 1) + 1) + 1) + 1) + 1) + 1) + 1) + 1) + 1) + 1) + 1) + 1) + 1) + 1) + 1) + 1) + 1) + 1) + 1) + 1), .int 0, .int 0, .int 0, .int 0])), (ty, .inr (10, [.ref ty2])), (ty2, .inl (gI G, 3000, .inl q_10))]) hP hD [1, 2, 3] [0] rfl rfl (by decide) (by decide) hk1 hFc hP1 hD1
  generalize H1 = H at hP hS ⊢
  have hP : va_P (gD G) vwCl [(jh, .inr (12, [.ref bk, .ref tp, .ref ps, .ref rl, u1, .ref bd, .ref fr, u2, .ref pn, .ref nl, u3])), (tp, .inr (11, [.ref ty, .int ((((((((((((((((((((0 + 1) + 1) + 1) + 1) + 1) + 1) + 1) + 1) + 1) + 1) + 1) + 1) + 1) + 1) + 1) + 1) + 1) + 1) + 1) + 1), .int 0, .int 0, .int 0, .int 0])), (ty, .inr (10, [.ref ty2])), (ty2, .inl (gI G, 3000, .inl q_10))] H := hP
  have hD : va_D A [(jh, .inr (12, [.ref bk, .ref tp, .ref ps, .ref rl, u1, .ref bd, .ref fr, u2, .ref pn, .ref nl, u3])), (tp, .inr (11, [.ref ty, .int ((((((((((((((((((((0 + 1) + 1) + 1) + 1) + 1) + 1) + 1) + 1) + 1) + 1) + 1) + 1) + 1) + 1) + 1) + 1) + 1) + 1) + 1) + 1), .int 0, .int 0, .int 0, .int 0])), (ty, .inr (10, [.ref ty2])), (ty2, .inl (gI G, 3000, .inl q_10))] := hD
  refine W.eq (g2 := F0 m 61 ls []) rfl ?_
  refine lv_aload_n hx hb dX11_feed_61 rfl (lv_at hl 0 rfl) ?_
  refine va_get (D := gD G) (ci := 12) (v := .ref tp) (C := RX11) (T := TX11) (N := 11) hx hb hts (fun _ h9 => (List.mem_cons_of_mem _ (List.mem_append_right _ (List.mem_append_left _ h9)))) hown hK hP 0 rfl rfl 1 (by decide) (hts (.fieldLink RX11 19 "JudoHall" "tape" "LJudoHall$Tape;") (List.mem_cons_of_mem _ (List.mem_append_left _ (List.mem_of_getElem? (i := 0) rfl)))) (fun _ h9 => h9) rfl dX11_feed_62 ?_
  refine va_getN (D := gD G) (ci := 11) (v := .int ((((((((((((((((((((0 + 1) + 1) + 1) + 1) + 1) + 1) + 1) + 1) + 1) + 1) + 1) + 1) + 1) + 1) + 1) + 1) + 1) + 1) + 1) + 1)) (C := RX10) (T := TX10) (N := 6) hx hb hts (fun _ h9 => (List.mem_cons_of_mem _ (List.mem_append_right _ (List.mem_append_right _ (List.mem_append_left _ h9))))) hown hK hP 1 rfl rfl 1 (by decide) (hB.nf 0 rfl) (fun _ h9 => h9) rfl dX11_feed_65 ?_
  have hP9 := hP.sub (ws' := []) [] rfl
  have hD9 := hD.sub (ws' := []) [] (by decide) rfl
  exact W.iret (v := ((((((((((((((((((((0 + 1) + 1) + 1) + 1) + 1) + 1) + 1) + 1) + 1) + 1) + 1) + 1) + 1) + 1) + 1) + 1) + 1) + 1) + 1) + 1)) hx hb hr (fun t ht hW => ⟨⟨_, (), rfl, rfl, by rw [ht]; exact hP9, hD9⟩, hS.F ht⟩) hS.2.2 dX11_feed_68

def wo_q_end : List Cond := [.fieldLink RX11 19 "JudoHall" "tape" "LJudoHall$Tape;"]
def wq_q_end : List Cond := .code yX11_end cX11_end 2 (some .int) :: (wo_q_end ++ (wsX110 ++ (wsX100 ++ [])))
theorem gd_q_end : ∀ w ∈ wq_q_end, Gd w := List.forall_mem_cons.mpr ⟨Or.inl rfl, List.forall_mem_append.mpr ⟨gdl wo_q_end (by decide +kernel), (List.forall_mem_append.mpr ⟨gd_wsX110, (List.forall_mem_append.mpr ⟨gd_wsX100, (fun _ h => absurd h List.not_mem_nil)⟩)⟩)⟩⟩
theorem in_q_end : ∀ w ∈ wq_q_end, w ∈ lw_tbl := List.forall_mem_cons.mpr ⟨List.mem_of_getElem? (i := 604) (by decide +kernel), List.forall_mem_append.mpr ⟨inT wo_q_end [556] (by decide +kernel), (List.forall_mem_append.mpr ⟨in_wsX110, (List.forall_mem_append.mpr ⟨in_wsX100, (fun _ h => absurd h List.not_mem_nil)⟩)⟩)⟩⟩
set_option maxHeartbeats 4000000 in
set_option maxRecDepth 100000 in
theorem q_end (l : Launch) (G : gG) (jh : Nat) (bk : Nat) (tp : Nat) (ps : Nat) (rl : Nat) (u1 : Value) (bd : Nat) (fr : Nat) (u2 : Value) (pn : Nat) (nl : Nat) (u3 : Value) (ty : Nat) (x : Int32) (sz : Nat) : Met l yX11_end wq_q_end ({ frames := 0, cells := 0, slots := 0, locals := 0 }) (va_Pc [.ref jh, .int x] (mP G [(jh, .inr (12, [.ref bk, .ref tp, .ref ps, .ref rl, u1, .ref bd, .ref fr, u2, .ref pn, .ref nl, u3])), (tp, .inr (11, [.ref ty, .int 0, .int 0, .int 0, .int 0, .int 0]))] sz)) (va_Qi (fun (r : Int32) (_ : Unit) => r = if x = 0 then 0 else (-1)) (fun (_ : Unit) (t : State) => va_P (gD G) vwCl [] t.heap ∧ va_D (va_A [(jh, .inr (12, [.ref bk, .ref tp, .ref ps, .ref rl, u1, .ref bd, .ref fr, u2, .ref pn, .ref nl, u3])), (tp, .inr (11, [.ref ty, .int 0, .int 0, .int 0, .int 0, .int 0]))] sz) []) (va_A [(jh, .inr (12, [.ref bk, .ref tp, .ref ps, .ref rl, u1, .ref bd, .ref fr, u2, .ref pn, .ref nl, u3])), (tp, .inr (11, [.ref ty, .int 0, .int 0, .int 0, .int 0, .int 0]))] sz)) 0 0 (va_A [(jh, .inr (12, [.ref bk, .ref tp, .ref ps, .ref rl, u1, .ref bd, .ref fr, u2, .ref pn, .ref nl, u3])), (tp, .inr (11, [.ref ty, .int 0, .int 0, .int 0, .int 0, .int 0]))] sz) := by
  refine Met.ofW (cc := cX11_end) (maxL := 2) (ret := (some .int)) (by decide) rfl ?_
  intro p e s m args below meth c s₁ B hml hv
  obtain ⟨rfl, hsz, hP, hB, hD0⟩ := hv
  have hx := B.exec
  have hb := B.bytes
  have hr := B.returns
  have hts := atoms_spec (ws := wq_q_end) B.pre
  have hown : s.vm.findClass RX11 = some m.cls := findClass_of_methodNamed B.named
  have hlocks := B.notSynchronized
  have hK := hB.1
  subst hsz
  have hD := hD0.self (sz := s.heap.size)
  generalize hAe : va_A [(jh, .inr (12, [.ref bk, .ref tp, .ref ps, .ref rl, u1, .ref bd, .ref fr, u2, .ref pn, .ref nl, u3])), (tp, .inr (11, [.ref ty, .int 0, .int 0, .int 0, .int 0, .int 0]))] s.heap.size = A at hD ⊢
  have hA : ∀ q : Nat, s.heap.size ≤ q → A q := fun q h => by rw [← hAe]; exact Or.inr h
  have hS : va_S A s.heap s.heap [] := va_S.rf
  have hP : va_P (gD G) vwCl [(jh, .inr (12, [.ref bk, .ref tp, .ref ps, .ref rl, u1, .ref bd, .ref fr, u2, .ref pn, .ref nl, u3])), (tp, .inr (11, [.ref ty, .int 0, .int 0, .int 0, .int 0, .int 0]))] s.heap := hP
  have hD : va_D A [(jh, .inr (12, [.ref bk, .ref tp, .ref ps, .ref rl, u1, .ref bd, .ref fr, u2, .ref pn, .ref nl, u3])), (tp, .inr (11, [.ref ty, .int 0, .int 0, .int 0, .int 0, .int 0]))] := hD
  have hl := lv_entry ([.ref jh, .int x]) (n := 2) (Nat.le_of_ble_eq_true rfl)
  rw [lg_entry_eq]
  generalize (lg_sl ([.ref jh, .int x]) ++ List.replicate (2 - (lg_sl ([.ref jh, .int x])).length) Slot.unset).toArray = ls at hl ⊢
  have hl : lv_has ls 2 [(0, .ref jh), (1, .int x)] := hl
  refine lv_iload_n hx hb dX11_end_0 rfl (lv_at hl 1 rfl) ?_
  refine lv_if_lt (tgt := 15) hx hb dX11_end_1 (by decide) (fun c_1 => ?_) (fun c_1 => ?_)
  · skip
    refine lv_iconst (v := (-1)) hx hb dX11_end_15 (by decide) ?_
    have hP9 := hP.sub (ws' := []) [] rfl
    have hD9 := hD.sub (ws' := []) [] (by decide) rfl
    exact W.iret (v := (-1)) hx hb hr (fun t ht hW => ⟨⟨_, (), rfl, by rw [if_neg (show ¬ (x = 0) from (fun z9 => absurd c_1 (by rw [z9]; decide)))], by rw [ht]; exact hP9, hD9⟩, hS.F ht⟩) hS.2.2 dX11_end_16
  · skip
    refine lv_iload_n hx hb dX11_end_4 rfl (lv_at hl 1 rfl) ?_
    refine lv_aload_n hx hb dX11_end_5 rfl (lv_at hl 0 rfl) ?_
    refine va_get (D := gD G) (ci := 12) (v := .ref tp) (C := RX11) (T := TX11) (N := 11) hx hb hts (fun _ h9 => (List.mem_cons_of_mem _ (List.mem_append_right _ (List.mem_append_left _ h9)))) hown hK hP 0 rfl rfl 1 (by decide) (hts (.fieldLink RX11 19 "JudoHall" "tape" "LJudoHall$Tape;") (List.mem_cons_of_mem _ (List.mem_append_left _ (List.mem_of_getElem? (i := 0) rfl)))) (fun _ h9 => h9) rfl dX11_end_6 ?_
    refine va_getN (D := gD G) (ci := 11) (v := .int 0) (C := RX10) (T := TX10) (N := 6) hx hb hts (fun _ h9 => (List.mem_cons_of_mem _ (List.mem_append_right _ (List.mem_append_right _ (List.mem_append_left _ h9))))) hown hK hP 1 rfl rfl 1 (by decide) (hB.nf 0 rfl) (fun _ h9 => h9) rfl dX11_end_9 ?_
    refine lv_icmp_le (tgt := 17) hx hb dX11_end_12 (by decide) (fun c_2 => ?_) (fun c_2 => ?_)
    · skip
      refine lv_aload_n hx hb dX11_end_17 rfl (lv_at hl 0 rfl) ?_
      refine va_get (D := gD G) (ci := 12) (v := .ref tp) (C := RX11) (T := TX11) (N := 11) hx hb hts (fun _ h9 => (List.mem_cons_of_mem _ (List.mem_append_right _ (List.mem_append_left _ h9)))) hown hK hP 0 rfl rfl 1 (by decide) (hts (.fieldLink RX11 19 "JudoHall" "tape" "LJudoHall$Tape;") (List.mem_cons_of_mem _ (List.mem_append_left _ (List.mem_of_getElem? (i := 0) rfl)))) (fun _ h9 => h9) rfl dX11_end_18 ?_
      refine lv_iload_n hx hb dX11_end_21 rfl (lv_at hl 1 rfl) ?_
      refine va_putN (D := gD G) (ci := 11) (v := .int x) (ty := tyX10 1) (C := RX10) (T := TX10) (N := 6) hx hb hts (fun _ h9 => (List.mem_cons_of_mem _ (List.mem_append_right _ (List.mem_append_right _ (List.mem_append_left _ h9))))) tyX10 tyX10_ok nmX10 hown hK hP hD hS 1 rfl rfl 1 (by decide) (hB.nf 0 rfl) (fun _ h9 => h9) rfl (tyX10_ok 1 (by decide)) rfl rfl (Nat.le_of_ble_eq_true rfl) dX11_end_22 (fun H locs hP hD hS => ?_)
      have hP : va_P (gD G) vwCl [(jh, .inr (12, [.ref bk, .ref tp, .ref ps, .ref rl, u1, .ref bd, .ref fr, u2, .ref pn, .ref nl, u3])), (tp, .inr (11, [.ref ty, .int x, .int 0, .int 0, .int 0, .int 0]))] H := hP
      have hD : va_D A [(jh, .inr (12, [.ref bk, .ref tp, .ref ps, .ref rl, u1, .ref bd, .ref fr, u2, .ref pn, .ref nl, u3])), (tp, .inr (11, [.ref ty, .int x, .int 0, .int 0, .int 0, .int 0]))] := hD
      refine lv_iload_n hx hb dX11_end_25 rfl (lv_at hl 1 rfl) ?_
      have hP9 := hP.sub (ws' := []) [] rfl
      have hD9 := hD.sub (ws' := []) [] (by decide) rfl
      exact W.iret (v := x) hx hb hr (fun t ht hW => ⟨⟨_, (), rfl, by rw [if_pos (gx_z c_1 c_2)]; exact gx_z c_1 c_2, by rw [ht]; exact hP9, hD9⟩, hS.F ht⟩) hS.2.2 dX11_end_26
    · skip
      refine lv_iconst (v := (-1)) hx hb dX11_end_15 (by decide) ?_
      have hP9 := hP.sub (ws' := []) [] rfl
      have hD9 := hD.sub (ws' := []) [] (by decide) rfl
      exact W.iret (v := (-1)) hx hb hr (fun t ht hW => ⟨⟨_, (), rfl, by rw [if_neg (show ¬ (x = 0) from (fun z9 => c_2 (by rw [z9]; decide)))], by rw [ht]; exact hP9, hD9⟩, hS.F ht⟩) hS.2.2 dX11_end_16

def wo_q_laws : List Cond := [.fieldLink RX11 60 "JudoHall" "floor" "LJudoHall$Floor;", .methodLink RX11 100 yX3_openFights, .instanceMethod yX3_openFights, .selects RX3 yX3_openFights yX3_openFights, .initialized RX3, .fieldLink RX11 28 "JudoHall" "parser" "LJudoHall$Parser;", .methodLink RX11 104 yX5_readLaws, .instanceMethod yX5_readLaws, .selects RX5 yX5_readLaws yX5_readLaws, .initialized RX5, .fieldLink RX11 19 "JudoHall" "tape" "LJudoHall$Tape;"]
def wq_q_laws : List Cond := .code yX11_laws cX11_laws 2 (some .int) :: (wo_q_laws ++ (wsX110 ++ (wq_c_openFights ++ (wq_c_readLaws ++ (wsX100 ++ [])))))
theorem gd_q_laws : ∀ w ∈ wq_q_laws, Gd w := List.forall_mem_cons.mpr ⟨Or.inl rfl, List.forall_mem_append.mpr ⟨gdl wo_q_laws (by decide +kernel), (List.forall_mem_append.mpr ⟨gd_wsX110, (List.forall_mem_append.mpr ⟨gd_c_openFights, (List.forall_mem_append.mpr ⟨gd_c_readLaws, (List.forall_mem_append.mpr ⟨gd_wsX100, (fun _ h => absurd h List.not_mem_nil)⟩)⟩)⟩)⟩)⟩⟩
theorem in_q_laws : ∀ w ∈ wq_q_laws, w ∈ lw_tbl := List.forall_mem_cons.mpr ⟨List.mem_of_getElem? (i := 608) (by decide +kernel), List.forall_mem_append.mpr ⟨inT wo_q_laws [561, 609, 610, 611, 165, 557, 626, 627, 628, 160, 556] (by decide +kernel), (List.forall_mem_append.mpr ⟨in_wsX110, (List.forall_mem_append.mpr ⟨in_c_openFights, (List.forall_mem_append.mpr ⟨in_c_readLaws, (List.forall_mem_append.mpr ⟨in_wsX100, (fun _ h => absurd h List.not_mem_nil)⟩)⟩)⟩)⟩)⟩⟩
set_option maxHeartbeats 4000000 in
set_option maxRecDepth 100000 in
theorem q_laws (l : Launch) (G : gG) (Z : gS) (jh : Nat) (bk : Nat) (tp : Nat) (ps : Nat) (rl : Nat) (u1 : Value) (bd : Nat) (fr : Nat) (u2 : Value) (pn : Nat) (nl : Nat) (u3 : Value) (f1 : Value) (p1 : Value) (p2 : Value) (p3 : Value) (dr : Nat) (ty : Nat) (p4 : Value) (p5 : Value) (p6 : Value) (ca : Nat) (bc : Nat) (bb : Nat) (bs : Nat) (sz : Nat) : Met l yX11_laws wq_q_laws ({ frames := 5, cells := 0, slots := 0, locals := 107 }) (va_Pc [.ref jh] (eP G Z [(jh, .inr (12, [.ref bk, .ref tp, .ref ps, .ref rl, u1, .ref bd, .ref fr, u2, .ref pn, .ref nl, u3])), (fr, .inr (4, [.ref bk, .ref bd, f1, .int 0])), (ps, .inr (6, [.ref tp, p1, p2, p3, .ref dr, .int 0, .int 0, .int 0, .int (-1), .int 0, .int 0, .int 0, .int 0, .int 0])), (tp, .inr (11, [.ref ty, .int 0, .int 0, .int 0, .int 0, .int 0])), (dr, .inr (5, [.int 0, .int 0, .int 0, .int 0, .int 0, .int 0, p4, p5, p6])), (bk, .inr (2, [.ref ca, .ref bc, .ref bb, .ref bs, .int 0, .int 0])), (ca, .inl (gI G, 2088, .inl bk0))] sz)) (va_Qi (fun (r : Int32) (_ : Unit) => r = (-1)) (fun (_ : Unit) (t : State) => va_P (gD G) vwCl [] t.heap ∧ va_D (va_A [(jh, .inr (12, [.ref bk, .ref tp, .ref ps, .ref rl, u1, .ref bd, .ref fr, u2, .ref pn, .ref nl, u3])), (fr, .inr (4, [.ref bk, .ref bd, f1, .int 0])), (ps, .inr (6, [.ref tp, p1, p2, p3, .ref dr, .int 0, .int 0, .int 0, .int (-1), .int 0, .int 0, .int 0, .int 0, .int 0])), (tp, .inr (11, [.ref ty, .int 0, .int 0, .int 0, .int 0, .int 0])), (dr, .inr (5, [.int 0, .int 0, .int 0, .int 0, .int 0, .int 0, p4, p5, p6])), (bk, .inr (2, [.ref ca, .ref bc, .ref bb, .ref bs, .int 0, .int 0])), (ca, .inl (gI G, 2088, .inl bk0))] sz) []) (va_A [(jh, .inr (12, [.ref bk, .ref tp, .ref ps, .ref rl, u1, .ref bd, .ref fr, u2, .ref pn, .ref nl, u3])), (fr, .inr (4, [.ref bk, .ref bd, f1, .int 0])), (ps, .inr (6, [.ref tp, p1, p2, p3, .ref dr, .int 0, .int 0, .int 0, .int (-1), .int 0, .int 0, .int 0, .int 0, .int 0])), (tp, .inr (11, [.ref ty, .int 0, .int 0, .int 0, .int 0, .int 0])), (dr, .inr (5, [.int 0, .int 0, .int 0, .int 0, .int 0, .int 0, p4, p5, p6])), (bk, .inr (2, [.ref ca, .ref bc, .ref bb, .ref bs, .int 0, .int 0])), (ca, .inl (gI G, 2088, .inl bk0))] sz)) 0 0 (va_A [(jh, .inr (12, [.ref bk, .ref tp, .ref ps, .ref rl, u1, .ref bd, .ref fr, u2, .ref pn, .ref nl, u3])), (fr, .inr (4, [.ref bk, .ref bd, f1, .int 0])), (ps, .inr (6, [.ref tp, p1, p2, p3, .ref dr, .int 0, .int 0, .int 0, .int (-1), .int 0, .int 0, .int 0, .int 0, .int 0])), (tp, .inr (11, [.ref ty, .int 0, .int 0, .int 0, .int 0, .int 0])), (dr, .inr (5, [.int 0, .int 0, .int 0, .int 0, .int 0, .int 0, p4, p5, p6])), (bk, .inr (2, [.ref ca, .ref bc, .ref bb, .ref bs, .int 0, .int 0])), (ca, .inl (gI G, 2088, .inl bk0))] sz) := by
  refine Met.ofW (cc := cX11_laws) (maxL := 2) (ret := (some .int)) (by decide) rfl ?_
  intro p e s m args below meth c s₁ B hml hv
  obtain ⟨rfl, ⟨hsz, hP, hB, hD0⟩, hE⟩ := hv
  have hx := B.exec
  have hb := B.bytes
  have hr := B.returns
  have hts := atoms_spec (ws := wq_q_laws) B.pre
  have hown : s.vm.findClass RX11 = some m.cls := findClass_of_methodNamed B.named
  have hlocks := B.notSynchronized
  have hK := hB.1
  subst hsz
  have hD := hD0.self (sz := s.heap.size)
  generalize hAe : va_A [(jh, .inr (12, [.ref bk, .ref tp, .ref ps, .ref rl, u1, .ref bd, .ref fr, u2, .ref pn, .ref nl, u3])), (fr, .inr (4, [.ref bk, .ref bd, f1, .int 0])), (ps, .inr (6, [.ref tp, p1, p2, p3, .ref dr, .int 0, .int 0, .int 0, .int (-1), .int 0, .int 0, .int 0, .int 0, .int 0])), (tp, .inr (11, [.ref ty, .int 0, .int 0, .int 0, .int 0, .int 0])), (dr, .inr (5, [.int 0, .int 0, .int 0, .int 0, .int 0, .int 0, p4, p5, p6])), (bk, .inr (2, [.ref ca, .ref bc, .ref bb, .ref bs, .int 0, .int 0])), (ca, .inl (gI G, 2088, .inl bk0))] s.heap.size = A at hD hE ⊢
  have hA : ∀ q : Nat, s.heap.size ≤ q → A q := fun q h => by rw [← hAe]; exact Or.inr h
  have hS : va_S A s.heap s.heap [] := va_S.rf
  have hP : va_P (gD G) vwCl [(jh, .inr (12, [.ref bk, .ref tp, .ref ps, .ref rl, u1, .ref bd, .ref fr, u2, .ref pn, .ref nl, u3])), (fr, .inr (4, [.ref bk, .ref bd, f1, .int 0])), (ps, .inr (6, [.ref tp, p1, p2, p3, .ref dr, .int 0, .int 0, .int 0, .int (-1), .int 0, .int 0, .int 0, .int 0, .int 0])), (tp, .inr (11, [.ref ty, .int 0, .int 0, .int 0, .int 0, .int 0])), (dr, .inr (5, [.int 0, .int 0, .int 0, .int 0, .int 0, .int 0, p4, p5, p6])), (bk, .inr (2, [.ref ca, .ref bc, .ref bb, .ref bs, .int 0, .int 0])), (ca, .inl (gI G, 2088, .inl bk0))] s.heap := hP
  have hD : va_D A [(jh, .inr (12, [.ref bk, .ref tp, .ref ps, .ref rl, u1, .ref bd, .ref fr, u2, .ref pn, .ref nl, u3])), (fr, .inr (4, [.ref bk, .ref bd, f1, .int 0])), (ps, .inr (6, [.ref tp, p1, p2, p3, .ref dr, .int 0, .int 0, .int 0, .int (-1), .int 0, .int 0, .int 0, .int 0, .int 0])), (tp, .inr (11, [.ref ty, .int 0, .int 0, .int 0, .int 0, .int 0])), (dr, .inr (5, [.int 0, .int 0, .int 0, .int 0, .int 0, .int 0, p4, p5, p6])), (bk, .inr (2, [.ref ca, .ref bc, .ref bb, .ref bs, .int 0, .int 0])), (ca, .inl (gI G, 2088, .inl bk0))] := hD
  have hl := lv_entry ([.ref jh]) (n := 2) (Nat.le_of_ble_eq_true rfl)
  rw [lg_entry_eq]
  generalize (lg_sl ([.ref jh]) ++ List.replicate (2 - (lg_sl ([.ref jh])).length) Slot.unset).toArray = ls at hl ⊢
  have hl : lv_has ls 2 [(0, .ref jh)] := hl
  refine lv_aload_n hx hb dX11_laws_0 rfl (lv_at hl 0 rfl) ?_
  refine va_get (D := gD G) (ci := 12) (v := .ref fr) (C := RX11) (T := TX11) (N := 11) hx hb hts (fun _ h9 => (List.mem_cons_of_mem _ (List.mem_append_right _ (List.mem_append_left _ h9)))) hown hK hP 0 rfl rfl 6 (by decide) (hts (.fieldLink RX11 60 "JudoHall" "floor" "LJudoHall$Floor;") (List.mem_cons_of_mem _ (List.mem_append_left _ (List.mem_of_getElem? (i := 0) rfl)))) (fun _ h9 => h9) rfl dX11_laws_1 ?_
  refine vp_callSi (va_Run.run (va_runV (As := []) (rest := []) ⟨hx, hb, hml, hown, hts⟩ (c_openFights l G fr bk (.ref bd) f1 (.int 0) ca (.ref bc) (.ref bb) (.ref bs) (.int 0) (.int 0)) (cwV 0 hts (gdV (List.mem_cons_of_mem _ (List.mem_append_left _ (List.mem_of_getElem? (i := 1) rfl))) (List.mem_cons_of_mem _ (List.mem_append_left _ (List.mem_of_getElem? (i := 2) rfl))) (List.mem_cons_of_mem _ (List.mem_append_left _ (List.mem_of_getElem? (i := 3) rfl))) (List.mem_cons_of_mem _ (List.mem_append_left _ (List.mem_of_getElem? (i := 4) rfl))) (fun w9 h9 => ⟨(List.mem_cons_of_mem _ (List.mem_append_right _ (List.mem_append_right _ (List.mem_append_left _ h9)))), gd_c_openFights w9 h9⟩)) rfl rfl rfl kVX3_openFights ⟨Nat.le_of_ble_eq_true rfl, Nat.le_of_ble_eq_true rfl⟩) (preV_p (As := []) (hP.sub (ws' := [(fr, .inr (4, [.ref bk, .ref bd, f1, .int 0])), (bk, .inr (2, [.ref ca, .ref bc, .ref bb, .ref bs, .int 0, .int 0])), (ca, .inl (gI G, 2088, .inl bk0))]) [1, 5, 6] rfl) hB rfl rfl) rfl rfl hl.1 rfl (lv_room (Nat.le_of_ble_eq_true rfl)) dX11_laws_4 ⟨Nat.le_of_ble_eq_true rfl, Nat.le_of_ble_eq_true rfl⟩)) (fun r_1 hr_1 => ?_)
  subst hr_1
  refine lv_if_le (tgt := 21) hx hb dX11_laws_7 (by decide) (fun _ => ?_) (fun c9 => absurd (by decide) c9)
  refine lv_aload_n hx hb dX11_laws_21 rfl (lv_at hl 0 rfl) ?_
  refine va_get (D := gD G) (ci := 12) (v := .ref ps) (C := RX11) (T := TX11) (N := 11) hx hb hts (fun _ h9 => (List.mem_cons_of_mem _ (List.mem_append_right _ (List.mem_append_left _ h9)))) hown hK hP 0 rfl rfl 2 (by decide) (hts (.fieldLink RX11 28 "JudoHall" "parser" "LJudoHall$Parser;") (List.mem_cons_of_mem _ (List.mem_append_left _ (List.mem_of_getElem? (i := 5) rfl)))) (fun _ h9 => h9) rfl dX11_laws_22 ?_
  have hPc := hP.sub (ws' := [(ps, .inr (6, [.ref tp, p1, p2, p3, .ref dr, .int 0, .int 0, .int 0, .int (-1), .int 0, .int 0, .int 0, .int 0, .int 0])), (tp, .inr (11, [.ref ty, .int 0, .int 0, .int 0, .int 0, .int 0])), (dr, .inr (5, [.int 0, .int 0, .int 0, .int 0, .int 0, .int 0, p4, p5, p6]))]) [2, 3, 4] rfl
  have hDc := hD.sub (ws' := [(ps, .inr (6, [.ref tp, p1, p2, p3, .ref dr, .int 0, .int 0, .int 0, .int (-1), .int 0, .int 0, .int 0, .int 0, .int 0])), (tp, .inr (11, [.ref ty, .int 0, .int 0, .int 0, .int 0, .int 0])), (dr, .inr (5, [.int 0, .int 0, .int 0, .int 0, .int 0, .int 0, p4, p5, p6]))]) [2, 3, 4] (by decide) rfl
  have hFc := va_free (wc := [(ps, .inr (6, [.ref tp, p1, p2, p3, .ref dr, .int 0, .int 0, .int 0, .int (-1), .int 0, .int 0, .int 0, .int 0, .int 0])), (tp, .inr (11, [.ref ty, .int 0, .int 0, .int 0, .int 0, .int 0])), (dr, .inr (5, [.int 0, .int 0, .int 0, .int 0, .int 0, .int 0, p4, p5, p6]))]) hD hS hA [2, 3, 4] rfl
  refine va_calli (va_runV (As := []) (rest := []) ⟨hx, hb, hml, hown, hts⟩ (c_readLaws l G Z ps tp dr p1 p2 p3 (.ref ty) p4 p5 p6 s.heap.size) (cwV 0 hts (gdV (List.mem_cons_of_mem _ (List.mem_append_left _ (List.mem_of_getElem? (i := 6) rfl))) (List.mem_cons_of_mem _ (List.mem_append_left _ (List.mem_of_getElem? (i := 7) rfl))) (List.mem_cons_of_mem _ (List.mem_append_left _ (List.mem_of_getElem? (i := 8) rfl))) (List.mem_cons_of_mem _ (List.mem_append_left _ (List.mem_of_getElem? (i := 9) rfl))) (fun w9 h9 => ⟨(List.mem_cons_of_mem _ (List.mem_append_right _ (List.mem_append_right _ (List.mem_append_right _ (List.mem_append_left _ h9))))), gd_c_readLaws w9 h9⟩)) rfl rfl rfl kVX5_readLaws ⟨Nat.le_of_ble_eq_true rfl, Nat.le_of_ble_eq_true rfl⟩) (preV_e (As := []) hPc hB hDc ((hE.kept hS.2.1).narrow hFc) rfl rfl) rfl rfl hl.1 rfl (lv_room (Nat.le_of_ble_eq_true rfl)) dX11_laws_25 ⟨Nat.le_of_ble_eq_true rfl, Nat.le_of_ble_eq_true rfl⟩) hS (fun q _ h => hFc q h) hFc (fun r_2 u t H1 locs ht hvm hw hB1 hz1 hk1 hS => ?_)
  obtain ⟨hP1, hD1⟩ := hB1
  rw [ht] at hP1
  obtain ⟨hP, hD⟩ := va_join (wr := [(jh, .inr (12, [.ref bk, .ref tp, .ref ps, .ref rl, u1, .ref bd, .ref fr, u2, .ref pn, .ref nl, u3])), (fr, .inr (4, [.ref bk, .ref bd, f1, .int 0])), (bk, .inr (2, [.ref ca, .ref bc, .ref bb, .ref bs, .int 0, .int 0])), (ca, .inl (gI G, 2088, .inl bk0))]) (w1 := [(tp, .inr (11, [.ref ty, .int 0, .int 0, .int 0, .int 0, .int 0]))]) hP hD [2, 3, 4] [0, 1, 5, 6] rfl rfl (by decide) (by decide) hk1 hFc hP1 hD1
  generalize H1 = H at hP hS ⊢
  have hP : va_P (gD G) vwCl [(jh, .inr (12, [.ref bk, .ref tp, .ref ps, .ref rl, u1, .ref bd, .ref fr, u2, .ref pn, .ref nl, u3])), (fr, .inr (4, [.ref bk, .ref bd, f1, .int 0])), (bk, .inr (2, [.ref ca, .ref bc, .ref bb, .ref bs, .int 0, .int 0])), (ca, .inl (gI G, 2088, .inl bk0)), (tp, .inr (11, [.ref ty, .int 0, .int 0, .int 0, .int 0, .int 0]))] H := hP
  have hD : va_D A [(jh, .inr (12, [.ref bk, .ref tp, .ref ps, .ref rl, u1, .ref bd, .ref fr, u2, .ref pn, .ref nl, u3])), (fr, .inr (4, [.ref bk, .ref bd, f1, .int 0])), (bk, .inr (2, [.ref ca, .ref bc, .ref bb, .ref bs, .int 0, .int 0])), (ca, .inl (gI G, 2088, .inl bk0)), (tp, .inr (11, [.ref ty, .int 0, .int 0, .int 0, .int 0, .int 0]))] := hD
  have hw : r_2 = 0 := hw
  subst hw
  refine W.eq (g2 := F0 m 28 ls [.int 0]) rfl ?_
  refine lv_istore_n (lv' := [(1, .int 0), (0, .ref jh)]) hx hb dX11_laws_28 rfl hl (by decide) rfl (fun ls hl => ?_)
  refine lv_aload_n hx hb dX11_laws_29 rfl (lv_at hl 1 rfl) ?_
  refine va_get (D := gD G) (ci := 12) (v := .ref tp) (C := RX11) (T := TX11) (N := 11) hx hb hts (fun _ h9 => (List.mem_cons_of_mem _ (List.mem_append_right _ (List.mem_append_left _ h9)))) hown hK hP 0 rfl rfl 1 (by decide) (hts (.fieldLink RX11 19 "JudoHall" "tape" "LJudoHall$Tape;") (List.mem_cons_of_mem _ (List.mem_append_left _ (List.mem_of_getElem? (i := 10) rfl)))) (fun _ h9 => h9) rfl dX11_laws_30 ?_
  refine lv_iconst (v := 0) hx hb dX11_laws_33 (by decide) ?_
  refine va_putN (D := gD G) (ci := 11) (v := .int 0) (ty := tyX10 1) (C := RX10) (T := TX10) (N := 6) hx hb hts (fun _ h9 => (List.mem_cons_of_mem _ (List.mem_append_right _ (List.mem_append_right _ (List.mem_append_right _ (List.mem_append_right _ (List.mem_append_left _ h9))))))) tyX10 tyX10_ok nmX10 hown hK hP hD hS 4 rfl rfl 1 (by decide) (hB.nf 0 rfl) (fun _ h9 => h9) rfl (tyX10_ok 1 (by decide)) rfl rfl (Nat.le_of_ble_eq_true rfl) dX11_laws_34 (fun H locs hP hD hS => ?_)
  have hP : va_P (gD G) vwCl [(jh, .inr (12, [.ref bk, .ref tp, .ref ps, .ref rl, u1, .ref bd, .ref fr, u2, .ref pn, .ref nl, u3])), (fr, .inr (4, [.ref bk, .ref bd, f1, .int 0])), (bk, .inr (2, [.ref ca, .ref bc, .ref bb, .ref bs, .int 0, .int 0])), (ca, .inl (gI G, 2088, .inl bk0)), (tp, .inr (11, [.ref ty, .int 0, .int 0, .int 0, .int 0, .int 0]))] H := hP
  have hD : va_D A [(jh, .inr (12, [.ref bk, .ref tp, .ref ps, .ref rl, u1, .ref bd, .ref fr, u2, .ref pn, .ref nl, u3])), (fr, .inr (4, [.ref bk, .ref bd, f1, .int 0])), (bk, .inr (2, [.ref ca, .ref bc, .ref bb, .ref bs, .int 0, .int 0])), (ca, .inl (gI G, 2088, .inl bk0)), (tp, .inr (11, [.ref ty, .int 0, .int 0, .int 0, .int 0, .int 0]))] := hD
  refine lv_iload_n hx hb dX11_laws_37 rfl (lv_at hl 0 rfl) ?_
  refine lv_if_ne (tgt := 43) hx hb dX11_laws_38 (by decide) (fun c9 => absurd (by decide) c9) (fun _ => ?_)
  refine lv_iconst (v := (-1)) hx hb dX11_laws_41 (by decide) ?_
  have hP9 := hP.sub (ws' := []) [] rfl
  have hD9 := hD.sub (ws' := []) [] (by decide) rfl
  exact W.iret (v := (-1)) hx hb hr (fun t ht hW => ⟨⟨_, (), rfl, rfl, by rw [ht]; exact hP9, hD9⟩, hS.F ht⟩) hS.2.2 dX11_laws_42

def wo_q_fault : List Cond := [.fieldLink RX11 28 "JudoHall" "parser" "LJudoHall$Parser;"]
def wq_q_fault : List Cond := .code yX11_fault cX11_fault 2 (some .int) :: (wo_q_fault ++ (wsX110 ++ (wsX50 ++ [])))
theorem gd_q_fault : ∀ w ∈ wq_q_fault, Gd w := List.forall_mem_cons.mpr ⟨Or.inl rfl, List.forall_mem_append.mpr ⟨gdl wo_q_fault (by decide +kernel), (List.forall_mem_append.mpr ⟨gd_wsX110, (List.forall_mem_append.mpr ⟨gd_wsX50, (fun _ h => absurd h List.not_mem_nil)⟩)⟩)⟩⟩
theorem in_q_fault : ∀ w ∈ wq_q_fault, w ∈ lw_tbl := List.forall_mem_cons.mpr ⟨List.mem_of_getElem? (i := 974) (by decide +kernel), List.forall_mem_append.mpr ⟨inT wo_q_fault [557] (by decide +kernel), (List.forall_mem_append.mpr ⟨in_wsX110, (List.forall_mem_append.mpr ⟨in_wsX50, (fun _ h => absurd h List.not_mem_nil)⟩)⟩)⟩⟩
set_option maxHeartbeats 4000000 in
set_option maxRecDepth 100000 in
theorem q_fault (l : Launch) (G : gG) (jh : Nat) (bk : Nat) (tp : Nat) (ps : Nat) (rl : Nat) (u1 : Value) (bd : Nat) (fr : Nat) (u2 : Value) (pn : Nat) (nl : Nat) (u3 : Value) (p1 : Value) (p2 : Value) (p3 : Value) (dr : Nat) (x : Int32) : Met l yX11_fault wq_q_fault ({ frames := 0, cells := 0, slots := 0, locals := 0 }) (va_Pc [.ref jh, .int x] (pP G [(jh, .inr (12, [.ref bk, .ref tp, .ref ps, .ref rl, u1, .ref bd, .ref fr, u2, .ref pn, .ref nl, u3])), (ps, .inr (6, [.ref tp, p1, p2, p3, .ref dr, .int 0, .int 0, .int 0, .int (-1), .int 0, .int 0, .int 0, .int 0, .int 0]))])) (vp_Si (fun r : Int32 => r = if x = 0 then 0 else (-1))) 0 0 (fun _ => False) := by
  refine Met.ofW (cc := cX11_fault) (maxL := 2) (ret := (some .int)) (by decide) rfl ?_
  intro p e s m args below meth c s₁ B hml hv
  obtain ⟨rfl, hP, hB⟩ := hv
  have hx := B.exec
  have hb := B.bytes
  have hr := B.returns
  have hts := atoms_spec (ws := wq_q_fault) B.pre
  have hown : s.vm.findClass RX11 = some m.cls := findClass_of_methodNamed B.named
  have hlocks := B.notSynchronized
  have hK := hB.1
  have hP : va_P (gD G) vwCl [(jh, .inr (12, [.ref bk, .ref tp, .ref ps, .ref rl, u1, .ref bd, .ref fr, u2, .ref pn, .ref nl, u3])), (ps, .inr (6, [.ref tp, p1, p2, p3, .ref dr, .int 0, .int 0, .int 0, .int (-1), .int 0, .int 0, .int 0, .int 0, .int 0]))] s.heap := hP
  have hl := lv_entry ([.ref jh, .int x]) (n := 2) (Nat.le_of_ble_eq_true rfl)
  rw [lg_entry_eq]
  generalize (lg_sl ([.ref jh, .int x]) ++ List.replicate (2 - (lg_sl ([.ref jh, .int x])).length) Slot.unset).toArray = ls at hl ⊢
  have hl : lv_has ls 2 [(0, .ref jh), (1, .int x)] := hl
  refine lv_iload_n hx hb dX11_fault_0 rfl (lv_at hl 1 rfl) ?_
  refine lv_if_ne (tgt := 12) hx hb dX11_fault_1 (by decide) (fun c_1 => ?_) (fun c_1 => ?_)
  · skip
    refine lv_iload_n hx hb dX11_fault_12 rfl (lv_at hl 1 rfl) ?_
    refine lv_iconst (v := 1) hx hb dX11_fault_13 (by decide) ?_
    refine lv_icmp_ne (tgt := 27) hx hb dX11_fault_14 (by decide) (fun c_2 => ?_) (fun c_2 => ?_)
    · skip
      refine lv_iconst (v := (-1)) hx hb dX11_fault_27 (by decide) ?_
      exact W.iret (v := (-1)) hx hb hr (fun t ht hW => ⟨_, rfl, by rw [if_neg (show ¬ (x = 0) from c_1)], ht⟩) (fun q h => absurd h List.not_mem_nil) dX11_fault_28
    · skip
      refine lv_aload_n hx hb dX11_fault_17 rfl (lv_at hl 0 rfl) ?_
      refine va_get (D := gD G) (ci := 12) (v := .ref ps) (C := RX11) (T := TX11) (N := 11) hx hb hts (fun _ h9 => (List.mem_cons_of_mem _ (List.mem_append_right _ (List.mem_append_left _ h9)))) hown hK hP 0 rfl rfl 2 (by decide) (hts (.fieldLink RX11 28 "JudoHall" "parser" "LJudoHall$Parser;") (List.mem_cons_of_mem _ (List.mem_append_left _ (List.mem_of_getElem? (i := 0) rfl)))) (fun _ h9 => h9) rfl dX11_fault_18 ?_
      refine va_getN (D := gD G) (ci := 6) (v := .int (-1)) (C := RX5) (T := TX5) (N := 14) hx hb hts (fun _ h9 => (List.mem_cons_of_mem _ (List.mem_append_right _ (List.mem_append_right _ (List.mem_append_left _ h9))))) hown hK hP 1 rfl rfl 8 (by decide) (hB.nf 3 rfl) (fun _ h9 => h9) rfl dX11_fault_21 ?_
      refine lv_goto (tgt := 28) hx hb dX11_fault_24 (by decide) ?_
      exact W.iret (v := (-1)) hx hb hr (fun t ht hW => ⟨_, rfl, by rw [if_neg (show ¬ (x = 0) from c_1)], ht⟩) (fun q h => absurd h List.not_mem_nil) dX11_fault_28
  · skip
    refine lv_aload_n hx hb dX11_fault_4 rfl (lv_at hl 0 rfl) ?_
    refine va_get (D := gD G) (ci := 12) (v := .ref ps) (C := RX11) (T := TX11) (N := 11) hx hb hts (fun _ h9 => (List.mem_cons_of_mem _ (List.mem_append_right _ (List.mem_append_left _ h9)))) hown hK hP 0 rfl rfl 2 (by decide) (hts (.fieldLink RX11 28 "JudoHall" "parser" "LJudoHall$Parser;") (List.mem_cons_of_mem _ (List.mem_append_left _ (List.mem_of_getElem? (i := 0) rfl)))) (fun _ h9 => h9) rfl dX11_fault_5 ?_
    refine va_getN (D := gD G) (ci := 6) (v := .int 0) (C := RX5) (T := TX5) (N := 14) hx hb hts (fun _ h9 => (List.mem_cons_of_mem _ (List.mem_append_right _ (List.mem_append_right _ (List.mem_append_left _ h9))))) hown hK hP 1 rfl rfl 9 (by decide) (hB.nf 2 rfl) (fun _ h9 => h9) rfl dX11_fault_8 ?_
    exact W.iret (v := 0) hx hb hr (fun t ht hW => ⟨_, rfl, by rw [if_pos (show x = 0 from c_1)], ht⟩) (fun q h => absurd h List.not_mem_nil) dX11_fault_11

def wo_q_limit : List Cond := [.methodLink RX11 157 yX11_isClass, .static yX11_isClass, .initialized RX11, .methodLink RX11 161 yX11_isGrams, .static yX11_isGrams, .fieldLink RX11 51 "JudoHall" "board" "LJudoHall$Board;", .methodLink RX11 164 yX0_isDrawn, .instanceMethod yX0_isDrawn, .selects RX0 yX0_isDrawn yX0_isDrawn, .initialized RX0, .fieldLink RX11 37 "JudoHall" "roll" "LJudoHall$Roll;", .methodLink RX11 167 yX8_wasAnyAtScales, .instanceMethod yX8_wasAnyAtScales, .selects RX8 yX8_wasAnyAtScales yX8_wasAnyAtScales, .initialized RX8, .fieldLink RX11 10 "JudoHall" "book" "LJudoHall$Book;", .methodLink RX11 108 yX1_isFull, .instanceMethod yX1_isFull, .selects RX1 yX1_isFull yX1_isFull, .initialized RX1, .methodLink RX11 111 yX1_openEntry, .instanceMethod yX1_openEntry, .selects RX1 yX1_openEntry yX1_openEntry, .methodLink RX11 170 yX1_ofClass, .static yX1_ofClass, .methodLink RX11 149 yX1_put, .instanceMethod yX1_put, .selects RX1 yX1_put yX1_put]
def wq_q_limit : List Cond := .code yX11_limit cX11_limit 4 (some .int) :: (wo_q_limit ++ (wq_c_isClass ++ (wq_c_isGrams ++ (wsX110 ++ (wq_c_Board_isDrawn ++ (wq_c_wasAny ++ (wq_c_isFull ++ (wq_c_openEntry ++ (wq_c_Book_ofClass ++ (wq_c_put ++ []))))))))))
theorem gd_q_limit : ∀ w ∈ wq_q_limit, Gd w := List.forall_mem_cons.mpr ⟨Or.inl rfl, List.forall_mem_append.mpr ⟨gdl wo_q_limit (by decide +kernel), (List.forall_mem_append.mpr ⟨gd_c_isClass, (List.forall_mem_append.mpr ⟨gd_c_isGrams, (List.forall_mem_append.mpr ⟨gd_wsX110, (List.forall_mem_append.mpr ⟨gd_c_Board_isDrawn, (List.forall_mem_append.mpr ⟨gd_c_wasAny, (List.forall_mem_append.mpr ⟨gd_c_isFull, (List.forall_mem_append.mpr ⟨gd_c_openEntry, (List.forall_mem_append.mpr ⟨gd_c_Book_ofClass, (List.forall_mem_append.mpr ⟨gd_c_put, (fun _ h => absurd h List.not_mem_nil)⟩)⟩)⟩)⟩)⟩)⟩)⟩)⟩)⟩)⟩⟩
theorem in_q_limit : ∀ w ∈ wq_q_limit, w ∈ lw_tbl := List.forall_mem_cons.mpr ⟨List.mem_of_getElem? (i := 978) (by decide +kernel), List.forall_mem_append.mpr ⟨inT wo_q_limit [979, 980, 154, 982, 983, 560, 986, 987, 988, 164, 558, 996, 997, 998, 162, 555, 849, 850, 851, 155, 853, 854, 855, 1012, 219, 943, 944, 945] (by decide +kernel), (List.forall_mem_append.mpr ⟨in_c_isClass, (List.forall_mem_append.mpr ⟨in_c_isGrams, (List.forall_mem_append.mpr ⟨in_wsX110, (List.forall_mem_append.mpr ⟨in_c_Board_isDrawn, (List.forall_mem_append.mpr ⟨in_c_wasAny, (List.forall_mem_append.mpr ⟨in_c_isFull, (List.forall_mem_append.mpr ⟨in_c_openEntry, (List.forall_mem_append.mpr ⟨in_c_Book_ofClass, (List.forall_mem_append.mpr ⟨in_c_put, (fun _ h => absurd h List.not_mem_nil)⟩)⟩)⟩)⟩)⟩)⟩)⟩)⟩)⟩)⟩⟩
set_option maxHeartbeats 4000000 in
set_option maxRecDepth 100000 in
theorem q_limit (l : Launch) (G : gG) (jh : Nat) (bk : Nat) (tp : Nat) (ps : Nat) (rl : Nat) (u1 : Value) (bd : Nat) (fr : Nat) (u2 : Value) (pn : Nat) (nl : Nat) (u3 : Value) (b1 : Value) (b2 : Value) (b3 : Value) (b4 : Value) (b5 : Value) (ca : Nat) (bc : Nat) (bb : Nat) (bs : Nat) (bc2 : Nat) (bb2 : Nat) (bs2 : Nat) (x : Int32) (y : Int32) (z : Int32) (sz : Nat) : Met l yX11_limit wq_q_limit ({ frames := 3, cells := 0, slots := 0, locals := 63 }) (va_Pc [.ref jh, .int x, .int y, .int z] (mP G [(jh, .inr (12, [.ref bk, .ref tp, .ref ps, .ref rl, u1, .ref bd, .ref fr, u2, .ref pn, .ref nl, u3])), (rl, .inr (9, [.ref bk])), (bd, .inr (1, [.ref bk, b1, b2, b3, b4, b5])), (bk, .inr (2, [.ref ca, .ref bc, .ref bb, .ref bs, .int 0, .int 0])), (ca, .inl (gI G, 2088, .inl bk0)), (bc, .inr (10, [.ref bc2])), (bc2, .inl (gI G, 512, .inl (fl 512 0 (fun _ => 0)))), (bb, .inr (10, [.ref bb2])), (bb2, .inl (gI G, 512, .inl (fl 512 0 (fun _ => 0)))), (bs, .inr (10, [.ref bs2])), (bs2, .inl (gI G, 500, .inl (fl 500 0 (fun _ => 0))))] sz)) (va_Qi (fun (r : Int32) (_ : Unit) => r = if x < 0 ∨ 4 ≤ x ∨ y < 0 ∨ 200000 < y ∨ z < 0 ∨ 200000 < z ∨ z < y then (-2) else 1) (fun (_ : Unit) (t : State) => va_P (gD G) vwCl [] t.heap ∧ va_D (va_A [(jh, .inr (12, [.ref bk, .ref tp, .ref ps, .ref rl, u1, .ref bd, .ref fr, u2, .ref pn, .ref nl, u3])), (rl, .inr (9, [.ref bk])), (bd, .inr (1, [.ref bk, b1, b2, b3, b4, b5])), (bk, .inr (2, [.ref ca, .ref bc, .ref bb, .ref bs, .int 0, .int 0])), (ca, .inl (gI G, 2088, .inl bk0)), (bc, .inr (10, [.ref bc2])), (bc2, .inl (gI G, 512, .inl (fl 512 0 (fun _ => 0)))), (bb, .inr (10, [.ref bb2])), (bb2, .inl (gI G, 512, .inl (fl 512 0 (fun _ => 0)))), (bs, .inr (10, [.ref bs2])), (bs2, .inl (gI G, 500, .inl (fl 500 0 (fun _ => 0))))] sz) []) (va_A [(jh, .inr (12, [.ref bk, .ref tp, .ref ps, .ref rl, u1, .ref bd, .ref fr, u2, .ref pn, .ref nl, u3])), (rl, .inr (9, [.ref bk])), (bd, .inr (1, [.ref bk, b1, b2, b3, b4, b5])), (bk, .inr (2, [.ref ca, .ref bc, .ref bb, .ref bs, .int 0, .int 0])), (ca, .inl (gI G, 2088, .inl bk0)), (bc, .inr (10, [.ref bc2])), (bc2, .inl (gI G, 512, .inl (fl 512 0 (fun _ => 0)))), (bb, .inr (10, [.ref bb2])), (bb2, .inl (gI G, 512, .inl (fl 512 0 (fun _ => 0)))), (bs, .inr (10, [.ref bs2])), (bs2, .inl (gI G, 500, .inl (fl 500 0 (fun _ => 0))))] sz)) 0 0 (va_A [(jh, .inr (12, [.ref bk, .ref tp, .ref ps, .ref rl, u1, .ref bd, .ref fr, u2, .ref pn, .ref nl, u3])), (rl, .inr (9, [.ref bk])), (bd, .inr (1, [.ref bk, b1, b2, b3, b4, b5])), (bk, .inr (2, [.ref ca, .ref bc, .ref bb, .ref bs, .int 0, .int 0])), (ca, .inl (gI G, 2088, .inl bk0)), (bc, .inr (10, [.ref bc2])), (bc2, .inl (gI G, 512, .inl (fl 512 0 (fun _ => 0)))), (bb, .inr (10, [.ref bb2])), (bb2, .inl (gI G, 512, .inl (fl 512 0 (fun _ => 0)))), (bs, .inr (10, [.ref bs2])), (bs2, .inl (gI G, 500, .inl (fl 500 0 (fun _ => 0))))] sz) := by
  refine Met.ofW (cc := cX11_limit) (maxL := 4) (ret := (some .int)) (by decide) rfl ?_
  intro p e s m args below meth c s₁ B hml hv
  obtain ⟨rfl, hsz, hP, hB, hD0⟩ := hv
  have hx := B.exec
  have hb := B.bytes
  have hr := B.returns
  have hts := atoms_spec (ws := wq_q_limit) B.pre
  have hown : s.vm.findClass RX11 = some m.cls := findClass_of_methodNamed B.named
  have hlocks := B.notSynchronized
  have hK := hB.1
  subst hsz
  have hD := hD0.self (sz := s.heap.size)
  generalize hAe : va_A [(jh, .inr (12, [.ref bk, .ref tp, .ref ps, .ref rl, u1, .ref bd, .ref fr, u2, .ref pn, .ref nl, u3])), (rl, .inr (9, [.ref bk])), (bd, .inr (1, [.ref bk, b1, b2, b3, b4, b5])), (bk, .inr (2, [.ref ca, .ref bc, .ref bb, .ref bs, .int 0, .int 0])), (ca, .inl (gI G, 2088, .inl bk0)), (bc, .inr (10, [.ref bc2])), (bc2, .inl (gI G, 512, .inl (fl 512 0 (fun _ => 0)))), (bb, .inr (10, [.ref bb2])), (bb2, .inl (gI G, 512, .inl (fl 512 0 (fun _ => 0)))), (bs, .inr (10, [.ref bs2])), (bs2, .inl (gI G, 500, .inl (fl 500 0 (fun _ => 0))))] s.heap.size = A at hD ⊢
  have hA : ∀ q : Nat, s.heap.size ≤ q → A q := fun q h => by rw [← hAe]; exact Or.inr h
  have hS : va_S A s.heap s.heap [] := va_S.rf
  have hP : va_P (gD G) vwCl [(jh, .inr (12, [.ref bk, .ref tp, .ref ps, .ref rl, u1, .ref bd, .ref fr, u2, .ref pn, .ref nl, u3])), (rl, .inr (9, [.ref bk])), (bd, .inr (1, [.ref bk, b1, b2, b3, b4, b5])), (bk, .inr (2, [.ref ca, .ref bc, .ref bb, .ref bs, .int 0, .int 0])), (ca, .inl (gI G, 2088, .inl bk0)), (bc, .inr (10, [.ref bc2])), (bc2, .inl (gI G, 512, .inl (fl 512 0 (fun _ => 0)))), (bb, .inr (10, [.ref bb2])), (bb2, .inl (gI G, 512, .inl (fl 512 0 (fun _ => 0)))), (bs, .inr (10, [.ref bs2])), (bs2, .inl (gI G, 500, .inl (fl 500 0 (fun _ => 0))))] s.heap := hP
  have hD : va_D A [(jh, .inr (12, [.ref bk, .ref tp, .ref ps, .ref rl, u1, .ref bd, .ref fr, u2, .ref pn, .ref nl, u3])), (rl, .inr (9, [.ref bk])), (bd, .inr (1, [.ref bk, b1, b2, b3, b4, b5])), (bk, .inr (2, [.ref ca, .ref bc, .ref bb, .ref bs, .int 0, .int 0])), (ca, .inl (gI G, 2088, .inl bk0)), (bc, .inr (10, [.ref bc2])), (bc2, .inl (gI G, 512, .inl (fl 512 0 (fun _ => 0)))), (bb, .inr (10, [.ref bb2])), (bb2, .inl (gI G, 512, .inl (fl 512 0 (fun _ => 0)))), (bs, .inr (10, [.ref bs2])), (bs2, .inl (gI G, 500, .inl (fl 500 0 (fun _ => 0))))] := hD
  have hl := lv_entry ([.ref jh, .int x, .int y, .int z]) (n := 4) (Nat.le_of_ble_eq_true rfl)
  rw [lg_entry_eq]
  generalize (lg_sl ([.ref jh, .int x, .int y, .int z]) ++ List.replicate (4 - (lg_sl ([.ref jh, .int x, .int y, .int z])).length) Slot.unset).toArray = ls at hl ⊢
  have hl : lv_has ls 4 [(0, .ref jh), (1, .int x), (2, .int y), (3, .int z)] := hl
  refine lv_iload_n hx hb dX11_limit_0 rfl (lv_at hl 1 rfl) ?_
  refine vp_callSi (va_Run.run (va_runS (As := [.int x]) (rest := []) ⟨hx, hb, hml, hown, hts⟩ (c_isClass l G x) (va_cwS 1 hts (gdS (List.mem_cons_of_mem _ (List.mem_append_left _ (List.mem_of_getElem? (i := 0) rfl))) (List.mem_cons_of_mem _ (List.mem_append_left _ (List.mem_of_getElem? (i := 1) rfl))) (List.mem_cons_of_mem _ (List.mem_append_left _ (List.mem_of_getElem? (i := 2) rfl))) (fun w9 h9 => ⟨(List.mem_cons_of_mem _ (List.mem_append_right _ (List.mem_append_left _ h9))), gd_c_isClass w9 h9⟩)) rfl rfl rfl kSX11_isClass ⟨Nat.le_of_ble_eq_true rfl, Nat.le_of_ble_eq_true rfl⟩) (preS_p (As := [.int x]) (hP.sub (ws' := []) [] rfl) hB) rfl rfl hl.1 rfl (lv_room (Nat.le_of_ble_eq_true rfl)) dX11_limit_1 ⟨Nat.le_of_ble_eq_true rfl, Nat.le_of_ble_eq_true rfl⟩)) (fun r_1 hr_1 => ?_)
  by_cases c_2 : x < 0
  · have hr_1 : r_1 = 0 := hr_1.trans (by rw [if_pos (show x < 0 ∨ 4 ≤ x from (Or.inl c_2))])
    subst hr_1
    refine lv_if_eq (tgt := 26) hx hb dX11_limit_4 (by decide) (fun _ => ?_) (fun c9 => absurd (by decide) c9)
    refine lv_bipush (v := (-2)) hx hb dX11_limit_26 (by decide) ?_
    have hP9 := hP.sub (ws' := []) [] rfl
    have hD9 := hD.sub (ws' := []) [] (by decide) rfl
    exact W.iret (v := (-2)) hx hb hr (fun t ht hW => ⟨⟨_, (), rfl, by rw [if_pos (show x < 0 ∨ 4 ≤ x ∨ y < 0 ∨ 200000 < y ∨ z < 0 ∨ 200000 < z ∨ z < y from (Or.inl c_2))], by rw [ht]; exact hP9, hD9⟩, hS.F ht⟩) hS.2.2 dX11_limit_28
  by_cases c_3 : 4 ≤ x
  · have hr_1 : r_1 = 0 := hr_1.trans (by rw [if_pos (show x < 0 ∨ 4 ≤ x from (Or.inr c_3))])
    subst hr_1
    refine lv_if_eq (tgt := 26) hx hb dX11_limit_4 (by decide) (fun _ => ?_) (fun c9 => absurd (by decide) c9)
    refine lv_bipush (v := (-2)) hx hb dX11_limit_26 (by decide) ?_
    have hP9 := hP.sub (ws' := []) [] rfl
    have hD9 := hD.sub (ws' := []) [] (by decide) rfl
    exact W.iret (v := (-2)) hx hb hr (fun t ht hW => ⟨⟨_, (), rfl, by rw [if_pos (show x < 0 ∨ 4 ≤ x ∨ y < 0 ∨ 200000 < y ∨ z < 0 ∨ 200000 < z ∨ z < y from (Or.inr (Or.inl c_3)))], by rw [ht]; exact hP9, hD9⟩, hS.F ht⟩) hS.2.2 dX11_limit_28
  have hr_1 : r_1 = 1 := hr_1.trans (by rw [if_neg (show ¬ (x < 0 ∨ 4 ≤ x) from (not_or.mpr ⟨c_2, c_3⟩))])
  subst hr_1
  refine lv_if_eq (tgt := 26) hx hb dX11_limit_4 (by decide) (fun c9 => absurd c9 (by decide)) (fun _ => ?_)
  refine lv_iload_n hx hb dX11_limit_7 rfl (lv_at hl 2 rfl) ?_
  refine vp_callSi (va_Run.run (va_runS (As := [.int y]) (rest := []) ⟨hx, hb, hml, hown, hts⟩ (c_isGrams l G y) (va_cwS 1 hts (gdS (List.mem_cons_of_mem _ (List.mem_append_left _ (List.mem_of_getElem? (i := 3) rfl))) (List.mem_cons_of_mem _ (List.mem_append_left _ (List.mem_of_getElem? (i := 4) rfl))) (List.mem_cons_of_mem _ (List.mem_append_left _ (List.mem_of_getElem? (i := 2) rfl))) (fun w9 h9 => ⟨(List.mem_cons_of_mem _ (List.mem_append_right _ (List.mem_append_right _ (List.mem_append_left _ h9)))), gd_c_isGrams w9 h9⟩)) rfl rfl rfl kSX11_isGrams ⟨Nat.le_of_ble_eq_true rfl, Nat.le_of_ble_eq_true rfl⟩) (preS_p (As := [.int y]) (hP.sub (ws' := []) [] rfl) hB) rfl rfl hl.1 rfl (lv_room (Nat.le_of_ble_eq_true rfl)) dX11_limit_8 ⟨Nat.le_of_ble_eq_true rfl, Nat.le_of_ble_eq_true rfl⟩)) (fun r_4 hr_4 => ?_)
  by_cases c_5 : y < 0
  · have hr_4 : r_4 = 0 := hr_4.trans (by rw [if_pos (show y < 0 ∨ 200000 < y from (Or.inl c_5))])
    subst hr_4
    refine lv_if_eq (tgt := 26) hx hb dX11_limit_11 (by decide) (fun _ => ?_) (fun c9 => absurd (by decide) c9)
    refine lv_bipush (v := (-2)) hx hb dX11_limit_26 (by decide) ?_
    have hP9 := hP.sub (ws' := []) [] rfl
    have hD9 := hD.sub (ws' := []) [] (by decide) rfl
    exact W.iret (v := (-2)) hx hb hr (fun t ht hW => ⟨⟨_, (), rfl, by rw [if_pos (show x < 0 ∨ 4 ≤ x ∨ y < 0 ∨ 200000 < y ∨ z < 0 ∨ 200000 < z ∨ z < y from (Or.inr (Or.inr (Or.inl c_5))))], by rw [ht]; exact hP9, hD9⟩, hS.F ht⟩) hS.2.2 dX11_limit_28
  by_cases c_6 : 200000 < y
  · have hr_4 : r_4 = 0 := hr_4.trans (by rw [if_pos (show y < 0 ∨ 200000 < y from (Or.inr c_6))])
    subst hr_4
    refine lv_if_eq (tgt := 26) hx hb dX11_limit_11 (by decide) (fun _ => ?_) (fun c9 => absurd (by decide) c9)
    refine lv_bipush (v := (-2)) hx hb dX11_limit_26 (by decide) ?_
    have hP9 := hP.sub (ws' := []) [] rfl
    have hD9 := hD.sub (ws' := []) [] (by decide) rfl
    exact W.iret (v := (-2)) hx hb hr (fun t ht hW => ⟨⟨_, (), rfl, by rw [if_pos (show x < 0 ∨ 4 ≤ x ∨ y < 0 ∨ 200000 < y ∨ z < 0 ∨ 200000 < z ∨ z < y from (Or.inr (Or.inr (Or.inr (Or.inl c_6)))))], by rw [ht]; exact hP9, hD9⟩, hS.F ht⟩) hS.2.2 dX11_limit_28
  have hr_4 : r_4 = 1 := hr_4.trans (by rw [if_neg (show ¬ (y < 0 ∨ 200000 < y) from (not_or.mpr ⟨c_5, c_6⟩))])
  subst hr_4
  refine lv_if_eq (tgt := 26) hx hb dX11_limit_11 (by decide) (fun c9 => absurd c9 (by decide)) (fun _ => ?_)
  refine lv_iload_n hx hb dX11_limit_14 rfl (lv_at hl 3 rfl) ?_
  refine vp_callSi (va_Run.run (va_runS (As := [.int z]) (rest := []) ⟨hx, hb, hml, hown, hts⟩ (c_isGrams l G z) (va_cwS 1 hts (gdS (List.mem_cons_of_mem _ (List.mem_append_left _ (List.mem_of_getElem? (i := 3) rfl))) (List.mem_cons_of_mem _ (List.mem_append_left _ (List.mem_of_getElem? (i := 4) rfl))) (List.mem_cons_of_mem _ (List.mem_append_left _ (List.mem_of_getElem? (i := 2) rfl))) (fun w9 h9 => ⟨(List.mem_cons_of_mem _ (List.mem_append_right _ (List.mem_append_right _ (List.mem_append_left _ h9)))), gd_c_isGrams w9 h9⟩)) rfl rfl rfl kSX11_isGrams ⟨Nat.le_of_ble_eq_true rfl, Nat.le_of_ble_eq_true rfl⟩) (preS_p (As := [.int z]) (hP.sub (ws' := []) [] rfl) hB) rfl rfl hl.1 rfl (lv_room (Nat.le_of_ble_eq_true rfl)) dX11_limit_15 ⟨Nat.le_of_ble_eq_true rfl, Nat.le_of_ble_eq_true rfl⟩)) (fun r_7 hr_7 => ?_)
  by_cases c_8 : z < 0
  · have hr_7 : r_7 = 0 := hr_7.trans (by rw [if_pos (show z < 0 ∨ 200000 < z from (Or.inl c_8))])
    subst hr_7
    refine lv_if_eq (tgt := 26) hx hb dX11_limit_18 (by decide) (fun _ => ?_) (fun c9 => absurd (by decide) c9)
    refine lv_bipush (v := (-2)) hx hb dX11_limit_26 (by decide) ?_
    have hP9 := hP.sub (ws' := []) [] rfl
    have hD9 := hD.sub (ws' := []) [] (by decide) rfl
    exact W.iret (v := (-2)) hx hb hr (fun t ht hW => ⟨⟨_, (), rfl, by rw [if_pos (show x < 0 ∨ 4 ≤ x ∨ y < 0 ∨ 200000 < y ∨ z < 0 ∨ 200000 < z ∨ z < y from (Or.inr (Or.inr (Or.inr (Or.inr (Or.inl c_8))))))], by rw [ht]; exact hP9, hD9⟩, hS.F ht⟩) hS.2.2 dX11_limit_28
  by_cases c_9 : 200000 < z
  · have hr_7 : r_7 = 0 := hr_7.trans (by rw [if_pos (show z < 0 ∨ 200000 < z from (Or.inr c_9))])
    subst hr_7
    refine lv_if_eq (tgt := 26) hx hb dX11_limit_18 (by decide) (fun _ => ?_) (fun c9 => absurd (by decide) c9)
    refine lv_bipush (v := (-2)) hx hb dX11_limit_26 (by decide) ?_
    have hP9 := hP.sub (ws' := []) [] rfl
    have hD9 := hD.sub (ws' := []) [] (by decide) rfl
    exact W.iret (v := (-2)) hx hb hr (fun t ht hW => ⟨⟨_, (), rfl, by rw [if_pos (show x < 0 ∨ 4 ≤ x ∨ y < 0 ∨ 200000 < y ∨ z < 0 ∨ 200000 < z ∨ z < y from (Or.inr (Or.inr (Or.inr (Or.inr (Or.inr (Or.inl c_9)))))))], by rw [ht]; exact hP9, hD9⟩, hS.F ht⟩) hS.2.2 dX11_limit_28
  have hr_7 : r_7 = 1 := hr_7.trans (by rw [if_neg (show ¬ (z < 0 ∨ 200000 < z) from (not_or.mpr ⟨c_8, c_9⟩))])
  subst hr_7
  refine lv_if_eq (tgt := 26) hx hb dX11_limit_18 (by decide) (fun c9 => absurd c9 (by decide)) (fun _ => ?_)
  refine lv_iload_n hx hb dX11_limit_21 rfl (lv_at hl 2 rfl) ?_
  refine lv_iload_n hx hb dX11_limit_22 rfl (lv_at hl 3 rfl) ?_
  refine lv_icmp_le (tgt := 29) hx hb dX11_limit_23 (by decide) (fun c_10 => ?_) (fun c_10 => ?_)
  · skip
    refine lv_aload_n hx hb dX11_limit_29 rfl (lv_at hl 0 rfl) ?_
    refine va_get (D := gD G) (ci := 12) (v := .ref bd) (C := RX11) (T := TX11) (N := 11) hx hb hts (fun _ h9 => (List.mem_cons_of_mem _ (List.mem_append_right _ (List.mem_append_right _ (List.mem_append_right _ (List.mem_append_left _ h9)))))) hown hK hP 0 rfl rfl 5 (by decide) (hts (.fieldLink RX11 51 "JudoHall" "board" "LJudoHall$Board;") (List.mem_cons_of_mem _ (List.mem_append_left _ (List.mem_of_getElem? (i := 5) rfl)))) (fun _ h9 => h9) rfl dX11_limit_30 ?_
    refine lv_iload_n hx hb dX11_limit_33 rfl (lv_at hl 1 rfl) ?_
    refine vp_callSi (va_Run.run (va_runV (As := [.int x]) (rest := []) ⟨hx, hb, hml, hown, hts⟩ (c_Board_isDrawn l G bd bk ca 2088 bk0 (.ref bc) (.ref bb) (.ref bs) (.int 0) (.int 0) b1 b2 b3 b4 b5 x (by decide)) (cwV 1 hts (gdV (List.mem_cons_of_mem _ (List.mem_append_left _ (List.mem_of_getElem? (i := 6) rfl))) (List.mem_cons_of_mem _ (List.mem_append_left _ (List.mem_of_getElem? (i := 7) rfl))) (List.mem_cons_of_mem _ (List.mem_append_left _ (List.mem_of_getElem? (i := 8) rfl))) (List.mem_cons_of_mem _ (List.mem_append_left _ (List.mem_of_getElem? (i := 9) rfl))) (fun w9 h9 => ⟨(List.mem_cons_of_mem _ (List.mem_append_right _ (List.mem_append_right _ (List.mem_append_right _ (List.mem_append_right _ (List.mem_append_left _ h9)))))), gd_c_Board_isDrawn w9 h9⟩)) rfl rfl rfl kVX0_isDrawn ⟨Nat.le_of_ble_eq_true rfl, Nat.le_of_ble_eq_true rfl⟩) (preV_p (As := [.int x]) (hP.sub (ws' := [(bd, .inr (1, [.ref bk, b1, b2, b3, b4, b5])), (bk, .inr (2, [.ref ca, .ref bc, .ref bb, .ref bs, .int 0, .int 0])), (ca, .inl (gI G, 2088, .inl bk0))]) [2, 3, 4] rfl) hB rfl rfl) rfl rfl hl.1 rfl (lv_room (Nat.le_of_ble_eq_true rfl)) dX11_limit_34 ⟨Nat.le_of_ble_eq_true rfl, Nat.le_of_ble_eq_true rfl⟩)) (fun r_11 hr_11 => ?_)
    have hr_11 : r_11 = 0 := hr_11.trans (if_pos (bk_kind c_2 c_3))
    subst hr_11
    refine lv_if_ne (tgt := 51) hx hb dX11_limit_37 (by decide) (fun c9 => absurd (by decide) c9) (fun _ => ?_)
    refine lv_aload_n hx hb dX11_limit_40 rfl (lv_at hl 0 rfl) ?_
    refine va_get (D := gD G) (ci := 12) (v := .ref rl) (C := RX11) (T := TX11) (N := 11) hx hb hts (fun _ h9 => (List.mem_cons_of_mem _ (List.mem_append_right _ (List.mem_append_right _ (List.mem_append_right _ (List.mem_append_left _ h9)))))) hown hK hP 0 rfl rfl 3 (by decide) (hts (.fieldLink RX11 37 "JudoHall" "roll" "LJudoHall$Roll;") (List.mem_cons_of_mem _ (List.mem_append_left _ (List.mem_of_getElem? (i := 10) rfl)))) (fun _ h9 => h9) rfl dX11_limit_41 ?_
    refine lv_iload_n hx hb dX11_limit_44 rfl (lv_at hl 1 rfl) ?_
    refine vp_callSi (va_Run.run (va_runV (As := [.int x]) (rest := []) ⟨hx, hb, hml, hown, hts⟩ (c_wasAny l G rl bk ca (.ref bc) (.ref bb) (.ref bs) (.int 0) (.int 0) x) (cwV 1 hts (gdV (List.mem_cons_of_mem _ (List.mem_append_left _ (List.mem_of_getElem? (i := 11) rfl))) (List.mem_cons_of_mem _ (List.mem_append_left _ (List.mem_of_getElem? (i := 12) rfl))) (List.mem_cons_of_mem _ (List.mem_append_left _ (List.mem_of_getElem? (i := 13) rfl))) (List.mem_cons_of_mem _ (List.mem_append_left _ (List.mem_of_getElem? (i := 14) rfl))) (fun w9 h9 => ⟨(List.mem_cons_of_mem _ (List.mem_append_right _ (List.mem_append_right _ (List.mem_append_right _ (List.mem_append_right _ (List.mem_append_right _ (List.mem_append_left _ h9))))))), gd_c_wasAny w9 h9⟩)) rfl rfl rfl kVX8_wasAnyAtScales ⟨Nat.le_of_ble_eq_true rfl, Nat.le_of_ble_eq_true rfl⟩) (preV_p (As := [.int x]) (hP.sub (ws' := [(rl, .inr (9, [.ref bk])), (bk, .inr (2, [.ref ca, .ref bc, .ref bb, .ref bs, .int 0, .int 0])), (ca, .inl (gI G, 2088, .inl bk0))]) [1, 3, 4] rfl) hB rfl rfl) rfl rfl hl.1 rfl (lv_room (Nat.le_of_ble_eq_true rfl)) dX11_limit_45 ⟨Nat.le_of_ble_eq_true rfl, Nat.le_of_ble_eq_true rfl⟩)) (fun r_12 hr_12 => ?_)
    subst hr_12
    refine lv_if_eq (tgt := 54) hx hb dX11_limit_48 (by decide) (fun _ => ?_) (fun c9 => absurd (by decide) c9)
    refine lv_aload_n hx hb dX11_limit_54 rfl (lv_at hl 0 rfl) ?_
    refine va_get (D := gD G) (ci := 12) (v := .ref bk) (C := RX11) (T := TX11) (N := 11) hx hb hts (fun _ h9 => (List.mem_cons_of_mem _ (List.mem_append_right _ (List.mem_append_right _ (List.mem_append_right _ (List.mem_append_left _ h9)))))) hown hK hP 0 rfl rfl 0 (by decide) (hts (.fieldLink RX11 10 "JudoHall" "book" "LJudoHall$Book;") (List.mem_cons_of_mem _ (List.mem_append_left _ (List.mem_of_getElem? (i := 15) rfl)))) (fun _ h9 => h9) rfl dX11_limit_55 ?_
    refine vp_callSi (va_Run.run (va_runV (As := []) (rest := []) ⟨hx, hb, hml, hown, hts⟩ (c_isFull l G bk (.ref ca) (.ref bc) (.ref bb) (.ref bs) (.int 0)) (cwV 0 hts (gdV (List.mem_cons_of_mem _ (List.mem_append_left _ (List.mem_of_getElem? (i := 16) rfl))) (List.mem_cons_of_mem _ (List.mem_append_left _ (List.mem_of_getElem? (i := 17) rfl))) (List.mem_cons_of_mem _ (List.mem_append_left _ (List.mem_of_getElem? (i := 18) rfl))) (List.mem_cons_of_mem _ (List.mem_append_left _ (List.mem_of_getElem? (i := 19) rfl))) (fun w9 h9 => ⟨(List.mem_cons_of_mem _ (List.mem_append_right _ (List.mem_append_right _ (List.mem_append_right _ (List.mem_append_right _ (List.mem_append_right _ (List.mem_append_right _ (List.mem_append_left _ h9)))))))), gd_c_isFull w9 h9⟩)) rfl rfl rfl kVX1_isFull ⟨Nat.le_of_ble_eq_true rfl, Nat.le_of_ble_eq_true rfl⟩) (preV_p (As := []) (hP.sub (ws' := [(bk, .inr (2, [.ref ca, .ref bc, .ref bb, .ref bs, .int 0, .int 0]))]) [3] rfl) hB rfl rfl) rfl rfl hl.1 rfl (lv_room (Nat.le_of_ble_eq_true rfl)) dX11_limit_58 ⟨Nat.le_of_ble_eq_true rfl, Nat.le_of_ble_eq_true rfl⟩)) (fun r_13 hr_13 => ?_)
    subst hr_13
    refine lv_if_eq (tgt := 67) hx hb dX11_limit_61 (by decide) (fun _ => ?_) (fun c9 => absurd (by decide) c9)
    refine lv_aload_n hx hb dX11_limit_67 rfl (lv_at hl 0 rfl) ?_
    refine va_get (D := gD G) (ci := 12) (v := .ref bk) (C := RX11) (T := TX11) (N := 11) hx hb hts (fun _ h9 => (List.mem_cons_of_mem _ (List.mem_append_right _ (List.mem_append_right _ (List.mem_append_right _ (List.mem_append_left _ h9)))))) hown hK hP 0 rfl rfl 0 (by decide) (hts (.fieldLink RX11 10 "JudoHall" "book" "LJudoHall$Book;") (List.mem_cons_of_mem _ (List.mem_append_left _ (List.mem_of_getElem? (i := 15) rfl)))) (fun _ h9 => h9) rfl dX11_limit_68 ?_
    have hPc := hP.sub (ws' := [(bk, .inr (2, [.ref ca, .ref bc, .ref bb, .ref bs, .int 0, .int 0])), (bs, .inr (10, [.ref bs2])), (bs2, .inl (gI G, 500, .inl (fl 500 0 (fun _ => 0))))]) [3, 9, 10] rfl
    have hDc := hD.sub (ws' := [(bk, .inr (2, [.ref ca, .ref bc, .ref bb, .ref bs, .int 0, .int 0])), (bs, .inr (10, [.ref bs2])), (bs2, .inl (gI G, 500, .inl (fl 500 0 (fun _ => 0))))]) [3, 9, 10] (by decide) rfl
    have hFc := va_free (wc := [(bk, .inr (2, [.ref ca, .ref bc, .ref bb, .ref bs, .int 0, .int 0])), (bs, .inr (10, [.ref bs2])), (bs2, .inl (gI G, 500, .inl (fl 500 0 (fun _ => 0))))]) hD hS hA [3, 9, 10] rfl
    refine va_callv (va_runV (As := []) (rest := []) ⟨hx, hb, hml, hown, hts⟩ (c_openEntry l G bk (.ref ca) (.ref bc) (.ref bb) bs bs2 (fl 500 0 (fun _ => 0)) s.heap.size) (cwV 0 hts (gdV (List.mem_cons_of_mem _ (List.mem_append_left _ (List.mem_of_getElem? (i := 20) rfl))) (List.mem_cons_of_mem _ (List.mem_append_left _ (List.mem_of_getElem? (i := 21) rfl))) (List.mem_cons_of_mem _ (List.mem_append_left _ (List.mem_of_getElem? (i := 22) rfl))) (List.mem_cons_of_mem _ (List.mem_append_left _ (List.mem_of_getElem? (i := 19) rfl))) (fun w9 h9 => ⟨(List.mem_cons_of_mem _ (List.mem_append_right _ (List.mem_append_right _ (List.mem_append_right _ (List.mem_append_right _ (List.mem_append_right _ (List.mem_append_right _ (List.mem_append_right _ (List.mem_append_left _ h9))))))))), gd_c_openEntry w9 h9⟩)) rfl rfl rfl kVX1_openEntry ⟨Nat.le_of_ble_eq_true rfl, Nat.le_of_ble_eq_true rfl⟩) (preV_m (As := []) hPc hB hDc rfl rfl) rfl rfl hl.1 rfl (lv_room (Nat.le_of_ble_eq_true rfl)) dX11_limit_71 ⟨Nat.le_of_ble_eq_true rfl, Nat.le_of_ble_eq_true rfl⟩) hS (fun q _ h => hFc q h) hFc (fun u t H1 locs ht hvm hw hB1 hz1 hk1 hS => ?_)
    obtain ⟨hP1, hD1⟩ := hB1
    rw [ht] at hP1
    obtain ⟨hP, hD⟩ := va_join (wr := [(jh, .inr (12, [.ref bk, .ref tp, .ref ps, .ref rl, u1, .ref bd, .ref fr, u2, .ref pn, .ref nl, u3])), (rl, .inr (9, [.ref bk])), (bd, .inr (1, [.ref bk, b1, b2, b3, b4, b5])), (ca, .inl (gI G, 2088, .inl bk0)), (bc, .inr (10, [.ref bc2])), (bc2, .inl (gI G, 512, .inl (fl 512 0 (fun _ => 0)))), (bb, .inr (10, [.ref bb2])), (bb2, .inl (gI G, 512, .inl (fl 512 0 (fun _ => 0))))]) (w1 := [(bk, .inr (2, [.ref ca, .ref bc, .ref bb, .ref bs, .int 0, .int 1]))]) hP hD [3, 9, 10] [0, 1, 2, 4, 5, 6, 7, 8] rfl rfl (by decide) (by decide) hk1 hFc hP1 hD1
    generalize H1 = H at hP hS ⊢
    have hP : va_P (gD G) vwCl [(jh, .inr (12, [.ref bk, .ref tp, .ref ps, .ref rl, u1, .ref bd, .ref fr, u2, .ref pn, .ref nl, u3])), (rl, .inr (9, [.ref bk])), (bd, .inr (1, [.ref bk, b1, b2, b3, b4, b5])), (ca, .inl (gI G, 2088, .inl bk0)), (bc, .inr (10, [.ref bc2])), (bc2, .inl (gI G, 512, .inl (fl 512 0 (fun _ => 0)))), (bb, .inr (10, [.ref bb2])), (bb2, .inl (gI G, 512, .inl (fl 512 0 (fun _ => 0)))), (bk, .inr (2, [.ref ca, .ref bc, .ref bb, .ref bs, .int 0, .int 1]))] H := hP
    have hD : va_D A [(jh, .inr (12, [.ref bk, .ref tp, .ref ps, .ref rl, u1, .ref bd, .ref fr, u2, .ref pn, .ref nl, u3])), (rl, .inr (9, [.ref bk])), (bd, .inr (1, [.ref bk, b1, b2, b3, b4, b5])), (ca, .inl (gI G, 2088, .inl bk0)), (bc, .inr (10, [.ref bc2])), (bc2, .inl (gI G, 512, .inl (fl 512 0 (fun _ => 0)))), (bb, .inr (10, [.ref bb2])), (bb2, .inl (gI G, 512, .inl (fl 512 0 (fun _ => 0)))), (bk, .inr (2, [.ref ca, .ref bc, .ref bb, .ref bs, .int 0, .int 1]))] := hD
    refine W.eq (g2 := F0 m 74 ls []) rfl ?_
    refine lv_aload_n hx hb dX11_limit_74 rfl (lv_at hl 0 rfl) ?_
    refine va_get (D := gD G) (ci := 12) (v := .ref bk) (C := RX11) (T := TX11) (N := 11) hx hb hts (fun _ h9 => (List.mem_cons_of_mem _ (List.mem_append_right _ (List.mem_append_right _ (List.mem_append_right _ (List.mem_append_left _ h9)))))) hown hK hP 0 rfl rfl 0 (by decide) (hts (.fieldLink RX11 10 "JudoHall" "book" "LJudoHall$Book;") (List.mem_cons_of_mem _ (List.mem_append_left _ (List.mem_of_getElem? (i := 15) rfl)))) (fun _ h9 => h9) rfl dX11_limit_75 ?_
    refine lv_iload_n hx hb dX11_limit_78 rfl (lv_at hl 1 rfl) ?_
    refine lv_iconst (v := 0) hx hb dX11_limit_79 (by decide) ?_
    refine vp_callSi (va_Run.run (va_runS (As := [.int x, .int 0]) (rest := [.ref bk]) ⟨hx, hb, hml, hown, hts⟩ (c_Book_ofClass l G x 0) (va_cwS 2 hts (gdS (List.mem_cons_of_mem _ (List.mem_append_left _ (List.mem_of_getElem? (i := 23) rfl))) (List.mem_cons_of_mem _ (List.mem_append_left _ (List.mem_of_getElem? (i := 24) rfl))) (List.mem_cons_of_mem _ (List.mem_append_left _ (List.mem_of_getElem? (i := 19) rfl))) (fun w9 h9 => ⟨(List.mem_cons_of_mem _ (List.mem_append_right _ (List.mem_append_right _ (List.mem_append_right _ (List.mem_append_right _ (List.mem_append_right _ (List.mem_append_right _ (List.mem_append_right _ (List.mem_append_right _ (List.mem_append_left _ h9)))))))))), gd_c_Book_ofClass w9 h9⟩)) rfl rfl rfl kSX1_ofClass ⟨Nat.le_of_ble_eq_true rfl, Nat.le_of_ble_eq_true rfl⟩) (preS_p (As := [.int x, .int 0]) (hP.sub (ws' := []) [] rfl) hB) rfl rfl hl.1 rfl (lv_room (Nat.le_of_ble_eq_true rfl)) dX11_limit_80 ⟨Nat.le_of_ble_eq_true rfl, Nat.le_of_ble_eq_true rfl⟩)) (fun r_15 hr_15 => ?_)
    subst hr_15
    refine lv_iload_n hx hb dX11_limit_83 rfl (lv_at hl 2 rfl) ?_
    have hPc := hP.sub (ws' := [(bk, .inr (2, [.ref ca, .ref bc, .ref bb, .ref bs, .int 0, .int 1])), (ca, .inl (gI G, 2088, .inl bk0)), (bc, .inr (10, [.ref bc2])), (bc2, .inl (gI G, 512, .inl (fl 512 0 (fun _ => 0)))), (bb, .inr (10, [.ref bb2])), (bb2, .inl (gI G, 512, .inl (fl 512 0 (fun _ => 0))))]) [8, 3, 4, 5, 6, 7] rfl
    have hDc := hD.sub (ws' := [(bk, .inr (2, [.ref ca, .ref bc, .ref bb, .ref bs, .int 0, .int 1])), (ca, .inl (gI G, 2088, .inl bk0)), (bc, .inr (10, [.ref bc2])), (bc2, .inl (gI G, 512, .inl (fl 512 0 (fun _ => 0)))), (bb, .inr (10, [.ref bb2])), (bb2, .inl (gI G, 512, .inl (fl 512 0 (fun _ => 0))))]) [8, 3, 4, 5, 6, 7] (by decide) rfl
    have hFc := va_free (wc := [(bk, .inr (2, [.ref ca, .ref bc, .ref bb, .ref bs, .int 0, .int 1])), (ca, .inl (gI G, 2088, .inl bk0)), (bc, .inr (10, [.ref bc2])), (bc2, .inl (gI G, 512, .inl (fl 512 0 (fun _ => 0)))), (bb, .inr (10, [.ref bb2])), (bb2, .inl (gI G, 512, .inl (fl 512 0 (fun _ => 0))))]) hD hS hA [8, 3, 4, 5, 6, 7] rfl
    refine va_callv (va_runV (As := [.int (4 + x * 36 + 0), .int y]) (rest := []) ⟨hx, hb, hml, hown, hts⟩ (c_put l G bk ca bc bc2 bb bb2 (.ref bs) (.int 1) bk0 (fl 512 0 (fun _ => 0)) (fl 512 0 (fun _ => 0)) 0 (4 + x * 36 + 0) y H.size (by omega)) (cwV 2 hts (gdV (List.mem_cons_of_mem _ (List.mem_append_left _ (List.mem_of_getElem? (i := 25) rfl))) (List.mem_cons_of_mem _ (List.mem_append_left _ (List.mem_of_getElem? (i := 26) rfl))) (List.mem_cons_of_mem _ (List.mem_append_left _ (List.mem_of_getElem? (i := 27) rfl))) (List.mem_cons_of_mem _ (List.mem_append_left _ (List.mem_of_getElem? (i := 19) rfl))) (fun w9 h9 => ⟨(List.mem_cons_of_mem _ (List.mem_append_right _ (List.mem_append_right _ (List.mem_append_right _ (List.mem_append_right _ (List.mem_append_right _ (List.mem_append_right _ (List.mem_append_right _ (List.mem_append_right _ (List.mem_append_right _ (List.mem_append_left _ h9))))))))))), gd_c_put w9 h9⟩)) rfl rfl rfl kVX1_put ⟨Nat.le_of_ble_eq_true rfl, Nat.le_of_ble_eq_true rfl⟩) (preV_m (As := [.int (4 + x * 36 + 0), .int y]) hPc hB hDc rfl rfl) rfl rfl hl.1 rfl (lv_room (Nat.le_of_ble_eq_true rfl)) dX11_limit_84 ⟨Nat.le_of_ble_eq_true rfl, Nat.le_of_ble_eq_true rfl⟩) hS (fun q _ h => hFc q h) hFc (fun u t H1 locs ht hvm hw hB1 hz1 hk1 hS => ?_)
    obtain ⟨q_17, q_18, q_19, q_20, hP1, hD1, hw2⟩ := hB1
    rw [ht] at hP1
    obtain ⟨hP, hD⟩ := va_join (wr := [(jh, .inr (12, [.ref bk, .ref tp, .ref ps, .ref rl, u1, .ref bd, .ref fr, u2, .ref pn, .ref nl, u3])), (rl, .inr (9, [.ref bk])), (bd, .inr (1, [.ref bk, b1, b2, b3, b4, b5]))]) (w1 := [(bk, .inr (2, [.ref ca, .ref bc, .ref bb, .ref bs, .int (nI q_17), .int 1])), (ca, .inl (gI G, 2088, .inl q_18)), (bc, .inr (10, [.ref bc2])), (bc2, .inl (gI G, 512, .inl q_19)), (bb, .inr (10, [.ref bb2])), (bb2, .inl (gI G, 512, .inl q_20))]) hP hD [8, 3, 4, 5, 6, 7] [0, 1, 2] rfl rfl (by decide) (by decide) hk1 hFc hP1 hD1
    generalize H1 = H at hP hS ⊢
    have w_21 := hw2
    have hP : va_P (gD G) vwCl [(jh, .inr (12, [.ref bk, .ref tp, .ref ps, .ref rl, u1, .ref bd, .ref fr, u2, .ref pn, .ref nl, u3])), (rl, .inr (9, [.ref bk])), (bd, .inr (1, [.ref bk, b1, b2, b3, b4, b5])), (bk, .inr (2, [.ref ca, .ref bc, .ref bb, .ref bs, .int (nI q_17), .int 1])), (ca, .inl (gI G, 2088, .inl q_18)), (bc, .inr (10, [.ref bc2])), (bc2, .inl (gI G, 512, .inl q_19)), (bb, .inr (10, [.ref bb2])), (bb2, .inl (gI G, 512, .inl q_20))] H := hP
    have hD : va_D A [(jh, .inr (12, [.ref bk, .ref tp, .ref ps, .ref rl, u1, .ref bd, .ref fr, u2, .ref pn, .ref nl, u3])), (rl, .inr (9, [.ref bk])), (bd, .inr (1, [.ref bk, b1, b2, b3, b4, b5])), (bk, .inr (2, [.ref ca, .ref bc, .ref bb, .ref bs, .int (nI q_17), .int 1])), (ca, .inl (gI G, 2088, .inl q_18)), (bc, .inr (10, [.ref bc2])), (bc2, .inl (gI G, 512, .inl q_19)), (bb, .inr (10, [.ref bb2])), (bb2, .inl (gI G, 512, .inl q_20))] := hD
    refine W.eq (g2 := F0 m 87 ls []) rfl ?_
    refine lv_aload_n hx hb dX11_limit_87 rfl (lv_at hl 0 rfl) ?_
    refine va_get (D := gD G) (ci := 12) (v := .ref bk) (C := RX11) (T := TX11) (N := 11) hx hb hts (fun _ h9 => (List.mem_cons_of_mem _ (List.mem_append_right _ (List.mem_append_right _ (List.mem_append_right _ (List.mem_append_left _ h9)))))) hown hK hP 0 rfl rfl 0 (by decide) (hts (.fieldLink RX11 10 "JudoHall" "book" "LJudoHall$Book;") (List.mem_cons_of_mem _ (List.mem_append_left _ (List.mem_of_getElem? (i := 15) rfl)))) (fun _ h9 => h9) rfl dX11_limit_88 ?_
    refine lv_iload_n hx hb dX11_limit_91 rfl (lv_at hl 1 rfl) ?_
    refine lv_iconst (v := 1) hx hb dX11_limit_92 (by decide) ?_
    refine vp_callSi (va_Run.run (va_runS (As := [.int x, .int 1]) (rest := [.ref bk]) ⟨hx, hb, hml, hown, hts⟩ (c_Book_ofClass l G x 1) (va_cwS 2 hts (gdS (List.mem_cons_of_mem _ (List.mem_append_left _ (List.mem_of_getElem? (i := 23) rfl))) (List.mem_cons_of_mem _ (List.mem_append_left _ (List.mem_of_getElem? (i := 24) rfl))) (List.mem_cons_of_mem _ (List.mem_append_left _ (List.mem_of_getElem? (i := 19) rfl))) (fun w9 h9 => ⟨(List.mem_cons_of_mem _ (List.mem_append_right _ (List.mem_append_right _ (List.mem_append_right _ (List.mem_append_right _ (List.mem_append_right _ (List.mem_append_right _ (List.mem_append_right _ (List.mem_append_right _ (List.mem_append_left _ h9)))))))))), gd_c_Book_ofClass w9 h9⟩)) rfl rfl rfl kSX1_ofClass ⟨Nat.le_of_ble_eq_true rfl, Nat.le_of_ble_eq_true rfl⟩) (preS_p (As := [.int x, .int 1]) (hP.sub (ws' := []) [] rfl) hB) rfl rfl hl.1 rfl (lv_room (Nat.le_of_ble_eq_true rfl)) dX11_limit_93 ⟨Nat.le_of_ble_eq_true rfl, Nat.le_of_ble_eq_true rfl⟩)) (fun r_22 hr_22 => ?_)
    subst hr_22
    refine lv_iload_n hx hb dX11_limit_96 rfl (lv_at hl 3 rfl) ?_
    have hPc := hP.sub (ws' := [(bk, .inr (2, [.ref ca, .ref bc, .ref bb, .ref bs, .int (nI q_17), .int 1])), (ca, .inl (gI G, 2088, .inl q_18)), (bc, .inr (10, [.ref bc2])), (bc2, .inl (gI G, 512, .inl q_19)), (bb, .inr (10, [.ref bb2])), (bb2, .inl (gI G, 512, .inl q_20))]) [3, 4, 5, 6, 7, 8] rfl
    have hDc := hD.sub (ws' := [(bk, .inr (2, [.ref ca, .ref bc, .ref bb, .ref bs, .int (nI q_17), .int 1])), (ca, .inl (gI G, 2088, .inl q_18)), (bc, .inr (10, [.ref bc2])), (bc2, .inl (gI G, 512, .inl q_19)), (bb, .inr (10, [.ref bb2])), (bb2, .inl (gI G, 512, .inl q_20))]) [3, 4, 5, 6, 7, 8] (by decide) rfl
    have hFc := va_free (wc := [(bk, .inr (2, [.ref ca, .ref bc, .ref bb, .ref bs, .int (nI q_17), .int 1])), (ca, .inl (gI G, 2088, .inl q_18)), (bc, .inr (10, [.ref bc2])), (bc2, .inl (gI G, 512, .inl q_19)), (bb, .inr (10, [.ref bb2])), (bb2, .inl (gI G, 512, .inl q_20))]) hD hS hA [3, 4, 5, 6, 7, 8] rfl
    refine va_callv (va_runV (As := [.int (4 + x * 36 + 1), .int z]) (rest := []) ⟨hx, hb, hml, hown, hts⟩ (c_put l G bk ca bc bc2 bb bb2 (.ref bs) (.int 1) q_18 q_19 q_20 q_17 (4 + x * 36 + 1) z H.size (by omega)) (cwV 2 hts (gdV (List.mem_cons_of_mem _ (List.mem_append_left _ (List.mem_of_getElem? (i := 25) rfl))) (List.mem_cons_of_mem _ (List.mem_append_left _ (List.mem_of_getElem? (i := 26) rfl))) (List.mem_cons_of_mem _ (List.mem_append_left _ (List.mem_of_getElem? (i := 27) rfl))) (List.mem_cons_of_mem _ (List.mem_append_left _ (List.mem_of_getElem? (i := 19) rfl))) (fun w9 h9 => ⟨(List.mem_cons_of_mem _ (List.mem_append_right _ (List.mem_append_right _ (List.mem_append_right _ (List.mem_append_right _ (List.mem_append_right _ (List.mem_append_right _ (List.mem_append_right _ (List.mem_append_right _ (List.mem_append_right _ (List.mem_append_left _ h9))))))))))), gd_c_put w9 h9⟩)) rfl rfl rfl kVX1_put ⟨Nat.le_of_ble_eq_true rfl, Nat.le_of_ble_eq_true rfl⟩) (preV_m (As := [.int (4 + x * 36 + 1), .int z]) hPc hB hDc rfl rfl) rfl rfl hl.1 rfl (lv_room (Nat.le_of_ble_eq_true rfl)) dX11_limit_97 ⟨Nat.le_of_ble_eq_true rfl, Nat.le_of_ble_eq_true rfl⟩) hS (fun q _ h => hFc q h) hFc (fun u t H1 locs ht hvm hw hB1 hz1 hk1 hS => ?_)
    obtain ⟨q_24, q_25, q_26, q_27, hP1, hD1, hw2⟩ := hB1
    rw [ht] at hP1
    obtain ⟨hP, hD⟩ := va_join (wr := [(jh, .inr (12, [.ref bk, .ref tp, .ref ps, .ref rl, u1, .ref bd, .ref fr, u2, .ref pn, .ref nl, u3])), (rl, .inr (9, [.ref bk])), (bd, .inr (1, [.ref bk, b1, b2, b3, b4, b5]))]) (w1 := [(bk, .inr (2, [.ref ca, .ref bc, .ref bb, .ref bs, .int (nI q_24), .int 1])), (ca, .inl (gI G, 2088, .inl q_25)), (bc, .inr (10, [.ref bc2])), (bc2, .inl (gI G, 512, .inl q_26)), (bb, .inr (10, [.ref bb2])), (bb2, .inl (gI G, 512, .inl q_27))]) hP hD [3, 4, 5, 6, 7, 8] [0, 1, 2] rfl rfl (by decide) (by decide) hk1 hFc hP1 hD1
    generalize H1 = H at hP hS ⊢
    have w_28 := hw2
    have hP : va_P (gD G) vwCl [(jh, .inr (12, [.ref bk, .ref tp, .ref ps, .ref rl, u1, .ref bd, .ref fr, u2, .ref pn, .ref nl, u3])), (rl, .inr (9, [.ref bk])), (bd, .inr (1, [.ref bk, b1, b2, b3, b4, b5])), (bk, .inr (2, [.ref ca, .ref bc, .ref bb, .ref bs, .int (nI q_24), .int 1])), (ca, .inl (gI G, 2088, .inl q_25)), (bc, .inr (10, [.ref bc2])), (bc2, .inl (gI G, 512, .inl q_26)), (bb, .inr (10, [.ref bb2])), (bb2, .inl (gI G, 512, .inl q_27))] H := hP
    have hD : va_D A [(jh, .inr (12, [.ref bk, .ref tp, .ref ps, .ref rl, u1, .ref bd, .ref fr, u2, .ref pn, .ref nl, u3])), (rl, .inr (9, [.ref bk])), (bd, .inr (1, [.ref bk, b1, b2, b3, b4, b5])), (bk, .inr (2, [.ref ca, .ref bc, .ref bb, .ref bs, .int (nI q_24), .int 1])), (ca, .inl (gI G, 2088, .inl q_25)), (bc, .inr (10, [.ref bc2])), (bc2, .inl (gI G, 512, .inl q_26)), (bb, .inr (10, [.ref bb2])), (bb2, .inl (gI G, 512, .inl q_27))] := hD
    refine W.eq (g2 := F0 m 100 ls []) rfl ?_
    refine lv_iconst (v := 1) hx hb dX11_limit_100 (by decide) ?_
    have hP9 := hP.sub (ws' := []) [] rfl
    have hD9 := hD.sub (ws' := []) [] (by decide) rfl
    exact W.iret (v := 1) hx hb hr (fun t ht hW => ⟨⟨_, (), rfl, by rw [if_neg (show ¬ (x < 0 ∨ 4 ≤ x ∨ y < 0 ∨ 200000 < y ∨ z < 0 ∨ 200000 < z ∨ z < y) from (not_or.mpr ⟨c_2, (not_or.mpr ⟨c_3, (not_or.mpr ⟨c_5, (not_or.mpr ⟨c_6, (not_or.mpr ⟨c_8, (not_or.mpr ⟨c_9, (Int32.not_lt.mpr c_10)⟩)⟩)⟩)⟩)⟩)⟩))], by rw [ht]; exact hP9, hD9⟩, hS.F ht⟩) hS.2.2 dX11_limit_101
  · skip
    refine lv_bipush (v := (-2)) hx hb dX11_limit_26 (by decide) ?_
    have hP9 := hP.sub (ws' := []) [] rfl
    have hD9 := hD.sub (ws' := []) [] (by decide) rfl
    exact W.iret (v := (-2)) hx hb hr (fun t ht hW => ⟨⟨_, (), rfl, by rw [if_pos (show x < 0 ∨ 4 ≤ x ∨ y < 0 ∨ 200000 < y ∨ z < 0 ∨ 200000 < z ∨ z < y from (Or.inr (Or.inr (Or.inr (Or.inr (Or.inr (Or.inr (Int32.not_le.mp c_10))))))))], by rw [ht]; exact hP9, hD9⟩, hS.F ht⟩) hS.2.2 dX11_limit_28

def wo_q_enter : List Cond := [.methodLink RX11 157 yX11_isClass, .static yX11_isClass, .initialized RX11, .fieldLink RX11 51 "JudoHall" "board" "LJudoHall$Board;", .methodLink RX11 164 yX0_isDrawn, .instanceMethod yX0_isDrawn, .selects RX0 yX0_isDrawn yX0_isDrawn, .initialized RX0, .fieldLink RX11 37 "JudoHall" "roll" "LJudoHall$Roll;", .methodLink RX11 174 yX8_people, .instanceMethod yX8_people, .selects RX8 yX8_people yX8_people, .initialized RX8, .fieldLink RX11 10 "JudoHall" "book" "LJudoHall$Book;", .methodLink RX11 108 yX1_isFull, .instanceMethod yX1_isFull, .selects RX1 yX1_isFull yX1_isFull, .initialized RX1, .methodLink RX11 111 yX1_openEntry, .instanceMethod yX1_openEntry, .selects RX1 yX1_openEntry yX1_openEntry, .methodLink RX11 177 yX8_add, .instanceMethod yX8_add, .selects RX8 yX8_add yX8_add]
def wq_q_enter : List Cond := .code yX11_enter cX11_enter 3 (some .int) :: (wo_q_enter ++ (wq_c_isClass ++ (wsX110 ++ (wq_c_Board_isDrawn ++ (wq_c_people ++ (wq_c_isFull ++ (wq_c_openEntry ++ (wq_c_Roll_add ++ []))))))))
theorem gd_q_enter : ∀ w ∈ wq_q_enter, Gd w := List.forall_mem_cons.mpr ⟨Or.inl rfl, List.forall_mem_append.mpr ⟨gdl wo_q_enter (by decide +kernel), (List.forall_mem_append.mpr ⟨gd_c_isClass, (List.forall_mem_append.mpr ⟨gd_wsX110, (List.forall_mem_append.mpr ⟨gd_c_Board_isDrawn, (List.forall_mem_append.mpr ⟨gd_c_people, (List.forall_mem_append.mpr ⟨gd_c_isFull, (List.forall_mem_append.mpr ⟨gd_c_openEntry, (List.forall_mem_append.mpr ⟨gd_c_Roll_add, (fun _ h => absurd h List.not_mem_nil)⟩)⟩)⟩)⟩)⟩)⟩)⟩)⟩⟩
theorem in_q_enter : ∀ w ∈ wq_q_enter, w ∈ lw_tbl := List.forall_mem_cons.mpr ⟨List.mem_of_getElem? (i := 1016) (by decide +kernel), List.forall_mem_append.mpr ⟨inT wo_q_enter [979, 980, 154, 560, 986, 987, 988, 164, 558, 1017, 1001, 1002, 162, 555, 849, 850, 851, 155, 853, 854, 855, 1018, 1019, 1020] (by decide +kernel), (List.forall_mem_append.mpr ⟨in_c_isClass, (List.forall_mem_append.mpr ⟨in_wsX110, (List.forall_mem_append.mpr ⟨in_c_Board_isDrawn, (List.forall_mem_append.mpr ⟨in_c_people, (List.forall_mem_append.mpr ⟨in_c_isFull, (List.forall_mem_append.mpr ⟨in_c_openEntry, (List.forall_mem_append.mpr ⟨in_c_Roll_add, (fun _ h => absurd h List.not_mem_nil)⟩)⟩)⟩)⟩)⟩)⟩)⟩)⟩⟩
set_option maxHeartbeats 4000000 in
set_option maxRecDepth 100000 in
theorem q_enter (l : Launch) (G : gG) (jh : Nat) (bk : Nat) (tp : Nat) (ps : Nat) (rl : Nat) (u1 : Value) (bd : Nat) (fr : Nat) (u2 : Value) (pn : Nat) (nl : Nat) (u3 : Value) (b1 : Value) (b2 : Value) (b3 : Value) (b4 : Value) (b5 : Value) (ca : Nat) (bc : Nat) (bb : Nat) (bs : Nat) (bc2 : Nat) (bb2 : Nat) (bs2 : Nat) (x : Int32) (y : Int32) (sz : Nat) : Met l yX11_enter wq_q_enter ({ frames := 3, cells := 0, slots := 0, locals := 68 }) (va_Pc [.ref jh, .int x, .int y] (mP G [(jh, .inr (12, [.ref bk, .ref tp, .ref ps, .ref rl, u1, .ref bd, .ref fr, u2, .ref pn, .ref nl, u3])), (rl, .inr (9, [.ref bk])), (bd, .inr (1, [.ref bk, b1, b2, b3, b4, b5])), (bk, .inr (2, [.ref ca, .ref bc, .ref bb, .ref bs, .int 0, .int 0])), (ca, .inl (gI G, 2088, .inl bk0)), (bc, .inr (10, [.ref bc2])), (bc2, .inl (gI G, 512, .inl (fl 512 0 (fun _ => 0)))), (bb, .inr (10, [.ref bb2])), (bb2, .inl (gI G, 512, .inl (fl 512 0 (fun _ => 0)))), (bs, .inr (10, [.ref bs2])), (bs2, .inl (gI G, 500, .inl (fl 500 0 (fun _ => 0))))] sz)) (va_Qi (fun (r : Int32) (_ : Unit) => r = if x < 0 ∨ 16 ≤ x ∨ y < 0 ∨ 4 ≤ y then (-2) else 0) (fun (_ : Unit) (t : State) => va_P (gD G) vwCl [] t.heap ∧ va_D (va_A [(jh, .inr (12, [.ref bk, .ref tp, .ref ps, .ref rl, u1, .ref bd, .ref fr, u2, .ref pn, .ref nl, u3])), (rl, .inr (9, [.ref bk])), (bd, .inr (1, [.ref bk, b1, b2, b3, b4, b5])), (bk, .inr (2, [.ref ca, .ref bc, .ref bb, .ref bs, .int 0, .int 0])), (ca, .inl (gI G, 2088, .inl bk0)), (bc, .inr (10, [.ref bc2])), (bc2, .inl (gI G, 512, .inl (fl 512 0 (fun _ => 0)))), (bb, .inr (10, [.ref bb2])), (bb2, .inl (gI G, 512, .inl (fl 512 0 (fun _ => 0)))), (bs, .inr (10, [.ref bs2])), (bs2, .inl (gI G, 500, .inl (fl 500 0 (fun _ => 0))))] sz) []) (va_A [(jh, .inr (12, [.ref bk, .ref tp, .ref ps, .ref rl, u1, .ref bd, .ref fr, u2, .ref pn, .ref nl, u3])), (rl, .inr (9, [.ref bk])), (bd, .inr (1, [.ref bk, b1, b2, b3, b4, b5])), (bk, .inr (2, [.ref ca, .ref bc, .ref bb, .ref bs, .int 0, .int 0])), (ca, .inl (gI G, 2088, .inl bk0)), (bc, .inr (10, [.ref bc2])), (bc2, .inl (gI G, 512, .inl (fl 512 0 (fun _ => 0)))), (bb, .inr (10, [.ref bb2])), (bb2, .inl (gI G, 512, .inl (fl 512 0 (fun _ => 0)))), (bs, .inr (10, [.ref bs2])), (bs2, .inl (gI G, 500, .inl (fl 500 0 (fun _ => 0))))] sz)) 0 0 (va_A [(jh, .inr (12, [.ref bk, .ref tp, .ref ps, .ref rl, u1, .ref bd, .ref fr, u2, .ref pn, .ref nl, u3])), (rl, .inr (9, [.ref bk])), (bd, .inr (1, [.ref bk, b1, b2, b3, b4, b5])), (bk, .inr (2, [.ref ca, .ref bc, .ref bb, .ref bs, .int 0, .int 0])), (ca, .inl (gI G, 2088, .inl bk0)), (bc, .inr (10, [.ref bc2])), (bc2, .inl (gI G, 512, .inl (fl 512 0 (fun _ => 0)))), (bb, .inr (10, [.ref bb2])), (bb2, .inl (gI G, 512, .inl (fl 512 0 (fun _ => 0)))), (bs, .inr (10, [.ref bs2])), (bs2, .inl (gI G, 500, .inl (fl 500 0 (fun _ => 0))))] sz) := by
  refine Met.ofW (cc := cX11_enter) (maxL := 3) (ret := (some .int)) (by decide) rfl ?_
  intro p e s m args below meth c s₁ B hml hv
  obtain ⟨rfl, hsz, hP, hB, hD0⟩ := hv
  have hx := B.exec
  have hb := B.bytes
  have hr := B.returns
  have hts := atoms_spec (ws := wq_q_enter) B.pre
  have hown : s.vm.findClass RX11 = some m.cls := findClass_of_methodNamed B.named
  have hlocks := B.notSynchronized
  have hK := hB.1
  subst hsz
  have hD := hD0.self (sz := s.heap.size)
  generalize hAe : va_A [(jh, .inr (12, [.ref bk, .ref tp, .ref ps, .ref rl, u1, .ref bd, .ref fr, u2, .ref pn, .ref nl, u3])), (rl, .inr (9, [.ref bk])), (bd, .inr (1, [.ref bk, b1, b2, b3, b4, b5])), (bk, .inr (2, [.ref ca, .ref bc, .ref bb, .ref bs, .int 0, .int 0])), (ca, .inl (gI G, 2088, .inl bk0)), (bc, .inr (10, [.ref bc2])), (bc2, .inl (gI G, 512, .inl (fl 512 0 (fun _ => 0)))), (bb, .inr (10, [.ref bb2])), (bb2, .inl (gI G, 512, .inl (fl 512 0 (fun _ => 0)))), (bs, .inr (10, [.ref bs2])), (bs2, .inl (gI G, 500, .inl (fl 500 0 (fun _ => 0))))] s.heap.size = A at hD ⊢
  have hA : ∀ q : Nat, s.heap.size ≤ q → A q := fun q h => by rw [← hAe]; exact Or.inr h
  have hS : va_S A s.heap s.heap [] := va_S.rf
  have hP : va_P (gD G) vwCl [(jh, .inr (12, [.ref bk, .ref tp, .ref ps, .ref rl, u1, .ref bd, .ref fr, u2, .ref pn, .ref nl, u3])), (rl, .inr (9, [.ref bk])), (bd, .inr (1, [.ref bk, b1, b2, b3, b4, b5])), (bk, .inr (2, [.ref ca, .ref bc, .ref bb, .ref bs, .int 0, .int 0])), (ca, .inl (gI G, 2088, .inl bk0)), (bc, .inr (10, [.ref bc2])), (bc2, .inl (gI G, 512, .inl (fl 512 0 (fun _ => 0)))), (bb, .inr (10, [.ref bb2])), (bb2, .inl (gI G, 512, .inl (fl 512 0 (fun _ => 0)))), (bs, .inr (10, [.ref bs2])), (bs2, .inl (gI G, 500, .inl (fl 500 0 (fun _ => 0))))] s.heap := hP
  have hD : va_D A [(jh, .inr (12, [.ref bk, .ref tp, .ref ps, .ref rl, u1, .ref bd, .ref fr, u2, .ref pn, .ref nl, u3])), (rl, .inr (9, [.ref bk])), (bd, .inr (1, [.ref bk, b1, b2, b3, b4, b5])), (bk, .inr (2, [.ref ca, .ref bc, .ref bb, .ref bs, .int 0, .int 0])), (ca, .inl (gI G, 2088, .inl bk0)), (bc, .inr (10, [.ref bc2])), (bc2, .inl (gI G, 512, .inl (fl 512 0 (fun _ => 0)))), (bb, .inr (10, [.ref bb2])), (bb2, .inl (gI G, 512, .inl (fl 512 0 (fun _ => 0)))), (bs, .inr (10, [.ref bs2])), (bs2, .inl (gI G, 500, .inl (fl 500 0 (fun _ => 0))))] := hD
  have hl := lv_entry ([.ref jh, .int x, .int y]) (n := 3) (Nat.le_of_ble_eq_true rfl)
  rw [lg_entry_eq]
  generalize (lg_sl ([.ref jh, .int x, .int y]) ++ List.replicate (3 - (lg_sl ([.ref jh, .int x, .int y])).length) Slot.unset).toArray = ls at hl ⊢
  have hl : lv_has ls 3 [(0, .ref jh), (1, .int x), (2, .int y)] := hl
  refine lv_iload_n hx hb dX11_enter_0 rfl (lv_at hl 1 rfl) ?_
  refine lv_if_lt (tgt := 17) hx hb dX11_enter_1 (by decide) (fun c_1 => ?_) (fun c_1 => ?_)
  · skip
    refine lv_bipush (v := (-2)) hx hb dX11_enter_17 (by decide) ?_
    have hP9 := hP.sub (ws' := []) [] rfl
    have hD9 := hD.sub (ws' := []) [] (by decide) rfl
    exact W.iret (v := (-2)) hx hb hr (fun t ht hW => ⟨⟨_, (), rfl, by rw [if_pos (show x < 0 ∨ 16 ≤ x ∨ y < 0 ∨ 4 ≤ y from (Or.inl c_1))], by rw [ht]; exact hP9, hD9⟩, hS.F ht⟩) hS.2.2 dX11_enter_19
  · skip
    refine lv_iload_n hx hb dX11_enter_4 rfl (lv_at hl 1 rfl) ?_
    refine lv_bipush (v := 16) hx hb dX11_enter_5 (by decide) ?_
    refine lv_icmp_ge (tgt := 17) hx hb dX11_enter_7 (by decide) (fun c_2 => ?_) (fun c_2 => ?_)
    · skip
      refine lv_bipush (v := (-2)) hx hb dX11_enter_17 (by decide) ?_
      have hP9 := hP.sub (ws' := []) [] rfl
      have hD9 := hD.sub (ws' := []) [] (by decide) rfl
      exact W.iret (v := (-2)) hx hb hr (fun t ht hW => ⟨⟨_, (), rfl, by rw [if_pos (show x < 0 ∨ 16 ≤ x ∨ y < 0 ∨ 4 ≤ y from (Or.inr (Or.inl c_2)))], by rw [ht]; exact hP9, hD9⟩, hS.F ht⟩) hS.2.2 dX11_enter_19
    · skip
      refine lv_iload_n hx hb dX11_enter_10 rfl (lv_at hl 2 rfl) ?_
      refine vp_callSi (va_Run.run (va_runS (As := [.int y]) (rest := []) ⟨hx, hb, hml, hown, hts⟩ (c_isClass l G y) (va_cwS 1 hts (gdS (List.mem_cons_of_mem _ (List.mem_append_left _ (List.mem_of_getElem? (i := 0) rfl))) (List.mem_cons_of_mem _ (List.mem_append_left _ (List.mem_of_getElem? (i := 1) rfl))) (List.mem_cons_of_mem _ (List.mem_append_left _ (List.mem_of_getElem? (i := 2) rfl))) (fun w9 h9 => ⟨(List.mem_cons_of_mem _ (List.mem_append_right _ (List.mem_append_left _ h9))), gd_c_isClass w9 h9⟩)) rfl rfl rfl kSX11_isClass ⟨Nat.le_of_ble_eq_true rfl, Nat.le_of_ble_eq_true rfl⟩) (preS_p (As := [.int y]) (hP.sub (ws' := []) [] rfl) hB) rfl rfl hl.1 rfl (lv_room (Nat.le_of_ble_eq_true rfl)) dX11_enter_11 ⟨Nat.le_of_ble_eq_true rfl, Nat.le_of_ble_eq_true rfl⟩)) (fun r_3 hr_3 => ?_)
      by_cases c_4 : y < 0
      · have hr_3 : r_3 = 0 := hr_3.trans (by rw [if_pos (show y < 0 ∨ 4 ≤ y from (Or.inl c_4))])
        subst hr_3
        refine lv_if_ne (tgt := 20) hx hb dX11_enter_14 (by decide) (fun c9 => absurd (by decide) c9) (fun _ => ?_)
        refine lv_bipush (v := (-2)) hx hb dX11_enter_17 (by decide) ?_
        have hP9 := hP.sub (ws' := []) [] rfl
        have hD9 := hD.sub (ws' := []) [] (by decide) rfl
        exact W.iret (v := (-2)) hx hb hr (fun t ht hW => ⟨⟨_, (), rfl, by rw [if_pos (show x < 0 ∨ 16 ≤ x ∨ y < 0 ∨ 4 ≤ y from (Or.inr (Or.inr (Or.inl c_4))))], by rw [ht]; exact hP9, hD9⟩, hS.F ht⟩) hS.2.2 dX11_enter_19
      by_cases c_5 : 4 ≤ y
      · have hr_3 : r_3 = 0 := hr_3.trans (by rw [if_pos (show y < 0 ∨ 4 ≤ y from (Or.inr c_5))])
        subst hr_3
        refine lv_if_ne (tgt := 20) hx hb dX11_enter_14 (by decide) (fun c9 => absurd (by decide) c9) (fun _ => ?_)
        refine lv_bipush (v := (-2)) hx hb dX11_enter_17 (by decide) ?_
        have hP9 := hP.sub (ws' := []) [] rfl
        have hD9 := hD.sub (ws' := []) [] (by decide) rfl
        exact W.iret (v := (-2)) hx hb hr (fun t ht hW => ⟨⟨_, (), rfl, by rw [if_pos (show x < 0 ∨ 16 ≤ x ∨ y < 0 ∨ 4 ≤ y from (Or.inr (Or.inr (Or.inr c_5))))], by rw [ht]; exact hP9, hD9⟩, hS.F ht⟩) hS.2.2 dX11_enter_19
      have hr_3 : r_3 = 1 := hr_3.trans (by rw [if_neg (show ¬ (y < 0 ∨ 4 ≤ y) from (not_or.mpr ⟨c_4, c_5⟩))])
      subst hr_3
      refine lv_if_ne (tgt := 20) hx hb dX11_enter_14 (by decide) (fun _ => ?_) (fun c9 => absurd c9 (by decide))
      refine lv_aload_n hx hb dX11_enter_20 rfl (lv_at hl 0 rfl) ?_
      refine va_get (D := gD G) (ci := 12) (v := .ref bd) (C := RX11) (T := TX11) (N := 11) hx hb hts (fun _ h9 => (List.mem_cons_of_mem _ (List.mem_append_right _ (List.mem_append_right _ (List.mem_append_left _ h9))))) hown hK hP 0 rfl rfl 5 (by decide) (hts (.fieldLink RX11 51 "JudoHall" "board" "LJudoHall$Board;") (List.mem_cons_of_mem _ (List.mem_append_left _ (List.mem_of_getElem? (i := 3) rfl)))) (fun _ h9 => h9) rfl dX11_enter_21 ?_
      refine lv_iload_n hx hb dX11_enter_24 rfl (lv_at hl 2 rfl) ?_
      refine vp_callSi (va_Run.run (va_runV (As := [.int y]) (rest := []) ⟨hx, hb, hml, hown, hts⟩ (c_Board_isDrawn l G bd bk ca 2088 bk0 (.ref bc) (.ref bb) (.ref bs) (.int 0) (.int 0) b1 b2 b3 b4 b5 y (by decide)) (cwV 1 hts (gdV (List.mem_cons_of_mem _ (List.mem_append_left _ (List.mem_of_getElem? (i := 4) rfl))) (List.mem_cons_of_mem _ (List.mem_append_left _ (List.mem_of_getElem? (i := 5) rfl))) (List.mem_cons_of_mem _ (List.mem_append_left _ (List.mem_of_getElem? (i := 6) rfl))) (List.mem_cons_of_mem _ (List.mem_append_left _ (List.mem_of_getElem? (i := 7) rfl))) (fun w9 h9 => ⟨(List.mem_cons_of_mem _ (List.mem_append_right _ (List.mem_append_right _ (List.mem_append_right _ (List.mem_append_left _ h9))))), gd_c_Board_isDrawn w9 h9⟩)) rfl rfl rfl kVX0_isDrawn ⟨Nat.le_of_ble_eq_true rfl, Nat.le_of_ble_eq_true rfl⟩) (preV_p (As := [.int y]) (hP.sub (ws' := [(bd, .inr (1, [.ref bk, b1, b2, b3, b4, b5])), (bk, .inr (2, [.ref ca, .ref bc, .ref bb, .ref bs, .int 0, .int 0])), (ca, .inl (gI G, 2088, .inl bk0))]) [2, 3, 4] rfl) hB rfl rfl) rfl rfl hl.1 rfl (lv_room (Nat.le_of_ble_eq_true rfl)) dX11_enter_25 ⟨Nat.le_of_ble_eq_true rfl, Nat.le_of_ble_eq_true rfl⟩)) (fun r_6 hr_6 => ?_)
      have hr_6 : r_6 = 0 := hr_6.trans (if_pos (bk_kind c_4 c_5))
      subst hr_6
      refine lv_if_eq (tgt := 34) hx hb dX11_enter_28 (by decide) (fun _ => ?_) (fun c9 => absurd (by decide) c9)
      refine lv_aload_n hx hb dX11_enter_34 rfl (lv_at hl 0 rfl) ?_
      refine va_get (D := gD G) (ci := 12) (v := .ref rl) (C := RX11) (T := TX11) (N := 11) hx hb hts (fun _ h9 => (List.mem_cons_of_mem _ (List.mem_append_right _ (List.mem_append_right _ (List.mem_append_left _ h9))))) hown hK hP 0 rfl rfl 3 (by decide) (hts (.fieldLink RX11 37 "JudoHall" "roll" "LJudoHall$Roll;") (List.mem_cons_of_mem _ (List.mem_append_left _ (List.mem_of_getElem? (i := 8) rfl)))) (fun _ h9 => h9) rfl dX11_enter_35 ?_
      refine vp_callSi (va_Run.run (va_runV (As := []) (rest := []) ⟨hx, hb, hml, hown, hts⟩ (c_people l G rl bk ca (.ref bc) (.ref bb) (.ref bs) (.int 0) (.int 0)) (cwV 0 hts (gdV (List.mem_cons_of_mem _ (List.mem_append_left _ (List.mem_of_getElem? (i := 9) rfl))) (List.mem_cons_of_mem _ (List.mem_append_left _ (List.mem_of_getElem? (i := 10) rfl))) (List.mem_cons_of_mem _ (List.mem_append_left _ (List.mem_of_getElem? (i := 11) rfl))) (List.mem_cons_of_mem _ (List.mem_append_left _ (List.mem_of_getElem? (i := 12) rfl))) (fun w9 h9 => ⟨(List.mem_cons_of_mem _ (List.mem_append_right _ (List.mem_append_right _ (List.mem_append_right _ (List.mem_append_right _ (List.mem_append_left _ h9)))))), gd_c_people w9 h9⟩)) rfl rfl rfl kVX8_people ⟨Nat.le_of_ble_eq_true rfl, Nat.le_of_ble_eq_true rfl⟩) (preV_p (As := []) (hP.sub (ws' := [(rl, .inr (9, [.ref bk])), (bk, .inr (2, [.ref ca, .ref bc, .ref bb, .ref bs, .int 0, .int 0])), (ca, .inl (gI G, 2088, .inl bk0))]) [1, 3, 4] rfl) hB rfl rfl) rfl rfl hl.1 rfl (lv_room (Nat.le_of_ble_eq_true rfl)) dX11_enter_38 ⟨Nat.le_of_ble_eq_true rfl, Nat.le_of_ble_eq_true rfl⟩)) (fun r_7 hr_7 => ?_)
      subst hr_7
      refine lv_bipush (v := 96) hx hb dX11_enter_41 (by decide) ?_
      refine lv_icmp_ge (tgt := 56) hx hb dX11_enter_43 (by decide) (fun c9 => absurd c9 (by decide)) (fun _ => ?_)
      refine lv_aload_n hx hb dX11_enter_46 rfl (lv_at hl 0 rfl) ?_
      refine va_get (D := gD G) (ci := 12) (v := .ref bk) (C := RX11) (T := TX11) (N := 11) hx hb hts (fun _ h9 => (List.mem_cons_of_mem _ (List.mem_append_right _ (List.mem_append_right _ (List.mem_append_left _ h9))))) hown hK hP 0 rfl rfl 0 (by decide) (hts (.fieldLink RX11 10 "JudoHall" "book" "LJudoHall$Book;") (List.mem_cons_of_mem _ (List.mem_append_left _ (List.mem_of_getElem? (i := 13) rfl)))) (fun _ h9 => h9) rfl dX11_enter_47 ?_
      refine vp_callSi (va_Run.run (va_runV (As := []) (rest := []) ⟨hx, hb, hml, hown, hts⟩ (c_isFull l G bk (.ref ca) (.ref bc) (.ref bb) (.ref bs) (.int 0)) (cwV 0 hts (gdV (List.mem_cons_of_mem _ (List.mem_append_left _ (List.mem_of_getElem? (i := 14) rfl))) (List.mem_cons_of_mem _ (List.mem_append_left _ (List.mem_of_getElem? (i := 15) rfl))) (List.mem_cons_of_mem _ (List.mem_append_left _ (List.mem_of_getElem? (i := 16) rfl))) (List.mem_cons_of_mem _ (List.mem_append_left _ (List.mem_of_getElem? (i := 17) rfl))) (fun w9 h9 => ⟨(List.mem_cons_of_mem _ (List.mem_append_right _ (List.mem_append_right _ (List.mem_append_right _ (List.mem_append_right _ (List.mem_append_right _ (List.mem_append_left _ h9))))))), gd_c_isFull w9 h9⟩)) rfl rfl rfl kVX1_isFull ⟨Nat.le_of_ble_eq_true rfl, Nat.le_of_ble_eq_true rfl⟩) (preV_p (As := []) (hP.sub (ws' := [(bk, .inr (2, [.ref ca, .ref bc, .ref bb, .ref bs, .int 0, .int 0]))]) [3] rfl) hB rfl rfl) rfl rfl hl.1 rfl (lv_room (Nat.le_of_ble_eq_true rfl)) dX11_enter_50 ⟨Nat.le_of_ble_eq_true rfl, Nat.le_of_ble_eq_true rfl⟩)) (fun r_8 hr_8 => ?_)
      subst hr_8
      refine lv_if_eq (tgt := 59) hx hb dX11_enter_53 (by decide) (fun _ => ?_) (fun c9 => absurd (by decide) c9)
      refine lv_aload_n hx hb dX11_enter_59 rfl (lv_at hl 0 rfl) ?_
      refine va_get (D := gD G) (ci := 12) (v := .ref bk) (C := RX11) (T := TX11) (N := 11) hx hb hts (fun _ h9 => (List.mem_cons_of_mem _ (List.mem_append_right _ (List.mem_append_right _ (List.mem_append_left _ h9))))) hown hK hP 0 rfl rfl 0 (by decide) (hts (.fieldLink RX11 10 "JudoHall" "book" "LJudoHall$Book;") (List.mem_cons_of_mem _ (List.mem_append_left _ (List.mem_of_getElem? (i := 13) rfl)))) (fun _ h9 => h9) rfl dX11_enter_60 ?_
      have hPc := hP.sub (ws' := [(bk, .inr (2, [.ref ca, .ref bc, .ref bb, .ref bs, .int 0, .int 0])), (bs, .inr (10, [.ref bs2])), (bs2, .inl (gI G, 500, .inl (fl 500 0 (fun _ => 0))))]) [3, 9, 10] rfl
      have hDc := hD.sub (ws' := [(bk, .inr (2, [.ref ca, .ref bc, .ref bb, .ref bs, .int 0, .int 0])), (bs, .inr (10, [.ref bs2])), (bs2, .inl (gI G, 500, .inl (fl 500 0 (fun _ => 0))))]) [3, 9, 10] (by decide) rfl
      have hFc := va_free (wc := [(bk, .inr (2, [.ref ca, .ref bc, .ref bb, .ref bs, .int 0, .int 0])), (bs, .inr (10, [.ref bs2])), (bs2, .inl (gI G, 500, .inl (fl 500 0 (fun _ => 0))))]) hD hS hA [3, 9, 10] rfl
      refine va_callv (va_runV (As := []) (rest := []) ⟨hx, hb, hml, hown, hts⟩ (c_openEntry l G bk (.ref ca) (.ref bc) (.ref bb) bs bs2 (fl 500 0 (fun _ => 0)) s.heap.size) (cwV 0 hts (gdV (List.mem_cons_of_mem _ (List.mem_append_left _ (List.mem_of_getElem? (i := 18) rfl))) (List.mem_cons_of_mem _ (List.mem_append_left _ (List.mem_of_getElem? (i := 19) rfl))) (List.mem_cons_of_mem _ (List.mem_append_left _ (List.mem_of_getElem? (i := 20) rfl))) (List.mem_cons_of_mem _ (List.mem_append_left _ (List.mem_of_getElem? (i := 17) rfl))) (fun w9 h9 => ⟨(List.mem_cons_of_mem _ (List.mem_append_right _ (List.mem_append_right _ (List.mem_append_right _ (List.mem_append_right _ (List.mem_append_right _ (List.mem_append_right _ (List.mem_append_left _ h9)))))))), gd_c_openEntry w9 h9⟩)) rfl rfl rfl kVX1_openEntry ⟨Nat.le_of_ble_eq_true rfl, Nat.le_of_ble_eq_true rfl⟩) (preV_m (As := []) hPc hB hDc rfl rfl) rfl rfl hl.1 rfl (lv_room (Nat.le_of_ble_eq_true rfl)) dX11_enter_63 ⟨Nat.le_of_ble_eq_true rfl, Nat.le_of_ble_eq_true rfl⟩) hS (fun q _ h => hFc q h) hFc (fun u t H1 locs ht hvm hw hB1 hz1 hk1 hS => ?_)
      obtain ⟨hP1, hD1⟩ := hB1
      rw [ht] at hP1
      obtain ⟨hP, hD⟩ := va_join (wr := [(jh, .inr (12, [.ref bk, .ref tp, .ref ps, .ref rl, u1, .ref bd, .ref fr, u2, .ref pn, .ref nl, u3])), (rl, .inr (9, [.ref bk])), (bd, .inr (1, [.ref bk, b1, b2, b3, b4, b5])), (ca, .inl (gI G, 2088, .inl bk0)), (bc, .inr (10, [.ref bc2])), (bc2, .inl (gI G, 512, .inl (fl 512 0 (fun _ => 0)))), (bb, .inr (10, [.ref bb2])), (bb2, .inl (gI G, 512, .inl (fl 512 0 (fun _ => 0))))]) (w1 := [(bk, .inr (2, [.ref ca, .ref bc, .ref bb, .ref bs, .int 0, .int 1]))]) hP hD [3, 9, 10] [0, 1, 2, 4, 5, 6, 7, 8] rfl rfl (by decide) (by decide) hk1 hFc hP1 hD1
      generalize H1 = H at hP hS ⊢
      have hP : va_P (gD G) vwCl [(jh, .inr (12, [.ref bk, .ref tp, .ref ps, .ref rl, u1, .ref bd, .ref fr, u2, .ref pn, .ref nl, u3])), (rl, .inr (9, [.ref bk])), (bd, .inr (1, [.ref bk, b1, b2, b3, b4, b5])), (ca, .inl (gI G, 2088, .inl bk0)), (bc, .inr (10, [.ref bc2])), (bc2, .inl (gI G, 512, .inl (fl 512 0 (fun _ => 0)))), (bb, .inr (10, [.ref bb2])), (bb2, .inl (gI G, 512, .inl (fl 512 0 (fun _ => 0)))), (bk, .inr (2, [.ref ca, .ref bc, .ref bb, .ref bs, .int 0, .int 1]))] H := hP
      have hD : va_D A [(jh, .inr (12, [.ref bk, .ref tp, .ref ps, .ref rl, u1, .ref bd, .ref fr, u2, .ref pn, .ref nl, u3])), (rl, .inr (9, [.ref bk])), (bd, .inr (1, [.ref bk, b1, b2, b3, b4, b5])), (ca, .inl (gI G, 2088, .inl bk0)), (bc, .inr (10, [.ref bc2])), (bc2, .inl (gI G, 512, .inl (fl 512 0 (fun _ => 0)))), (bb, .inr (10, [.ref bb2])), (bb2, .inl (gI G, 512, .inl (fl 512 0 (fun _ => 0)))), (bk, .inr (2, [.ref ca, .ref bc, .ref bb, .ref bs, .int 0, .int 1]))] := hD
      refine W.eq (g2 := F0 m 66 ls []) rfl ?_
      refine lv_aload_n hx hb dX11_enter_66 rfl (lv_at hl 0 rfl) ?_
      refine va_get (D := gD G) (ci := 12) (v := .ref rl) (C := RX11) (T := TX11) (N := 11) hx hb hts (fun _ h9 => (List.mem_cons_of_mem _ (List.mem_append_right _ (List.mem_append_right _ (List.mem_append_left _ h9))))) hown hK hP 0 rfl rfl 3 (by decide) (hts (.fieldLink RX11 37 "JudoHall" "roll" "LJudoHall$Roll;") (List.mem_cons_of_mem _ (List.mem_append_left _ (List.mem_of_getElem? (i := 8) rfl)))) (fun _ h9 => h9) rfl dX11_enter_67 ?_
      refine lv_iload_n hx hb dX11_enter_70 rfl (lv_at hl 1 rfl) ?_
      refine lv_iload_n hx hb dX11_enter_71 rfl (lv_at hl 2 rfl) ?_
      have hPc := hP.sub (ws' := [(rl, .inr (9, [.ref bk])), (bk, .inr (2, [.ref ca, .ref bc, .ref bb, .ref bs, .int 0, .int 1])), (ca, .inl (gI G, 2088, .inl bk0)), (bc, .inr (10, [.ref bc2])), (bc2, .inl (gI G, 512, .inl (fl 512 0 (fun _ => 0)))), (bb, .inr (10, [.ref bb2])), (bb2, .inl (gI G, 512, .inl (fl 512 0 (fun _ => 0))))]) [1, 8, 3, 4, 5, 6, 7] rfl
      have hDc := hD.sub (ws' := [(rl, .inr (9, [.ref bk])), (bk, .inr (2, [.ref ca, .ref bc, .ref bb, .ref bs, .int 0, .int 1])), (ca, .inl (gI G, 2088, .inl bk0)), (bc, .inr (10, [.ref bc2])), (bc2, .inl (gI G, 512, .inl (fl 512 0 (fun _ => 0)))), (bb, .inr (10, [.ref bb2])), (bb2, .inl (gI G, 512, .inl (fl 512 0 (fun _ => 0))))]) [1, 8, 3, 4, 5, 6, 7] (by decide) rfl
      have hFc := va_free (wc := [(rl, .inr (9, [.ref bk])), (bk, .inr (2, [.ref ca, .ref bc, .ref bb, .ref bs, .int 0, .int 1])), (ca, .inl (gI G, 2088, .inl bk0)), (bc, .inr (10, [.ref bc2])), (bc2, .inl (gI G, 512, .inl (fl 512 0 (fun _ => 0)))), (bb, .inr (10, [.ref bb2])), (bb2, .inl (gI G, 512, .inl (fl 512 0 (fun _ => 0))))]) hD hS hA [1, 8, 3, 4, 5, 6, 7] rfl
      refine va_calli (va_runV (As := [.int x, .int y]) (rest := []) ⟨hx, hb, hml, hown, hts⟩ (c_Roll_add l G rl bk ca bc bc2 bb bb2 (.ref bs) (.int 1) (fl 512 0 (fun _ => 0)) (fl 512 0 (fun _ => 0)) x y H.size) (cwV 2 hts (gdV (List.mem_cons_of_mem _ (List.mem_append_left _ (List.mem_of_getElem? (i := 21) rfl))) (List.mem_cons_of_mem _ (List.mem_append_left _ (List.mem_of_getElem? (i := 22) rfl))) (List.mem_cons_of_mem _ (List.mem_append_left _ (List.mem_of_getElem? (i := 23) rfl))) (List.mem_cons_of_mem _ (List.mem_append_left _ (List.mem_of_getElem? (i := 12) rfl))) (fun w9 h9 => ⟨(List.mem_cons_of_mem _ (List.mem_append_right _ (List.mem_append_right _ (List.mem_append_right _ (List.mem_append_right _ (List.mem_append_right _ (List.mem_append_right _ (List.mem_append_right _ (List.mem_append_left _ h9))))))))), gd_c_Roll_add w9 h9⟩)) rfl rfl rfl kVX8_add ⟨Nat.le_of_ble_eq_true rfl, Nat.le_of_ble_eq_true rfl⟩) (preV_m (As := [.int x, .int y]) hPc hB hDc rfl rfl) rfl rfl hl.1 rfl (lv_room (Nat.le_of_ble_eq_true rfl)) dX11_enter_72 ⟨Nat.le_of_ble_eq_true rfl, Nat.le_of_ble_eq_true rfl⟩) hS (fun q _ h => hFc q h) hFc (fun r_10 u t H1 locs ht hvm hw hB1 hz1 hk1 hS => ?_)
      obtain ⟨hP1, hD1⟩ := hB1
      rw [ht] at hP1
      obtain ⟨hP, hD⟩ := va_join (wr := [(jh, .inr (12, [.ref bk, .ref tp, .ref ps, .ref rl, u1, .ref bd, .ref fr, u2, .ref pn, .ref nl, u3])), (bd, .inr (1, [.ref bk, b1, b2, b3, b4, b5]))]) (w1 := []) hP hD [1, 8, 3, 4, 5, 6, 7] [0, 2] rfl rfl (by decide) (by decide) hk1 hFc hP1 hD1
      generalize H1 = H at hP hS ⊢
      have hP : va_P (gD G) vwCl [(jh, .inr (12, [.ref bk, .ref tp, .ref ps, .ref rl, u1, .ref bd, .ref fr, u2, .ref pn, .ref nl, u3])), (bd, .inr (1, [.ref bk, b1, b2, b3, b4, b5]))] H := hP
      have hD : va_D A [(jh, .inr (12, [.ref bk, .ref tp, .ref ps, .ref rl, u1, .ref bd, .ref fr, u2, .ref pn, .ref nl, u3])), (bd, .inr (1, [.ref bk, b1, b2, b3, b4, b5]))] := hD
      have hw : r_10 = 0 := hw
      subst hw
      refine W.eq (g2 := F0 m 75 ls [.int 0]) rfl ?_
      have hP9 := hP.sub (ws' := []) [] rfl
      have hD9 := hD.sub (ws' := []) [] (by decide) rfl
      exact W.iret (v := 0) hx hb hr (fun t ht hW => ⟨⟨_, (), rfl, by rw [if_neg (show ¬ (x < 0 ∨ 16 ≤ x ∨ y < 0 ∨ 4 ≤ y) from (not_or.mpr ⟨c_1, (not_or.mpr ⟨c_2, (not_or.mpr ⟨c_4, c_5⟩)⟩)⟩))], by rw [ht]; exact hP9, hD9⟩, hS.F ht⟩) hS.2.2 dX11_enter_75

def wo_q_weigh : List Cond := [.fieldLink RX11 37 "JudoHall" "roll" "LJudoHall$Roll;", .methodLink RX11 179 yX8_has, .instanceMethod yX8_has, .selects RX8 yX8_has yX8_has, .initialized RX8]
def wq_q_weigh : List Cond := .code yX11_weigh cX11_weigh 3 (some .int) :: (wo_q_weigh ++ (wsX110 ++ (wq_c_Roll_has ++ [])))
theorem gd_q_weigh : ∀ w ∈ wq_q_weigh, Gd w := List.forall_mem_cons.mpr ⟨Or.inl rfl, List.forall_mem_append.mpr ⟨gdl wo_q_weigh (by decide +kernel), (List.forall_mem_append.mpr ⟨gd_wsX110, (List.forall_mem_append.mpr ⟨gd_c_Roll_has, (fun _ h => absurd h List.not_mem_nil)⟩)⟩)⟩⟩
theorem in_q_weigh : ∀ w ∈ wq_q_weigh, w ∈ lw_tbl := List.forall_mem_cons.mpr ⟨List.mem_of_getElem? (i := 1026) (by decide +kernel), List.forall_mem_append.mpr ⟨inT wo_q_weigh [558, 1027, 1028, 1029, 162] (by decide +kernel), (List.forall_mem_append.mpr ⟨in_wsX110, (List.forall_mem_append.mpr ⟨in_c_Roll_has, (fun _ h => absurd h List.not_mem_nil)⟩)⟩)⟩⟩
set_option maxHeartbeats 4000000 in
set_option maxRecDepth 100000 in
theorem q_weigh (l : Launch) (G : gG) (jh : Nat) (bk : Nat) (tp : Nat) (ps : Nat) (rl : Nat) (u1 : Value) (bd : Nat) (fr : Nat) (u2 : Value) (pn : Nat) (nl : Nat) (u3 : Value) (ca : Nat) (bc : Nat) (bb : Nat) (bs : Nat) (x : Int32) (y : Int32) : Met l yX11_weigh wq_q_weigh ({ frames := 3, cells := 0, slots := 0, locals := 62 }) (va_Pc [.ref jh, .int x, .int y] (pP G [(jh, .inr (12, [.ref bk, .ref tp, .ref ps, .ref rl, u1, .ref bd, .ref fr, u2, .ref pn, .ref nl, u3])), (rl, .inr (9, [.ref bk])), (bk, .inr (2, [.ref ca, .ref bc, .ref bb, .ref bs, .int 0, .int 0])), (ca, .inl (gI G, 2088, .inl bk0))])) (vp_Si (fun r : Int32 => r = (-2))) 0 0 (fun _ => False) := by
  refine Met.ofW (cc := cX11_weigh) (maxL := 3) (ret := (some .int)) (by decide) rfl ?_
  intro p e s m args below meth c s₁ B hml hv
  obtain ⟨rfl, hP, hB⟩ := hv
  have hx := B.exec
  have hb := B.bytes
  have hr := B.returns
  have hts := atoms_spec (ws := wq_q_weigh) B.pre
  have hown : s.vm.findClass RX11 = some m.cls := findClass_of_methodNamed B.named
  have hlocks := B.notSynchronized
  have hK := hB.1
  have hP : va_P (gD G) vwCl [(jh, .inr (12, [.ref bk, .ref tp, .ref ps, .ref rl, u1, .ref bd, .ref fr, u2, .ref pn, .ref nl, u3])), (rl, .inr (9, [.ref bk])), (bk, .inr (2, [.ref ca, .ref bc, .ref bb, .ref bs, .int 0, .int 0])), (ca, .inl (gI G, 2088, .inl bk0))] s.heap := hP
  have hl := lv_entry ([.ref jh, .int x, .int y]) (n := 3) (Nat.le_of_ble_eq_true rfl)
  rw [lg_entry_eq]
  generalize (lg_sl ([.ref jh, .int x, .int y]) ++ List.replicate (3 - (lg_sl ([.ref jh, .int x, .int y])).length) Slot.unset).toArray = ls at hl ⊢
  have hl : lv_has ls 3 [(0, .ref jh), (1, .int x), (2, .int y)] := hl
  refine lv_aload_n hx hb dX11_weigh_0 rfl (lv_at hl 0 rfl) ?_
  refine va_get (D := gD G) (ci := 12) (v := .ref rl) (C := RX11) (T := TX11) (N := 11) hx hb hts (fun _ h9 => (List.mem_cons_of_mem _ (List.mem_append_right _ (List.mem_append_left _ h9)))) hown hK hP 0 rfl rfl 3 (by decide) (hts (.fieldLink RX11 37 "JudoHall" "roll" "LJudoHall$Roll;") (List.mem_cons_of_mem _ (List.mem_append_left _ (List.mem_of_getElem? (i := 0) rfl)))) (fun _ h9 => h9) rfl dX11_weigh_1 ?_
  refine lv_iload_n hx hb dX11_weigh_4 rfl (lv_at hl 1 rfl) ?_
  refine vp_callSi (va_Run.run (va_runV (As := [.int x]) (rest := []) ⟨hx, hb, hml, hown, hts⟩ (c_Roll_has l G rl bk ca (.ref bc) (.ref bb) (.ref bs) (.int 0) (.int 0) x) (cwV 1 hts (gdV (List.mem_cons_of_mem _ (List.mem_append_left _ (List.mem_of_getElem? (i := 1) rfl))) (List.mem_cons_of_mem _ (List.mem_append_left _ (List.mem_of_getElem? (i := 2) rfl))) (List.mem_cons_of_mem _ (List.mem_append_left _ (List.mem_of_getElem? (i := 3) rfl))) (List.mem_cons_of_mem _ (List.mem_append_left _ (List.mem_of_getElem? (i := 4) rfl))) (fun w9 h9 => ⟨(List.mem_cons_of_mem _ (List.mem_append_right _ (List.mem_append_right _ (List.mem_append_left _ h9)))), gd_c_Roll_has w9 h9⟩)) rfl rfl rfl kVX8_has ⟨Nat.le_of_ble_eq_true rfl, Nat.le_of_ble_eq_true rfl⟩) (preV_p (As := [.int x]) (hP.sub (ws' := [(rl, .inr (9, [.ref bk])), (bk, .inr (2, [.ref ca, .ref bc, .ref bb, .ref bs, .int 0, .int 0])), (ca, .inl (gI G, 2088, .inl bk0))]) [1, 2, 3] rfl) hB rfl rfl) rfl rfl hl.1 rfl (lv_room (Nat.le_of_ble_eq_true rfl)) dX11_weigh_5 ⟨Nat.le_of_ble_eq_true rfl, Nat.le_of_ble_eq_true rfl⟩)) (fun r_1 hr_1 => ?_)
  subst hr_1
  refine lv_if_eq (tgt := 18) hx hb dX11_weigh_8 (by decide) (fun _ => ?_) (fun c9 => absurd (by decide) c9)
  refine lv_bipush (v := (-2)) hx hb dX11_weigh_18 (by decide) ?_
  exact W.iret (v := (-2)) hx hb hr (fun t ht hW => ⟨_, rfl, rfl, ht⟩) (fun q h => absurd h List.not_mem_nil) dX11_weigh_20

def wo_q_seed : List Cond := [.fieldLink RX11 37 "JudoHall" "roll" "LJudoHall$Roll;", .methodLink RX11 179 yX8_has, .instanceMethod yX8_has, .selects RX8 yX8_has yX8_has, .initialized RX8]
def wq_q_seed : List Cond := .code yX11_seed cX11_seed 4 (some .int) :: (wo_q_seed ++ (wsX110 ++ (wq_c_Roll_has ++ [])))
theorem gd_q_seed : ∀ w ∈ wq_q_seed, Gd w := List.forall_mem_cons.mpr ⟨Or.inl rfl, List.forall_mem_append.mpr ⟨gdl wo_q_seed (by decide +kernel), (List.forall_mem_append.mpr ⟨gd_wsX110, (List.forall_mem_append.mpr ⟨gd_c_Roll_has, (fun _ h => absurd h List.not_mem_nil)⟩)⟩)⟩⟩
theorem in_q_seed : ∀ w ∈ wq_q_seed, w ∈ lw_tbl := List.forall_mem_cons.mpr ⟨List.mem_of_getElem? (i := 1040) (by decide +kernel), List.forall_mem_append.mpr ⟨inT wo_q_seed [558, 1027, 1028, 1029, 162] (by decide +kernel), (List.forall_mem_append.mpr ⟨in_wsX110, (List.forall_mem_append.mpr ⟨in_c_Roll_has, (fun _ h => absurd h List.not_mem_nil)⟩)⟩)⟩⟩
set_option maxHeartbeats 4000000 in
set_option maxRecDepth 100000 in
theorem q_seed (l : Launch) (G : gG) (jh : Nat) (bk : Nat) (tp : Nat) (ps : Nat) (rl : Nat) (u1 : Value) (bd : Nat) (fr : Nat) (u2 : Value) (pn : Nat) (nl : Nat) (u3 : Value) (ca : Nat) (bc : Nat) (bb : Nat) (bs : Nat) (x : Int32) (y : Int32) : Met l yX11_seed wq_q_seed ({ frames := 3, cells := 0, slots := 0, locals := 62 }) (va_Pc [.ref jh, .int x, .int y] (pP G [(jh, .inr (12, [.ref bk, .ref tp, .ref ps, .ref rl, u1, .ref bd, .ref fr, u2, .ref pn, .ref nl, u3])), (rl, .inr (9, [.ref bk])), (bk, .inr (2, [.ref ca, .ref bc, .ref bb, .ref bs, .int 0, .int 0])), (ca, .inl (gI G, 2088, .inl bk0))])) (vp_Si (fun r : Int32 => r = (-2))) 0 0 (fun _ => False) := by
  refine Met.ofW (cc := cX11_seed) (maxL := 4) (ret := (some .int)) (by decide) rfl ?_
  intro p e s m args below meth c s₁ B hml hv
  obtain ⟨rfl, hP, hB⟩ := hv
  have hx := B.exec
  have hb := B.bytes
  have hr := B.returns
  have hts := atoms_spec (ws := wq_q_seed) B.pre
  have hown : s.vm.findClass RX11 = some m.cls := findClass_of_methodNamed B.named
  have hlocks := B.notSynchronized
  have hK := hB.1
  have hP : va_P (gD G) vwCl [(jh, .inr (12, [.ref bk, .ref tp, .ref ps, .ref rl, u1, .ref bd, .ref fr, u2, .ref pn, .ref nl, u3])), (rl, .inr (9, [.ref bk])), (bk, .inr (2, [.ref ca, .ref bc, .ref bb, .ref bs, .int 0, .int 0])), (ca, .inl (gI G, 2088, .inl bk0))] s.heap := hP
  have hl := lv_entry ([.ref jh, .int x, .int y]) (n := 4) (Nat.le_of_ble_eq_true rfl)
  rw [lg_entry_eq]
  generalize (lg_sl ([.ref jh, .int x, .int y]) ++ List.replicate (4 - (lg_sl ([.ref jh, .int x, .int y])).length) Slot.unset).toArray = ls at hl ⊢
  have hl : lv_has ls 4 [(0, .ref jh), (1, .int x), (2, .int y)] := hl
  refine lv_aload_n hx hb dX11_seed_0 rfl (lv_at hl 0 rfl) ?_
  refine va_get (D := gD G) (ci := 12) (v := .ref rl) (C := RX11) (T := TX11) (N := 11) hx hb hts (fun _ h9 => (List.mem_cons_of_mem _ (List.mem_append_right _ (List.mem_append_left _ h9)))) hown hK hP 0 rfl rfl 3 (by decide) (hts (.fieldLink RX11 37 "JudoHall" "roll" "LJudoHall$Roll;") (List.mem_cons_of_mem _ (List.mem_append_left _ (List.mem_of_getElem? (i := 0) rfl)))) (fun _ h9 => h9) rfl dX11_seed_1 ?_
  refine lv_iload_n hx hb dX11_seed_4 rfl (lv_at hl 1 rfl) ?_
  refine vp_callSi (va_Run.run (va_runV (As := [.int x]) (rest := []) ⟨hx, hb, hml, hown, hts⟩ (c_Roll_has l G rl bk ca (.ref bc) (.ref bb) (.ref bs) (.int 0) (.int 0) x) (cwV 1 hts (gdV (List.mem_cons_of_mem _ (List.mem_append_left _ (List.mem_of_getElem? (i := 1) rfl))) (List.mem_cons_of_mem _ (List.mem_append_left _ (List.mem_of_getElem? (i := 2) rfl))) (List.mem_cons_of_mem _ (List.mem_append_left _ (List.mem_of_getElem? (i := 3) rfl))) (List.mem_cons_of_mem _ (List.mem_append_left _ (List.mem_of_getElem? (i := 4) rfl))) (fun w9 h9 => ⟨(List.mem_cons_of_mem _ (List.mem_append_right _ (List.mem_append_right _ (List.mem_append_left _ h9)))), gd_c_Roll_has w9 h9⟩)) rfl rfl rfl kVX8_has ⟨Nat.le_of_ble_eq_true rfl, Nat.le_of_ble_eq_true rfl⟩) (preV_p (As := [.int x]) (hP.sub (ws' := [(rl, .inr (9, [.ref bk])), (bk, .inr (2, [.ref ca, .ref bc, .ref bb, .ref bs, .int 0, .int 0])), (ca, .inl (gI G, 2088, .inl bk0))]) [1, 2, 3] rfl) hB rfl rfl) rfl rfl hl.1 rfl (lv_room (Nat.le_of_ble_eq_true rfl)) dX11_seed_5 ⟨Nat.le_of_ble_eq_true rfl, Nat.le_of_ble_eq_true rfl⟩)) (fun r_1 hr_1 => ?_)
  subst hr_1
  refine lv_if_eq (tgt := 21) hx hb dX11_seed_8 (by decide) (fun _ => ?_) (fun c9 => absurd (by decide) c9)
  refine lv_bipush (v := (-2)) hx hb dX11_seed_21 (by decide) ?_
  exact W.iret (v := (-2)) hx hb hr (fun t ht hW => ⟨_, rfl, rfl, ht⟩) (fun q h => absurd h List.not_mem_nil) dX11_seed_23

def wo_q_draw : List Cond := [.methodLink RX11 157 yX11_isClass, .static yX11_isClass, .initialized RX11, .fieldLink RX11 51 "JudoHall" "board" "LJudoHall$Board;", .methodLink RX11 164 yX0_isDrawn, .instanceMethod yX0_isDrawn, .selects RX0 yX0_isDrawn yX0_isDrawn, .initialized RX0, .fieldLink RX11 37 "JudoHall" "roll" "LJudoHall$Roll;", .methodLink RX11 195 yX8_weighedOf, .instanceMethod yX8_weighedOf, .selects RX8 yX8_weighedOf yX8_weighedOf, .initialized RX8]
def wq_q_draw : List Cond := .code yX11_draw cX11_draw 3 (some .int) :: (wo_q_draw ++ (wq_c_isClass ++ (wsX110 ++ (wq_c_Board_isDrawn ++ (wq_c_weighedOf ++ [])))))
theorem gd_q_draw : ∀ w ∈ wq_q_draw, Gd w := List.forall_mem_cons.mpr ⟨Or.inl rfl, List.forall_mem_append.mpr ⟨gdl wo_q_draw (by decide +kernel), (List.forall_mem_append.mpr ⟨gd_c_isClass, (List.forall_mem_append.mpr ⟨gd_wsX110, (List.forall_mem_append.mpr ⟨gd_c_Board_isDrawn, (List.forall_mem_append.mpr ⟨gd_c_weighedOf, (fun _ h => absurd h List.not_mem_nil)⟩)⟩)⟩)⟩)⟩⟩
theorem in_q_draw : ∀ w ∈ wq_q_draw, w ∈ lw_tbl := List.forall_mem_cons.mpr ⟨List.mem_of_getElem? (i := 1049) (by decide +kernel), List.forall_mem_append.mpr ⟨inT wo_q_draw [979, 980, 154, 560, 986, 987, 988, 164, 558, 1050, 1051, 1052, 162] (by decide +kernel), (List.forall_mem_append.mpr ⟨in_c_isClass, (List.forall_mem_append.mpr ⟨in_wsX110, (List.forall_mem_append.mpr ⟨in_c_Board_isDrawn, (List.forall_mem_append.mpr ⟨in_c_weighedOf, (fun _ h => absurd h List.not_mem_nil)⟩)⟩)⟩)⟩)⟩⟩
set_option maxHeartbeats 4000000 in
set_option maxRecDepth 100000 in
theorem q_draw (l : Launch) (G : gG) (jh : Nat) (bk : Nat) (tp : Nat) (ps : Nat) (rl : Nat) (u1 : Value) (bd : Nat) (fr : Nat) (u2 : Value) (pn : Nat) (nl : Nat) (u3 : Value) (b1 : Value) (b2 : Value) (b3 : Value) (b4 : Value) (b5 : Value) (ca : Nat) (bc : Nat) (bb : Nat) (bs : Nat) (x : Int32) : Met l yX11_draw wq_q_draw ({ frames := 3, cells := 0, slots := 0, locals := 64 }) (va_Pc [.ref jh, .int x] (pP G [(jh, .inr (12, [.ref bk, .ref tp, .ref ps, .ref rl, u1, .ref bd, .ref fr, u2, .ref pn, .ref nl, u3])), (rl, .inr (9, [.ref bk])), (bd, .inr (1, [.ref bk, b1, b2, b3, b4, b5])), (bk, .inr (2, [.ref ca, .ref bc, .ref bb, .ref bs, .int 0, .int 0])), (ca, .inl (gI G, 2088, .inl bk0))])) (vp_Si (fun r : Int32 => r = if x < 0 ∨ 4 ≤ x then (-2) else (-1))) 0 0 (fun _ => False) := by
  refine Met.ofW (cc := cX11_draw) (maxL := 3) (ret := (some .int)) (by decide) rfl ?_
  intro p e s m args below meth c s₁ B hml hv
  obtain ⟨rfl, hP, hB⟩ := hv
  have hx := B.exec
  have hb := B.bytes
  have hr := B.returns
  have hts := atoms_spec (ws := wq_q_draw) B.pre
  have hown : s.vm.findClass RX11 = some m.cls := findClass_of_methodNamed B.named
  have hlocks := B.notSynchronized
  have hK := hB.1
  have hP : va_P (gD G) vwCl [(jh, .inr (12, [.ref bk, .ref tp, .ref ps, .ref rl, u1, .ref bd, .ref fr, u2, .ref pn, .ref nl, u3])), (rl, .inr (9, [.ref bk])), (bd, .inr (1, [.ref bk, b1, b2, b3, b4, b5])), (bk, .inr (2, [.ref ca, .ref bc, .ref bb, .ref bs, .int 0, .int 0])), (ca, .inl (gI G, 2088, .inl bk0))] s.heap := hP
  have hl := lv_entry ([.ref jh, .int x]) (n := 3) (Nat.le_of_ble_eq_true rfl)
  rw [lg_entry_eq]
  generalize (lg_sl ([.ref jh, .int x]) ++ List.replicate (3 - (lg_sl ([.ref jh, .int x])).length) Slot.unset).toArray = ls at hl ⊢
  have hl : lv_has ls 3 [(0, .ref jh), (1, .int x)] := hl
  refine lv_iload_n hx hb dX11_draw_0 rfl (lv_at hl 1 rfl) ?_
  refine vp_callSi (va_Run.run (va_runS (As := [.int x]) (rest := []) ⟨hx, hb, hml, hown, hts⟩ (c_isClass l G x) (va_cwS 1 hts (gdS (List.mem_cons_of_mem _ (List.mem_append_left _ (List.mem_of_getElem? (i := 0) rfl))) (List.mem_cons_of_mem _ (List.mem_append_left _ (List.mem_of_getElem? (i := 1) rfl))) (List.mem_cons_of_mem _ (List.mem_append_left _ (List.mem_of_getElem? (i := 2) rfl))) (fun w9 h9 => ⟨(List.mem_cons_of_mem _ (List.mem_append_right _ (List.mem_append_left _ h9))), gd_c_isClass w9 h9⟩)) rfl rfl rfl kSX11_isClass ⟨Nat.le_of_ble_eq_true rfl, Nat.le_of_ble_eq_true rfl⟩) (preS_p (As := [.int x]) (hP.sub (ws' := []) [] rfl) hB) rfl rfl hl.1 rfl (lv_room (Nat.le_of_ble_eq_true rfl)) dX11_draw_1 ⟨Nat.le_of_ble_eq_true rfl, Nat.le_of_ble_eq_true rfl⟩)) (fun r_1 hr_1 => ?_)
  by_cases c_2 : x < 0
  · have hr_1 : r_1 = 0 := hr_1.trans (by rw [if_pos (show x < 0 ∨ 4 ≤ x from (Or.inl c_2))])
    subst hr_1
    refine lv_if_ne (tgt := 10) hx hb dX11_draw_4 (by decide) (fun c9 => absurd (by decide) c9) (fun _ => ?_)
    refine lv_bipush (v := (-2)) hx hb dX11_draw_7 (by decide) ?_
    exact W.iret (v := (-2)) hx hb hr (fun t ht hW => ⟨_, rfl, by rw [if_pos (show x < 0 ∨ 4 ≤ x from (Or.inl c_2))], ht⟩) (fun q h => absurd h List.not_mem_nil) dX11_draw_9
  by_cases c_3 : 4 ≤ x
  · have hr_1 : r_1 = 0 := hr_1.trans (by rw [if_pos (show x < 0 ∨ 4 ≤ x from (Or.inr c_3))])
    subst hr_1
    refine lv_if_ne (tgt := 10) hx hb dX11_draw_4 (by decide) (fun c9 => absurd (by decide) c9) (fun _ => ?_)
    refine lv_bipush (v := (-2)) hx hb dX11_draw_7 (by decide) ?_
    exact W.iret (v := (-2)) hx hb hr (fun t ht hW => ⟨_, rfl, by rw [if_pos (show x < 0 ∨ 4 ≤ x from (Or.inr c_3))], ht⟩) (fun q h => absurd h List.not_mem_nil) dX11_draw_9
  have hr_1 : r_1 = 1 := hr_1.trans (by rw [if_neg (show ¬ (x < 0 ∨ 4 ≤ x) from (not_or.mpr ⟨c_2, c_3⟩))])
  subst hr_1
  refine lv_if_ne (tgt := 10) hx hb dX11_draw_4 (by decide) (fun _ => ?_) (fun c9 => absurd c9 (by decide))
  refine lv_aload_n hx hb dX11_draw_10 rfl (lv_at hl 0 rfl) ?_
  refine va_get (D := gD G) (ci := 12) (v := .ref bd) (C := RX11) (T := TX11) (N := 11) hx hb hts (fun _ h9 => (List.mem_cons_of_mem _ (List.mem_append_right _ (List.mem_append_right _ (List.mem_append_left _ h9))))) hown hK hP 0 rfl rfl 5 (by decide) (hts (.fieldLink RX11 51 "JudoHall" "board" "LJudoHall$Board;") (List.mem_cons_of_mem _ (List.mem_append_left _ (List.mem_of_getElem? (i := 3) rfl)))) (fun _ h9 => h9) rfl dX11_draw_11 ?_
  refine lv_iload_n hx hb dX11_draw_14 rfl (lv_at hl 1 rfl) ?_
  refine vp_callSi (va_Run.run (va_runV (As := [.int x]) (rest := []) ⟨hx, hb, hml, hown, hts⟩ (c_Board_isDrawn l G bd bk ca 2088 bk0 (.ref bc) (.ref bb) (.ref bs) (.int 0) (.int 0) b1 b2 b3 b4 b5 x (by decide)) (cwV 1 hts (gdV (List.mem_cons_of_mem _ (List.mem_append_left _ (List.mem_of_getElem? (i := 4) rfl))) (List.mem_cons_of_mem _ (List.mem_append_left _ (List.mem_of_getElem? (i := 5) rfl))) (List.mem_cons_of_mem _ (List.mem_append_left _ (List.mem_of_getElem? (i := 6) rfl))) (List.mem_cons_of_mem _ (List.mem_append_left _ (List.mem_of_getElem? (i := 7) rfl))) (fun w9 h9 => ⟨(List.mem_cons_of_mem _ (List.mem_append_right _ (List.mem_append_right _ (List.mem_append_right _ (List.mem_append_left _ h9))))), gd_c_Board_isDrawn w9 h9⟩)) rfl rfl rfl kVX0_isDrawn ⟨Nat.le_of_ble_eq_true rfl, Nat.le_of_ble_eq_true rfl⟩) (preV_p (As := [.int x]) (hP.sub (ws' := [(bd, .inr (1, [.ref bk, b1, b2, b3, b4, b5])), (bk, .inr (2, [.ref ca, .ref bc, .ref bb, .ref bs, .int 0, .int 0])), (ca, .inl (gI G, 2088, .inl bk0))]) [2, 3, 4] rfl) hB rfl rfl) rfl rfl hl.1 rfl (lv_room (Nat.le_of_ble_eq_true rfl)) dX11_draw_15 ⟨Nat.le_of_ble_eq_true rfl, Nat.le_of_ble_eq_true rfl⟩)) (fun r_4 hr_4 => ?_)
  have hr_4 : r_4 = 0 := hr_4.trans (if_pos (bk_kind c_2 c_3))
  subst hr_4
  refine lv_if_eq (tgt := 24) hx hb dX11_draw_18 (by decide) (fun _ => ?_) (fun c9 => absurd (by decide) c9)
  refine lv_aload_n hx hb dX11_draw_24 rfl (lv_at hl 0 rfl) ?_
  refine va_get (D := gD G) (ci := 12) (v := .ref rl) (C := RX11) (T := TX11) (N := 11) hx hb hts (fun _ h9 => (List.mem_cons_of_mem _ (List.mem_append_right _ (List.mem_append_right _ (List.mem_append_left _ h9))))) hown hK hP 0 rfl rfl 3 (by decide) (hts (.fieldLink RX11 37 "JudoHall" "roll" "LJudoHall$Roll;") (List.mem_cons_of_mem _ (List.mem_append_left _ (List.mem_of_getElem? (i := 8) rfl)))) (fun _ h9 => h9) rfl dX11_draw_25 ?_
  refine lv_iload_n hx hb dX11_draw_28 rfl (lv_at hl 1 rfl) ?_
  refine vp_callSi (va_Run.run (va_runV (As := [.int x]) (rest := []) ⟨hx, hb, hml, hown, hts⟩ (c_weighedOf l G rl bk ca (.ref bc) (.ref bb) (.ref bs) (.int 0) (.int 0) x) (cwV 1 hts (gdV (List.mem_cons_of_mem _ (List.mem_append_left _ (List.mem_of_getElem? (i := 9) rfl))) (List.mem_cons_of_mem _ (List.mem_append_left _ (List.mem_of_getElem? (i := 10) rfl))) (List.mem_cons_of_mem _ (List.mem_append_left _ (List.mem_of_getElem? (i := 11) rfl))) (List.mem_cons_of_mem _ (List.mem_append_left _ (List.mem_of_getElem? (i := 12) rfl))) (fun w9 h9 => ⟨(List.mem_cons_of_mem _ (List.mem_append_right _ (List.mem_append_right _ (List.mem_append_right _ (List.mem_append_right _ (List.mem_append_left _ h9)))))), gd_c_weighedOf w9 h9⟩)) rfl rfl rfl kVX8_weighedOf ⟨Nat.le_of_ble_eq_true rfl, Nat.le_of_ble_eq_true rfl⟩) (preV_p (As := [.int x]) (hP.sub (ws' := [(rl, .inr (9, [.ref bk])), (bk, .inr (2, [.ref ca, .ref bc, .ref bb, .ref bs, .int 0, .int 0])), (ca, .inl (gI G, 2088, .inl bk0))]) [1, 3, 4] rfl) hB rfl rfl) rfl rfl hl.1 rfl (lv_room (Nat.le_of_ble_eq_true rfl)) dX11_draw_29 ⟨Nat.le_of_ble_eq_true rfl, Nat.le_of_ble_eq_true rfl⟩)) (fun r_5 hr_5 => ?_)
  subst hr_5
  refine lv_istore_n (lv' := [(2, .int 0), (0, .ref jh), (1, .int x)]) hx hb dX11_draw_32 rfl hl (by decide) rfl (fun ls hl => ?_)
  refine lv_iload_n hx hb dX11_draw_33 rfl (lv_at hl 0 rfl) ?_
  refine lv_iconst (v := 2) hx hb dX11_draw_34 (by decide) ?_
  refine lv_icmp_lt (tgt := 44) hx hb dX11_draw_35 (by decide) (fun _ => ?_) (fun c9 => absurd (by decide) c9)
  refine lv_iconst (v := (-1)) hx hb dX11_draw_44 (by decide) ?_
  exact W.iret (v := (-1)) hx hb hr (fun t ht hW => ⟨_, rfl, by rw [if_neg (show ¬ (x < 0 ∨ 4 ≤ x) from (not_or.mpr ⟨c_2, c_3⟩))], ht⟩) (fun q h => absurd h List.not_mem_nil) dX11_draw_45

def wo_q_fighter : List Cond := [.fieldLink RX11 37 "JudoHall" "roll" "LJudoHall$Roll;", .methodLink RX11 179 yX8_has, .instanceMethod yX8_has, .selects RX8 yX8_has yX8_has, .initialized RX8]
def wq_q_fighter : List Cond := .code yX11_fighter cX11_fighter 3 (some .int) :: (wo_q_fighter ++ (wsX110 ++ (wq_c_Roll_has ++ [])))
theorem gd_q_fighter : ∀ w ∈ wq_q_fighter, Gd w := List.forall_mem_cons.mpr ⟨Or.inl rfl, List.forall_mem_append.mpr ⟨gdl wo_q_fighter (by decide +kernel), (List.forall_mem_append.mpr ⟨gd_wsX110, (List.forall_mem_append.mpr ⟨gd_c_Roll_has, (fun _ h => absurd h List.not_mem_nil)⟩)⟩)⟩⟩
theorem in_q_fighter : ∀ w ∈ wq_q_fighter, w ∈ lw_tbl := List.forall_mem_cons.mpr ⟨List.mem_of_getElem? (i := 1186) (by decide +kernel), List.forall_mem_append.mpr ⟨inT wo_q_fighter [558, 1027, 1028, 1029, 162] (by decide +kernel), (List.forall_mem_append.mpr ⟨in_wsX110, (List.forall_mem_append.mpr ⟨in_c_Roll_has, (fun _ h => absurd h List.not_mem_nil)⟩)⟩)⟩⟩
set_option maxHeartbeats 4000000 in
set_option maxRecDepth 100000 in
theorem q_fighter (l : Launch) (G : gG) (jh : Nat) (bk : Nat) (tp : Nat) (ps : Nat) (rl : Nat) (u1 : Value) (bd : Nat) (fr : Nat) (u2 : Value) (pn : Nat) (nl : Nat) (u3 : Value) (ca : Nat) (bc : Nat) (bb : Nat) (bs : Nat) (x : Int32) (y : Int32) : Met l yX11_fighter wq_q_fighter ({ frames := 3, cells := 0, slots := 0, locals := 62 }) (va_Pc [.ref jh, .int x, .int y] (pP G [(jh, .inr (12, [.ref bk, .ref tp, .ref ps, .ref rl, u1, .ref bd, .ref fr, u2, .ref pn, .ref nl, u3])), (rl, .inr (9, [.ref bk])), (bk, .inr (2, [.ref ca, .ref bc, .ref bb, .ref bs, .int 0, .int 0])), (ca, .inl (gI G, 2088, .inl bk0))])) (vp_Si (fun r : Int32 => r = (-1))) 0 0 (fun _ => False) := by
  refine Met.ofW (cc := cX11_fighter) (maxL := 3) (ret := (some .int)) (by decide) rfl ?_
  intro p e s m args below meth c s₁ B hml hv
  obtain ⟨rfl, hP, hB⟩ := hv
  have hx := B.exec
  have hb := B.bytes
  have hr := B.returns
  have hts := atoms_spec (ws := wq_q_fighter) B.pre
  have hown : s.vm.findClass RX11 = some m.cls := findClass_of_methodNamed B.named
  have hlocks := B.notSynchronized
  have hK := hB.1
  have hP : va_P (gD G) vwCl [(jh, .inr (12, [.ref bk, .ref tp, .ref ps, .ref rl, u1, .ref bd, .ref fr, u2, .ref pn, .ref nl, u3])), (rl, .inr (9, [.ref bk])), (bk, .inr (2, [.ref ca, .ref bc, .ref bb, .ref bs, .int 0, .int 0])), (ca, .inl (gI G, 2088, .inl bk0))] s.heap := hP
  have hl := lv_entry ([.ref jh, .int x, .int y]) (n := 3) (Nat.le_of_ble_eq_true rfl)
  rw [lg_entry_eq]
  generalize (lg_sl ([.ref jh, .int x, .int y]) ++ List.replicate (3 - (lg_sl ([.ref jh, .int x, .int y])).length) Slot.unset).toArray = ls at hl ⊢
  have hl : lv_has ls 3 [(0, .ref jh), (1, .int x), (2, .int y)] := hl
  refine lv_aload_n hx hb dX11_fighter_0 rfl (lv_at hl 0 rfl) ?_
  refine va_get (D := gD G) (ci := 12) (v := .ref rl) (C := RX11) (T := TX11) (N := 11) hx hb hts (fun _ h9 => (List.mem_cons_of_mem _ (List.mem_append_right _ (List.mem_append_left _ h9)))) hown hK hP 0 rfl rfl 3 (by decide) (hts (.fieldLink RX11 37 "JudoHall" "roll" "LJudoHall$Roll;") (List.mem_cons_of_mem _ (List.mem_append_left _ (List.mem_of_getElem? (i := 0) rfl)))) (fun _ h9 => h9) rfl dX11_fighter_1 ?_
  refine lv_iload_n hx hb dX11_fighter_4 rfl (lv_at hl 1 rfl) ?_
  refine vp_callSi (va_Run.run (va_runV (As := [.int x]) (rest := []) ⟨hx, hb, hml, hown, hts⟩ (c_Roll_has l G rl bk ca (.ref bc) (.ref bb) (.ref bs) (.int 0) (.int 0) x) (cwV 1 hts (gdV (List.mem_cons_of_mem _ (List.mem_append_left _ (List.mem_of_getElem? (i := 1) rfl))) (List.mem_cons_of_mem _ (List.mem_append_left _ (List.mem_of_getElem? (i := 2) rfl))) (List.mem_cons_of_mem _ (List.mem_append_left _ (List.mem_of_getElem? (i := 3) rfl))) (List.mem_cons_of_mem _ (List.mem_append_left _ (List.mem_of_getElem? (i := 4) rfl))) (fun w9 h9 => ⟨(List.mem_cons_of_mem _ (List.mem_append_right _ (List.mem_append_right _ (List.mem_append_left _ h9)))), gd_c_Roll_has w9 h9⟩)) rfl rfl rfl kVX8_has ⟨Nat.le_of_ble_eq_true rfl, Nat.le_of_ble_eq_true rfl⟩) (preV_p (As := [.int x]) (hP.sub (ws' := [(rl, .inr (9, [.ref bk])), (bk, .inr (2, [.ref ca, .ref bc, .ref bb, .ref bs, .int 0, .int 0])), (ca, .inl (gI G, 2088, .inl bk0))]) [1, 2, 3] rfl) hB rfl rfl) rfl rfl hl.1 rfl (lv_room (Nat.le_of_ble_eq_true rfl)) dX11_fighter_5 ⟨Nat.le_of_ble_eq_true rfl, Nat.le_of_ble_eq_true rfl⟩)) (fun r_1 hr_1 => ?_)
  subst hr_1
  refine lv_if_ne (tgt := 13) hx hb dX11_fighter_8 (by decide) (fun c9 => absurd (by decide) c9) (fun _ => ?_)
  refine lv_iconst (v := (-1)) hx hb dX11_fighter_11 (by decide) ?_
  exact W.iret (v := (-1)) hx hb hr (fun t ht hW => ⟨_, rfl, rfl, ht⟩) (fun q h => absurd h List.not_mem_nil) dX11_fighter_12

def wo_q_about : List Cond := [.methodLink RX11 157 yX11_isClass, .static yX11_isClass, .initialized RX11, .fieldLink RX11 51 "JudoHall" "board" "LJudoHall$Board;", .methodLink RX11 219 yX0_onPlace, .instanceMethod yX0_onPlace, .selects RX0 yX0_onPlace yX0_onPlace, .initialized RX0, .fieldLink RX11 37 "JudoHall" "roll" "LJudoHall$Roll;", .methodLink RX11 207 yX8_fightersOf, .instanceMethod yX8_fightersOf, .selects RX8 yX8_fightersOf yX8_fightersOf, .initialized RX8, .methodLink RX11 195 yX8_weighedOf, .instanceMethod yX8_weighedOf, .selects RX8 yX8_weighedOf yX8_weighedOf, .methodLink RX11 210 yX0_kindOf, .instanceMethod yX0_kindOf, .selects RX0 yX0_kindOf yX0_kindOf, .methodLink RX11 164 yX0_isDrawn, .instanceMethod yX0_isDrawn, .selects RX0 yX0_isDrawn yX0_isDrawn, .methodLink RX11 204 yX0_fightsOf, .instanceMethod yX0_fightsOf, .selects RX0 yX0_fightsOf yX0_fightsOf, .methodLink RX11 216 yX0_howMany, .instanceMethod yX0_howMany, .selects RX0 yX0_howMany yX0_howMany]
def wq_q_about : List Cond := .code yX11_about cX11_about 3 (some .int) :: (wo_q_about ++ (wq_c_isClass ++ (wsX110 ++ (wq_c_onPlace ++ (wq_c_fightersOf ++ (wq_c_weighedOf ++ (wq_c_Board_kindOf ++ (wq_c_Board_isDrawn ++ (wq_c_fightsOf ++ (wq_c_howMany ++ []))))))))))
theorem gd_q_about : ∀ w ∈ wq_q_about, Gd w := List.forall_mem_cons.mpr ⟨Or.inl rfl, List.forall_mem_append.mpr ⟨gdl wo_q_about (by decide +kernel), (List.forall_mem_append.mpr ⟨gd_c_isClass, (List.forall_mem_append.mpr ⟨gd_wsX110, (List.forall_mem_append.mpr ⟨gd_c_onPlace, (List.forall_mem_append.mpr ⟨gd_c_fightersOf, (List.forall_mem_append.mpr ⟨gd_c_weighedOf, (List.forall_mem_append.mpr ⟨gd_c_Board_kindOf, (List.forall_mem_append.mpr ⟨gd_c_Board_isDrawn, (List.forall_mem_append.mpr ⟨gd_c_fightsOf, (List.forall_mem_append.mpr ⟨gd_c_howMany, (fun _ h => absurd h List.not_mem_nil)⟩)⟩)⟩)⟩)⟩)⟩)⟩)⟩)⟩)⟩⟩
theorem in_q_about : ∀ w ∈ wq_q_about, w ∈ lw_tbl := List.forall_mem_cons.mpr ⟨List.mem_of_getElem? (i := 1190) (by decide +kernel), List.forall_mem_append.mpr ⟨inT wo_q_about [979, 980, 154, 560, 1206, 1207, 1208, 164, 558, 1191, 1192, 1193, 162, 1050, 1051, 1052, 1195, 991, 992, 986, 987, 988, 1179, 1180, 1181, 1197, 1198, 1199] (by decide +kernel), (List.forall_mem_append.mpr ⟨in_c_isClass, (List.forall_mem_append.mpr ⟨in_wsX110, (List.forall_mem_append.mpr ⟨in_c_onPlace, (List.forall_mem_append.mpr ⟨in_c_fightersOf, (List.forall_mem_append.mpr ⟨in_c_weighedOf, (List.forall_mem_append.mpr ⟨in_c_Board_kindOf, (List.forall_mem_append.mpr ⟨in_c_Board_isDrawn, (List.forall_mem_append.mpr ⟨in_c_fightsOf, (List.forall_mem_append.mpr ⟨in_c_howMany, (fun _ h => absurd h List.not_mem_nil)⟩)⟩)⟩)⟩)⟩)⟩)⟩)⟩)⟩)⟩⟩
set_option maxHeartbeats 4000000 in
set_option maxRecDepth 100000 in
theorem q_about (l : Launch) (G : gG) (jh : Nat) (bk : Nat) (tp : Nat) (ps : Nat) (rl : Nat) (u1 : Value) (bd : Nat) (fr : Nat) (u2 : Value) (pn : Nat) (nl : Nat) (u3 : Value) (b1 : Value) (b2 : Value) (b3 : Value) (b4 : Value) (b5 : Value) (ca : Nat) (bc : Nat) (bb : Nat) (bs : Nat) (x : Int32) (y : Int32) : Met l yX11_about wq_q_about ({ frames := 4, cells := 0, slots := 0, locals := 88 }) (va_Pc [.ref jh, .int x, .int y] (pP G [(jh, .inr (12, [.ref bk, .ref tp, .ref ps, .ref rl, u1, .ref bd, .ref fr, u2, .ref pn, .ref nl, u3])), (rl, .inr (9, [.ref bk])), (bd, .inr (1, [.ref bk, b1, b2, b3, b4, b5])), (bk, .inr (2, [.ref ca, .ref bc, .ref bb, .ref bs, .int 0, .int 0])), (ca, .inl (gI G, 2088, .inl bk0))])) (vp_Si (fun r : Int32 => r = if x < 0 ∨ 4 ≤ x ∨ y < 0 ∨ 7 ≤ y ∨ y = 3 then (-1) else 0)) 0 0 (fun _ => False) := by
  refine Met.ofW (cc := cX11_about) (maxL := 3) (ret := (some .int)) (by decide) rfl ?_
  intro p e s m args below meth c s₁ B hml hv
  obtain ⟨rfl, hP, hB⟩ := hv
  have hx := B.exec
  have hb := B.bytes
  have hr := B.returns
  have hts := atoms_spec (ws := wq_q_about) B.pre
  have hown : s.vm.findClass RX11 = some m.cls := findClass_of_methodNamed B.named
  have hlocks := B.notSynchronized
  have hK := hB.1
  have hP : va_P (gD G) vwCl [(jh, .inr (12, [.ref bk, .ref tp, .ref ps, .ref rl, u1, .ref bd, .ref fr, u2, .ref pn, .ref nl, u3])), (rl, .inr (9, [.ref bk])), (bd, .inr (1, [.ref bk, b1, b2, b3, b4, b5])), (bk, .inr (2, [.ref ca, .ref bc, .ref bb, .ref bs, .int 0, .int 0])), (ca, .inl (gI G, 2088, .inl bk0))] s.heap := hP
  have hl := lv_entry ([.ref jh, .int x, .int y]) (n := 3) (Nat.le_of_ble_eq_true rfl)
  rw [lg_entry_eq]
  generalize (lg_sl ([.ref jh, .int x, .int y]) ++ List.replicate (3 - (lg_sl ([.ref jh, .int x, .int y])).length) Slot.unset).toArray = ls at hl ⊢
  have hl : lv_has ls 3 [(0, .ref jh), (1, .int x), (2, .int y)] := hl
  refine lv_iload_n hx hb dX11_about_0 rfl (lv_at hl 1 rfl) ?_
  refine vp_callSi (va_Run.run (va_runS (As := [.int x]) (rest := []) ⟨hx, hb, hml, hown, hts⟩ (c_isClass l G x) (va_cwS 1 hts (gdS (List.mem_cons_of_mem _ (List.mem_append_left _ (List.mem_of_getElem? (i := 0) rfl))) (List.mem_cons_of_mem _ (List.mem_append_left _ (List.mem_of_getElem? (i := 1) rfl))) (List.mem_cons_of_mem _ (List.mem_append_left _ (List.mem_of_getElem? (i := 2) rfl))) (fun w9 h9 => ⟨(List.mem_cons_of_mem _ (List.mem_append_right _ (List.mem_append_left _ h9))), gd_c_isClass w9 h9⟩)) rfl rfl rfl kSX11_isClass ⟨Nat.le_of_ble_eq_true rfl, Nat.le_of_ble_eq_true rfl⟩) (preS_p (As := [.int x]) (hP.sub (ws' := []) [] rfl) hB) rfl rfl hl.1 rfl (lv_room (Nat.le_of_ble_eq_true rfl)) dX11_about_1 ⟨Nat.le_of_ble_eq_true rfl, Nat.le_of_ble_eq_true rfl⟩)) (fun r_1 hr_1 => ?_)
  by_cases c_2 : x < 0
  · have hr_1 : r_1 = 0 := hr_1.trans (by rw [if_pos (show x < 0 ∨ 4 ≤ x from (Or.inl c_2))])
    subst hr_1
    refine lv_if_ne (tgt := 9) hx hb dX11_about_4 (by decide) (fun c9 => absurd (by decide) c9) (fun _ => ?_)
    refine lv_iconst (v := (-1)) hx hb dX11_about_7 (by decide) ?_
    exact W.iret (v := (-1)) hx hb hr (fun t ht hW => ⟨_, rfl, by rw [if_pos (show x < 0 ∨ 4 ≤ x ∨ y < 0 ∨ 7 ≤ y ∨ y = 3 from (Or.inl c_2))], ht⟩) (fun q h => absurd h List.not_mem_nil) dX11_about_8
  by_cases c_3 : 4 ≤ x
  · have hr_1 : r_1 = 0 := hr_1.trans (by rw [if_pos (show x < 0 ∨ 4 ≤ x from (Or.inr c_3))])
    subst hr_1
    refine lv_if_ne (tgt := 9) hx hb dX11_about_4 (by decide) (fun c9 => absurd (by decide) c9) (fun _ => ?_)
    refine lv_iconst (v := (-1)) hx hb dX11_about_7 (by decide) ?_
    exact W.iret (v := (-1)) hx hb hr (fun t ht hW => ⟨_, rfl, by rw [if_pos (show x < 0 ∨ 4 ≤ x ∨ y < 0 ∨ 7 ≤ y ∨ y = 3 from (Or.inr (Or.inl c_3)))], ht⟩) (fun q h => absurd h List.not_mem_nil) dX11_about_8
  have hr_1 : r_1 = 1 := hr_1.trans (by rw [if_neg (show ¬ (x < 0 ∨ 4 ≤ x) from (not_or.mpr ⟨c_2, c_3⟩))])
  subst hr_1
  refine lv_if_ne (tgt := 9) hx hb dX11_about_4 (by decide) (fun _ => ?_) (fun c9 => absurd c9 (by decide))
  refine lv_iload_n hx hb dX11_about_9 rfl (lv_at hl 2 rfl) ?_
  by_cases c_4 : y < 0
  · refine lv_tableOut (tgt := 132) hx hb dX11_about_10 (Or.inl (gx_n0 c_4)) (by decide) ?_
    refine lv_aload_n hx hb dX11_about_132 rfl (lv_at hl 0 rfl) ?_
    refine va_get (D := gD G) (ci := 12) (v := .ref bd) (C := RX11) (T := TX11) (N := 11) hx hb hts (fun _ h9 => (List.mem_cons_of_mem _ (List.mem_append_right _ (List.mem_append_right _ (List.mem_append_left _ h9))))) hown hK hP 0 rfl rfl 5 (by decide) (hts (.fieldLink RX11 51 "JudoHall" "board" "LJudoHall$Board;") (List.mem_cons_of_mem _ (List.mem_append_left _ (List.mem_of_getElem? (i := 3) rfl)))) (fun _ h9 => h9) rfl dX11_about_133 ?_
    refine lv_iload_n hx hb dX11_about_136 rfl (lv_at hl 1 rfl) ?_
    refine lv_iload_n hx hb dX11_about_137 rfl (lv_at hl 2 rfl) ?_
    refine lv_bipush (v := 100) hx hb dX11_about_138 (by decide) ?_
    refine lv_isub hx hb dX11_about_140 ?_
    refine vp_callSi (va_Run.run (va_runV (As := [.int x, .int (y - 100)]) (rest := []) ⟨hx, hb, hml, hown, hts⟩ (c_onPlace l G bd bk b1 b2 b3 b4 b5 ca (.ref bc) (.ref bb) (.ref bs) (.int 0) (.int 0) x (y - 100) (c_2) (c_3)) (cwV 2 hts (gdV (List.mem_cons_of_mem _ (List.mem_append_left _ (List.mem_of_getElem? (i := 4) rfl))) (List.mem_cons_of_mem _ (List.mem_append_left _ (List.mem_of_getElem? (i := 5) rfl))) (List.mem_cons_of_mem _ (List.mem_append_left _ (List.mem_of_getElem? (i := 6) rfl))) (List.mem_cons_of_mem _ (List.mem_append_left _ (List.mem_of_getElem? (i := 7) rfl))) (fun w9 h9 => ⟨(List.mem_cons_of_mem _ (List.mem_append_right _ (List.mem_append_right _ (List.mem_append_right _ (List.mem_append_left _ h9))))), gd_c_onPlace w9 h9⟩)) rfl rfl rfl kVX0_onPlace ⟨Nat.le_of_ble_eq_true rfl, Nat.le_of_ble_eq_true rfl⟩) (preV_p (As := [.int x, .int (y - 100)]) (hP.sub (ws' := [(bd, .inr (1, [.ref bk, b1, b2, b3, b4, b5])), (bk, .inr (2, [.ref ca, .ref bc, .ref bb, .ref bs, .int 0, .int 0])), (ca, .inl (gI G, 2088, .inl bk0))]) [2, 3, 4] rfl) hB rfl rfl) rfl rfl hl.1 rfl (lv_room (Nat.le_of_ble_eq_true rfl)) dX11_about_141 ⟨Nat.le_of_ble_eq_true rfl, Nat.le_of_ble_eq_true rfl⟩)) (fun r_5 hr_5 => ?_)
    subst hr_5
    exact W.iret (v := (-1)) hx hb hr (fun t ht hW => ⟨_, rfl, by rw [if_pos (show x < 0 ∨ 4 ≤ x ∨ y < 0 ∨ 7 ≤ y ∨ y = 3 from (Or.inr (Or.inr (Or.inl c_4))))], ht⟩) (fun q h => absurd h List.not_mem_nil) dX11_about_144
  by_cases c_6 : 7 ≤ y
  · refine lv_tableOut (tgt := 132) hx hb dX11_about_10 (Or.inr (gx_nh (k := 7) (by decide) c_6)) (by decide) ?_
    refine lv_aload_n hx hb dX11_about_132 rfl (lv_at hl 0 rfl) ?_
    refine va_get (D := gD G) (ci := 12) (v := .ref bd) (C := RX11) (T := TX11) (N := 11) hx hb hts (fun _ h9 => (List.mem_cons_of_mem _ (List.mem_append_right _ (List.mem_append_right _ (List.mem_append_left _ h9))))) hown hK hP 0 rfl rfl 5 (by decide) (hts (.fieldLink RX11 51 "JudoHall" "board" "LJudoHall$Board;") (List.mem_cons_of_mem _ (List.mem_append_left _ (List.mem_of_getElem? (i := 3) rfl)))) (fun _ h9 => h9) rfl dX11_about_133 ?_
    refine lv_iload_n hx hb dX11_about_136 rfl (lv_at hl 1 rfl) ?_
    refine lv_iload_n hx hb dX11_about_137 rfl (lv_at hl 2 rfl) ?_
    refine lv_bipush (v := 100) hx hb dX11_about_138 (by decide) ?_
    refine lv_isub hx hb dX11_about_140 ?_
    refine vp_callSi (va_Run.run (va_runV (As := [.int x, .int (y - 100)]) (rest := []) ⟨hx, hb, hml, hown, hts⟩ (c_onPlace l G bd bk b1 b2 b3 b4 b5 ca (.ref bc) (.ref bb) (.ref bs) (.int 0) (.int 0) x (y - 100) (c_2) (c_3)) (cwV 2 hts (gdV (List.mem_cons_of_mem _ (List.mem_append_left _ (List.mem_of_getElem? (i := 4) rfl))) (List.mem_cons_of_mem _ (List.mem_append_left _ (List.mem_of_getElem? (i := 5) rfl))) (List.mem_cons_of_mem _ (List.mem_append_left _ (List.mem_of_getElem? (i := 6) rfl))) (List.mem_cons_of_mem _ (List.mem_append_left _ (List.mem_of_getElem? (i := 7) rfl))) (fun w9 h9 => ⟨(List.mem_cons_of_mem _ (List.mem_append_right _ (List.mem_append_right _ (List.mem_append_right _ (List.mem_append_left _ h9))))), gd_c_onPlace w9 h9⟩)) rfl rfl rfl kVX0_onPlace ⟨Nat.le_of_ble_eq_true rfl, Nat.le_of_ble_eq_true rfl⟩) (preV_p (As := [.int x, .int (y - 100)]) (hP.sub (ws' := [(bd, .inr (1, [.ref bk, b1, b2, b3, b4, b5])), (bk, .inr (2, [.ref ca, .ref bc, .ref bb, .ref bs, .int 0, .int 0])), (ca, .inl (gI G, 2088, .inl bk0))]) [2, 3, 4] rfl) hB rfl rfl) rfl rfl hl.1 rfl (lv_room (Nat.le_of_ble_eq_true rfl)) dX11_about_141 ⟨Nat.le_of_ble_eq_true rfl, Nat.le_of_ble_eq_true rfl⟩)) (fun r_7 hr_7 => ?_)
    subst hr_7
    exact W.iret (v := (-1)) hx hb hr (fun t ht hW => ⟨_, rfl, by rw [if_pos (show x < 0 ∨ 4 ≤ x ∨ y < 0 ∨ 7 ≤ y ∨ y = 3 from (Or.inr (Or.inr (Or.inr (Or.inl c_6)))))], ht⟩) (fun q h => absurd h List.not_mem_nil) dX11_about_144
  rcases gx_c7 c_4 c_6 with c_8 | c_9 | c_10 | c_11 | c_12 | c_13 | c_14
  · refine lv_tableIn (off := 42) (tgt := 52) hx hb dX11_about_10 (by rw [c_8]; decide) (by rw [c_8]; decide) (by rw [c_8]; rfl) (by decide) ?_
    refine lv_aload_n hx hb dX11_about_52 rfl (lv_at hl 0 rfl) ?_
    refine va_get (D := gD G) (ci := 12) (v := .ref rl) (C := RX11) (T := TX11) (N := 11) hx hb hts (fun _ h9 => (List.mem_cons_of_mem _ (List.mem_append_right _ (List.mem_append_right _ (List.mem_append_left _ h9))))) hown hK hP 0 rfl rfl 3 (by decide) (hts (.fieldLink RX11 37 "JudoHall" "roll" "LJudoHall$Roll;") (List.mem_cons_of_mem _ (List.mem_append_left _ (List.mem_of_getElem? (i := 8) rfl)))) (fun _ h9 => h9) rfl dX11_about_53 ?_
    refine lv_iload_n hx hb dX11_about_56 rfl (lv_at hl 1 rfl) ?_
    refine vp_callSi (va_Run.run (va_runV (As := [.int x]) (rest := []) ⟨hx, hb, hml, hown, hts⟩ (c_fightersOf l G rl bk ca (.ref bc) (.ref bb) (.ref bs) (.int 0) (.int 0) x) (cwV 1 hts (gdV (List.mem_cons_of_mem _ (List.mem_append_left _ (List.mem_of_getElem? (i := 9) rfl))) (List.mem_cons_of_mem _ (List.mem_append_left _ (List.mem_of_getElem? (i := 10) rfl))) (List.mem_cons_of_mem _ (List.mem_append_left _ (List.mem_of_getElem? (i := 11) rfl))) (List.mem_cons_of_mem _ (List.mem_append_left _ (List.mem_of_getElem? (i := 12) rfl))) (fun w9 h9 => ⟨(List.mem_cons_of_mem _ (List.mem_append_right _ (List.mem_append_right _ (List.mem_append_right _ (List.mem_append_right _ (List.mem_append_left _ h9)))))), gd_c_fightersOf w9 h9⟩)) rfl rfl rfl kVX8_fightersOf ⟨Nat.le_of_ble_eq_true rfl, Nat.le_of_ble_eq_true rfl⟩) (preV_p (As := [.int x]) (hP.sub (ws' := [(rl, .inr (9, [.ref bk])), (bk, .inr (2, [.ref ca, .ref bc, .ref bb, .ref bs, .int 0, .int 0])), (ca, .inl (gI G, 2088, .inl bk0))]) [1, 3, 4] rfl) hB rfl rfl) rfl rfl hl.1 rfl (lv_room (Nat.le_of_ble_eq_true rfl)) dX11_about_57 ⟨Nat.le_of_ble_eq_true rfl, Nat.le_of_ble_eq_true rfl⟩)) (fun r_15 hr_15 => ?_)
    subst hr_15
    exact W.iret (v := 0) hx hb hr (fun t ht hW => ⟨_, rfl, by rw [if_neg (show ¬ (x < 0 ∨ 4 ≤ x ∨ y < 0 ∨ 7 ≤ y ∨ y = 3) from (not_or.mpr ⟨c_2, (not_or.mpr ⟨c_3, (not_or.mpr ⟨c_4, (not_or.mpr ⟨c_6, (by rw [c_8]; decide)⟩)⟩)⟩)⟩))], ht⟩) (fun q h => absurd h List.not_mem_nil) dX11_about_60
  · refine lv_tableIn (off := 51) (tgt := 61) hx hb dX11_about_10 (by rw [c_9]; decide) (by rw [c_9]; decide) (by rw [c_9]; rfl) (by decide) ?_
    refine lv_aload_n hx hb dX11_about_61 rfl (lv_at hl 0 rfl) ?_
    refine va_get (D := gD G) (ci := 12) (v := .ref rl) (C := RX11) (T := TX11) (N := 11) hx hb hts (fun _ h9 => (List.mem_cons_of_mem _ (List.mem_append_right _ (List.mem_append_right _ (List.mem_append_left _ h9))))) hown hK hP 0 rfl rfl 3 (by decide) (hts (.fieldLink RX11 37 "JudoHall" "roll" "LJudoHall$Roll;") (List.mem_cons_of_mem _ (List.mem_append_left _ (List.mem_of_getElem? (i := 8) rfl)))) (fun _ h9 => h9) rfl dX11_about_62 ?_
    refine lv_iload_n hx hb dX11_about_65 rfl (lv_at hl 1 rfl) ?_
    refine vp_callSi (va_Run.run (va_runV (As := [.int x]) (rest := []) ⟨hx, hb, hml, hown, hts⟩ (c_weighedOf l G rl bk ca (.ref bc) (.ref bb) (.ref bs) (.int 0) (.int 0) x) (cwV 1 hts (gdV (List.mem_cons_of_mem _ (List.mem_append_left _ (List.mem_of_getElem? (i := 13) rfl))) (List.mem_cons_of_mem _ (List.mem_append_left _ (List.mem_of_getElem? (i := 14) rfl))) (List.mem_cons_of_mem _ (List.mem_append_left _ (List.mem_of_getElem? (i := 15) rfl))) (List.mem_cons_of_mem _ (List.mem_append_left _ (List.mem_of_getElem? (i := 12) rfl))) (fun w9 h9 => ⟨(List.mem_cons_of_mem _ (List.mem_append_right _ (List.mem_append_right _ (List.mem_append_right _ (List.mem_append_right _ (List.mem_append_right _ (List.mem_append_left _ h9))))))), gd_c_weighedOf w9 h9⟩)) rfl rfl rfl kVX8_weighedOf ⟨Nat.le_of_ble_eq_true rfl, Nat.le_of_ble_eq_true rfl⟩) (preV_p (As := [.int x]) (hP.sub (ws' := [(rl, .inr (9, [.ref bk])), (bk, .inr (2, [.ref ca, .ref bc, .ref bb, .ref bs, .int 0, .int 0])), (ca, .inl (gI G, 2088, .inl bk0))]) [1, 3, 4] rfl) hB rfl rfl) rfl rfl hl.1 rfl (lv_room (Nat.le_of_ble_eq_true rfl)) dX11_about_66 ⟨Nat.le_of_ble_eq_true rfl, Nat.le_of_ble_eq_true rfl⟩)) (fun r_16 hr_16 => ?_)
    subst hr_16
    exact W.iret (v := 0) hx hb hr (fun t ht hW => ⟨_, rfl, by rw [if_neg (show ¬ (x < 0 ∨ 4 ≤ x ∨ y < 0 ∨ 7 ≤ y ∨ y = 3) from (not_or.mpr ⟨c_2, (not_or.mpr ⟨c_3, (not_or.mpr ⟨c_4, (not_or.mpr ⟨c_6, (by rw [c_9]; decide)⟩)⟩)⟩)⟩))], ht⟩) (fun q h => absurd h List.not_mem_nil) dX11_about_69
  · refine lv_tableIn (off := 60) (tgt := 70) hx hb dX11_about_10 (by rw [c_10]; decide) (by rw [c_10]; decide) (by rw [c_10]; rfl) (by decide) ?_
    refine lv_aload_n hx hb dX11_about_70 rfl (lv_at hl 0 rfl) ?_
    refine va_get (D := gD G) (ci := 12) (v := .ref bd) (C := RX11) (T := TX11) (N := 11) hx hb hts (fun _ h9 => (List.mem_cons_of_mem _ (List.mem_append_right _ (List.mem_append_right _ (List.mem_append_left _ h9))))) hown hK hP 0 rfl rfl 5 (by decide) (hts (.fieldLink RX11 51 "JudoHall" "board" "LJudoHall$Board;") (List.mem_cons_of_mem _ (List.mem_append_left _ (List.mem_of_getElem? (i := 3) rfl)))) (fun _ h9 => h9) rfl dX11_about_71 ?_
    refine lv_iload_n hx hb dX11_about_74 rfl (lv_at hl 1 rfl) ?_
    refine vp_callSi (va_Run.run (va_runV (As := [.int x]) (rest := []) ⟨hx, hb, hml, hown, hts⟩ (c_Board_kindOf l G bd bk ca 2088 bk0 (.ref bc) (.ref bb) (.ref bs) (.int 0) (.int 0) b1 b2 b3 b4 b5 x (by decide)) (cwV 1 hts (gdV (List.mem_cons_of_mem _ (List.mem_append_left _ (List.mem_of_getElem? (i := 16) rfl))) (List.mem_cons_of_mem _ (List.mem_append_left _ (List.mem_of_getElem? (i := 17) rfl))) (List.mem_cons_of_mem _ (List.mem_append_left _ (List.mem_of_getElem? (i := 18) rfl))) (List.mem_cons_of_mem _ (List.mem_append_left _ (List.mem_of_getElem? (i := 7) rfl))) (fun w9 h9 => ⟨(List.mem_cons_of_mem _ (List.mem_append_right _ (List.mem_append_right _ (List.mem_append_right _ (List.mem_append_right _ (List.mem_append_right _ (List.mem_append_right _ (List.mem_append_left _ h9)))))))), gd_c_Board_kindOf w9 h9⟩)) rfl rfl rfl kVX0_kindOf ⟨Nat.le_of_ble_eq_true rfl, Nat.le_of_ble_eq_true rfl⟩) (preV_p (As := [.int x]) (hP.sub (ws' := [(bd, .inr (1, [.ref bk, b1, b2, b3, b4, b5])), (bk, .inr (2, [.ref ca, .ref bc, .ref bb, .ref bs, .int 0, .int 0])), (ca, .inl (gI G, 2088, .inl bk0))]) [2, 3, 4] rfl) hB rfl rfl) rfl rfl hl.1 rfl (lv_room (Nat.le_of_ble_eq_true rfl)) dX11_about_75 ⟨Nat.le_of_ble_eq_true rfl, Nat.le_of_ble_eq_true rfl⟩)) (fun r_17 hr_17 => ?_)
    have hr_17 : r_17 = 0 := hr_17.trans (bk_kind c_2 c_3)
    subst hr_17
    exact W.iret (v := 0) hx hb hr (fun t ht hW => ⟨_, rfl, by rw [if_neg (show ¬ (x < 0 ∨ 4 ≤ x ∨ y < 0 ∨ 7 ≤ y ∨ y = 3) from (not_or.mpr ⟨c_2, (not_or.mpr ⟨c_3, (not_or.mpr ⟨c_4, (not_or.mpr ⟨c_6, (by rw [c_10]; decide)⟩)⟩)⟩)⟩))], ht⟩) (fun q h => absurd h List.not_mem_nil) dX11_about_78
  · refine lv_tableIn (off := 69) (tgt := 79) hx hb dX11_about_10 (by rw [c_11]; decide) (by rw [c_11]; decide) (by rw [c_11]; rfl) (by decide) ?_
    refine lv_aload_n hx hb dX11_about_79 rfl (lv_at hl 0 rfl) ?_
    refine va_get (D := gD G) (ci := 12) (v := .ref bd) (C := RX11) (T := TX11) (N := 11) hx hb hts (fun _ h9 => (List.mem_cons_of_mem _ (List.mem_append_right _ (List.mem_append_right _ (List.mem_append_left _ h9))))) hown hK hP 0 rfl rfl 5 (by decide) (hts (.fieldLink RX11 51 "JudoHall" "board" "LJudoHall$Board;") (List.mem_cons_of_mem _ (List.mem_append_left _ (List.mem_of_getElem? (i := 3) rfl)))) (fun _ h9 => h9) rfl dX11_about_80 ?_
    refine lv_iload_n hx hb dX11_about_83 rfl (lv_at hl 1 rfl) ?_
    refine vp_callSi (va_Run.run (va_runV (As := [.int x]) (rest := []) ⟨hx, hb, hml, hown, hts⟩ (c_Board_isDrawn l G bd bk ca 2088 bk0 (.ref bc) (.ref bb) (.ref bs) (.int 0) (.int 0) b1 b2 b3 b4 b5 x (by decide)) (cwV 1 hts (gdV (List.mem_cons_of_mem _ (List.mem_append_left _ (List.mem_of_getElem? (i := 19) rfl))) (List.mem_cons_of_mem _ (List.mem_append_left _ (List.mem_of_getElem? (i := 20) rfl))) (List.mem_cons_of_mem _ (List.mem_append_left _ (List.mem_of_getElem? (i := 21) rfl))) (List.mem_cons_of_mem _ (List.mem_append_left _ (List.mem_of_getElem? (i := 7) rfl))) (fun w9 h9 => ⟨(List.mem_cons_of_mem _ (List.mem_append_right _ (List.mem_append_right _ (List.mem_append_right _ (List.mem_append_right _ (List.mem_append_right _ (List.mem_append_right _ (List.mem_append_right _ (List.mem_append_left _ h9))))))))), gd_c_Board_isDrawn w9 h9⟩)) rfl rfl rfl kVX0_isDrawn ⟨Nat.le_of_ble_eq_true rfl, Nat.le_of_ble_eq_true rfl⟩) (preV_p (As := [.int x]) (hP.sub (ws' := [(bd, .inr (1, [.ref bk, b1, b2, b3, b4, b5])), (bk, .inr (2, [.ref ca, .ref bc, .ref bb, .ref bs, .int 0, .int 0])), (ca, .inl (gI G, 2088, .inl bk0))]) [2, 3, 4] rfl) hB rfl rfl) rfl rfl hl.1 rfl (lv_room (Nat.le_of_ble_eq_true rfl)) dX11_about_84 ⟨Nat.le_of_ble_eq_true rfl, Nat.le_of_ble_eq_true rfl⟩)) (fun r_18 hr_18 => ?_)
    have hr_18 : r_18 = 0 := hr_18.trans (if_pos (bk_kind c_2 c_3))
    subst hr_18
    refine lv_if_eq (tgt := 101) hx hb dX11_about_87 (by decide) (fun _ => ?_) (fun c9 => absurd (by decide) c9)
    refine lv_iconst (v := (-1)) hx hb dX11_about_101 (by decide) ?_
    exact W.iret (v := (-1)) hx hb hr (fun t ht hW => ⟨_, rfl, by rw [if_pos (show x < 0 ∨ 4 ≤ x ∨ y < 0 ∨ 7 ≤ y ∨ y = 3 from (Or.inr (Or.inr (Or.inr (Or.inr c_11)))))], ht⟩) (fun q h => absurd h List.not_mem_nil) dX11_about_102
  · refine lv_tableIn (off := 93) (tgt := 103) hx hb dX11_about_10 (by rw [c_12]; decide) (by rw [c_12]; decide) (by rw [c_12]; rfl) (by decide) ?_
    refine lv_aload_n hx hb dX11_about_103 rfl (lv_at hl 0 rfl) ?_
    refine va_get (D := gD G) (ci := 12) (v := .ref bd) (C := RX11) (T := TX11) (N := 11) hx hb hts (fun _ h9 => (List.mem_cons_of_mem _ (List.mem_append_right _ (List.mem_append_right _ (List.mem_append_left _ h9))))) hown hK hP 0 rfl rfl 5 (by decide) (hts (.fieldLink RX11 51 "JudoHall" "board" "LJudoHall$Board;") (List.mem_cons_of_mem _ (List.mem_append_left _ (List.mem_of_getElem? (i := 3) rfl)))) (fun _ h9 => h9) rfl dX11_about_104 ?_
    refine lv_iload_n hx hb dX11_about_107 rfl (lv_at hl 1 rfl) ?_
    refine vp_callSi (va_Run.run (va_runV (As := [.int x]) (rest := []) ⟨hx, hb, hml, hown, hts⟩ (c_fightsOf l G bd bk b1 b2 b3 b4 b5 ca (.ref bc) (.ref bb) (.ref bs) (.int 0) (.int 0) x (c_2) (c_3)) (cwV 1 hts (gdV (List.mem_cons_of_mem _ (List.mem_append_left _ (List.mem_of_getElem? (i := 22) rfl))) (List.mem_cons_of_mem _ (List.mem_append_left _ (List.mem_of_getElem? (i := 23) rfl))) (List.mem_cons_of_mem _ (List.mem_append_left _ (List.mem_of_getElem? (i := 24) rfl))) (List.mem_cons_of_mem _ (List.mem_append_left _ (List.mem_of_getElem? (i := 7) rfl))) (fun w9 h9 => ⟨(List.mem_cons_of_mem _ (List.mem_append_right _ (List.mem_append_right _ (List.mem_append_right _ (List.mem_append_right _ (List.mem_append_right _ (List.mem_append_right _ (List.mem_append_right _ (List.mem_append_right _ (List.mem_append_left _ h9)))))))))), gd_c_fightsOf w9 h9⟩)) rfl rfl rfl kVX0_fightsOf ⟨Nat.le_of_ble_eq_true rfl, Nat.le_of_ble_eq_true rfl⟩) (preV_p (As := [.int x]) (hP.sub (ws' := [(bd, .inr (1, [.ref bk, b1, b2, b3, b4, b5])), (bk, .inr (2, [.ref ca, .ref bc, .ref bb, .ref bs, .int 0, .int 0])), (ca, .inl (gI G, 2088, .inl bk0))]) [2, 3, 4] rfl) hB rfl rfl) rfl rfl hl.1 rfl (lv_room (Nat.le_of_ble_eq_true rfl)) dX11_about_108 ⟨Nat.le_of_ble_eq_true rfl, Nat.le_of_ble_eq_true rfl⟩)) (fun r_19 hr_19 => ?_)
    subst hr_19
    exact W.iret (v := 0) hx hb hr (fun t ht hW => ⟨_, rfl, by rw [if_neg (show ¬ (x < 0 ∨ 4 ≤ x ∨ y < 0 ∨ 7 ≤ y ∨ y = 3) from (not_or.mpr ⟨c_2, (not_or.mpr ⟨c_3, (not_or.mpr ⟨c_4, (not_or.mpr ⟨c_6, (by rw [c_12]; decide)⟩)⟩)⟩)⟩))], ht⟩) (fun q h => absurd h List.not_mem_nil) dX11_about_111
  · refine lv_tableIn (off := 102) (tgt := 112) hx hb dX11_about_10 (by rw [c_13]; decide) (by rw [c_13]; decide) (by rw [c_13]; rfl) (by decide) ?_
    refine lv_aload_n hx hb dX11_about_112 rfl (lv_at hl 0 rfl) ?_
    refine va_get (D := gD G) (ci := 12) (v := .ref bd) (C := RX11) (T := TX11) (N := 11) hx hb hts (fun _ h9 => (List.mem_cons_of_mem _ (List.mem_append_right _ (List.mem_append_right _ (List.mem_append_left _ h9))))) hown hK hP 0 rfl rfl 5 (by decide) (hts (.fieldLink RX11 51 "JudoHall" "board" "LJudoHall$Board;") (List.mem_cons_of_mem _ (List.mem_append_left _ (List.mem_of_getElem? (i := 3) rfl)))) (fun _ h9 => h9) rfl dX11_about_113 ?_
    refine lv_iload_n hx hb dX11_about_116 rfl (lv_at hl 1 rfl) ?_
    refine lv_iconst (v := 3) hx hb dX11_about_117 (by decide) ?_
    refine vp_callSi (va_Run.run (va_runV (As := [.int x, .int 3]) (rest := []) ⟨hx, hb, hml, hown, hts⟩ (c_howMany l G bd bk b1 b2 b3 b4 b5 ca (.ref bc) (.ref bb) (.ref bs) (.int 0) (.int 0) x 3 (c_2) (c_3)) (cwV 2 hts (gdV (List.mem_cons_of_mem _ (List.mem_append_left _ (List.mem_of_getElem? (i := 25) rfl))) (List.mem_cons_of_mem _ (List.mem_append_left _ (List.mem_of_getElem? (i := 26) rfl))) (List.mem_cons_of_mem _ (List.mem_append_left _ (List.mem_of_getElem? (i := 27) rfl))) (List.mem_cons_of_mem _ (List.mem_append_left _ (List.mem_of_getElem? (i := 7) rfl))) (fun w9 h9 => ⟨(List.mem_cons_of_mem _ (List.mem_append_right _ (List.mem_append_right _ (List.mem_append_right _ (List.mem_append_right _ (List.mem_append_right _ (List.mem_append_right _ (List.mem_append_right _ (List.mem_append_right _ (List.mem_append_right _ (List.mem_append_left _ h9))))))))))), gd_c_howMany w9 h9⟩)) rfl rfl rfl kVX0_howMany ⟨Nat.le_of_ble_eq_true rfl, Nat.le_of_ble_eq_true rfl⟩) (preV_p (As := [.int x, .int 3]) (hP.sub (ws' := [(bd, .inr (1, [.ref bk, b1, b2, b3, b4, b5])), (bk, .inr (2, [.ref ca, .ref bc, .ref bb, .ref bs, .int 0, .int 0])), (ca, .inl (gI G, 2088, .inl bk0))]) [2, 3, 4] rfl) hB rfl rfl) rfl rfl hl.1 rfl (lv_room (Nat.le_of_ble_eq_true rfl)) dX11_about_118 ⟨Nat.le_of_ble_eq_true rfl, Nat.le_of_ble_eq_true rfl⟩)) (fun r_20 hr_20 => ?_)
    subst hr_20
    exact W.iret (v := 0) hx hb hr (fun t ht hW => ⟨_, rfl, by rw [if_neg (show ¬ (x < 0 ∨ 4 ≤ x ∨ y < 0 ∨ 7 ≤ y ∨ y = 3) from (not_or.mpr ⟨c_2, (not_or.mpr ⟨c_3, (not_or.mpr ⟨c_4, (not_or.mpr ⟨c_6, (by rw [c_13]; decide)⟩)⟩)⟩)⟩))], ht⟩) (fun q h => absurd h List.not_mem_nil) dX11_about_121
  · refine lv_tableIn (off := 112) (tgt := 122) hx hb dX11_about_10 (by rw [c_14]; decide) (by rw [c_14]; decide) (by rw [c_14]; rfl) (by decide) ?_
    refine lv_aload_n hx hb dX11_about_122 rfl (lv_at hl 0 rfl) ?_
    refine va_get (D := gD G) (ci := 12) (v := .ref bd) (C := RX11) (T := TX11) (N := 11) hx hb hts (fun _ h9 => (List.mem_cons_of_mem _ (List.mem_append_right _ (List.mem_append_right _ (List.mem_append_left _ h9))))) hown hK hP 0 rfl rfl 5 (by decide) (hts (.fieldLink RX11 51 "JudoHall" "board" "LJudoHall$Board;") (List.mem_cons_of_mem _ (List.mem_append_left _ (List.mem_of_getElem? (i := 3) rfl)))) (fun _ h9 => h9) rfl dX11_about_123 ?_
    refine lv_iload_n hx hb dX11_about_126 rfl (lv_at hl 1 rfl) ?_
    refine lv_iconst (v := 4) hx hb dX11_about_127 (by decide) ?_
    refine vp_callSi (va_Run.run (va_runV (As := [.int x, .int 4]) (rest := []) ⟨hx, hb, hml, hown, hts⟩ (c_howMany l G bd bk b1 b2 b3 b4 b5 ca (.ref bc) (.ref bb) (.ref bs) (.int 0) (.int 0) x 4 (c_2) (c_3)) (cwV 2 hts (gdV (List.mem_cons_of_mem _ (List.mem_append_left _ (List.mem_of_getElem? (i := 25) rfl))) (List.mem_cons_of_mem _ (List.mem_append_left _ (List.mem_of_getElem? (i := 26) rfl))) (List.mem_cons_of_mem _ (List.mem_append_left _ (List.mem_of_getElem? (i := 27) rfl))) (List.mem_cons_of_mem _ (List.mem_append_left _ (List.mem_of_getElem? (i := 7) rfl))) (fun w9 h9 => ⟨(List.mem_cons_of_mem _ (List.mem_append_right _ (List.mem_append_right _ (List.mem_append_right _ (List.mem_append_right _ (List.mem_append_right _ (List.mem_append_right _ (List.mem_append_right _ (List.mem_append_right _ (List.mem_append_right _ (List.mem_append_left _ h9))))))))))), gd_c_howMany w9 h9⟩)) rfl rfl rfl kVX0_howMany ⟨Nat.le_of_ble_eq_true rfl, Nat.le_of_ble_eq_true rfl⟩) (preV_p (As := [.int x, .int 4]) (hP.sub (ws' := [(bd, .inr (1, [.ref bk, b1, b2, b3, b4, b5])), (bk, .inr (2, [.ref ca, .ref bc, .ref bb, .ref bs, .int 0, .int 0])), (ca, .inl (gI G, 2088, .inl bk0))]) [2, 3, 4] rfl) hB rfl rfl) rfl rfl hl.1 rfl (lv_room (Nat.le_of_ble_eq_true rfl)) dX11_about_128 ⟨Nat.le_of_ble_eq_true rfl, Nat.le_of_ble_eq_true rfl⟩)) (fun r_21 hr_21 => ?_)
    subst hr_21
    exact W.iret (v := 0) hx hb hr (fun t ht hW => ⟨_, rfl, by rw [if_neg (show ¬ (x < 0 ∨ 4 ≤ x ∨ y < 0 ∨ 7 ≤ y ∨ y = 3) from (not_or.mpr ⟨c_2, (not_or.mpr ⟨c_3, (not_or.mpr ⟨c_4, (not_or.mpr ⟨c_6, (by rw [c_14]; decide)⟩)⟩)⟩)⟩))], ht⟩) (fun q h => absurd h List.not_mem_nil) dX11_about_131

def wo_q_fight : List Cond := [.fieldLink RX11 51 "JudoHall" "board" "LJudoHall$Board;", .methodLink RX11 222 yX0_has, .instanceMethod yX0_has, .selects RX0 yX0_has yX0_has, .initialized RX0]
def wq_q_fight : List Cond := .code yX11_fight cX11_fight 6 (some .int) :: (wo_q_fight ++ (wsX110 ++ (wq_c_Board_has ++ [])))
theorem gd_q_fight : ∀ w ∈ wq_q_fight, Gd w := List.forall_mem_cons.mpr ⟨Or.inl rfl, List.forall_mem_append.mpr ⟨gdl wo_q_fight (by decide +kernel), (List.forall_mem_append.mpr ⟨gd_wsX110, (List.forall_mem_append.mpr ⟨gd_c_Board_has, (fun _ h => absurd h List.not_mem_nil)⟩)⟩)⟩⟩
theorem in_q_fight : ∀ w ∈ wq_q_fight, w ∈ lw_tbl := List.forall_mem_cons.mpr ⟨List.mem_of_getElem? (i := 1213) (by decide +kernel), List.forall_mem_append.mpr ⟨inT wo_q_fight [560, 1214, 1215, 1216, 164] (by decide +kernel), (List.forall_mem_append.mpr ⟨in_wsX110, (List.forall_mem_append.mpr ⟨in_c_Board_has, (fun _ h => absurd h List.not_mem_nil)⟩)⟩)⟩⟩
set_option maxHeartbeats 4000000 in
set_option maxRecDepth 100000 in
theorem q_fight (l : Launch) (G : gG) (jh : Nat) (bk : Nat) (tp : Nat) (ps : Nat) (rl : Nat) (u1 : Value) (bd : Nat) (fr : Nat) (u2 : Value) (pn : Nat) (nl : Nat) (u3 : Value) (b1 : Value) (b2 : Value) (b3 : Value) (b4 : Value) (b5 : Value) (ca : Nat) (bc : Nat) (bb : Nat) (bs : Nat) (x : Int32) (y : Int32) (z : Int32) : Met l yX11_fight wq_q_fight ({ frames := 4, cells := 0, slots := 0, locals := 86 }) (va_Pc [.ref jh, .int x, .int y, .int z] (pP G [(jh, .inr (12, [.ref bk, .ref tp, .ref ps, .ref rl, u1, .ref bd, .ref fr, u2, .ref pn, .ref nl, u3])), (bd, .inr (1, [.ref bk, b1, b2, b3, b4, b5])), (bk, .inr (2, [.ref ca, .ref bc, .ref bb, .ref bs, .int 0, .int 0])), (ca, .inl (gI G, 2088, .inl bk0))])) (vp_Si (fun r : Int32 => r = (-1))) 0 0 (fun _ => False) := by
  refine Met.ofW (cc := cX11_fight) (maxL := 6) (ret := (some .int)) (by decide) rfl ?_
  intro p e s m args below meth c s₁ B hml hv
  obtain ⟨rfl, hP, hB⟩ := hv
  have hx := B.exec
  have hb := B.bytes
  have hr := B.returns
  have hts := atoms_spec (ws := wq_q_fight) B.pre
  have hown : s.vm.findClass RX11 = some m.cls := findClass_of_methodNamed B.named
  have hlocks := B.notSynchronized
  have hK := hB.1
  have hP : va_P (gD G) vwCl [(jh, .inr (12, [.ref bk, .ref tp, .ref ps, .ref rl, u1, .ref bd, .ref fr, u2, .ref pn, .ref nl, u3])), (bd, .inr (1, [.ref bk, b1, b2, b3, b4, b5])), (bk, .inr (2, [.ref ca, .ref bc, .ref bb, .ref bs, .int 0, .int 0])), (ca, .inl (gI G, 2088, .inl bk0))] s.heap := hP
  have hl := lv_entry ([.ref jh, .int x, .int y, .int z]) (n := 6) (Nat.le_of_ble_eq_true rfl)
  rw [lg_entry_eq]
  generalize (lg_sl ([.ref jh, .int x, .int y, .int z]) ++ List.replicate (6 - (lg_sl ([.ref jh, .int x, .int y, .int z])).length) Slot.unset).toArray = ls at hl ⊢
  have hl : lv_has ls 6 [(0, .ref jh), (1, .int x), (2, .int y), (3, .int z)] := hl
  refine lv_aload_n hx hb dX11_fight_0 rfl (lv_at hl 0 rfl) ?_
  refine va_get (D := gD G) (ci := 12) (v := .ref bd) (C := RX11) (T := TX11) (N := 11) hx hb hts (fun _ h9 => (List.mem_cons_of_mem _ (List.mem_append_right _ (List.mem_append_left _ h9)))) hown hK hP 0 rfl rfl 5 (by decide) (hts (.fieldLink RX11 51 "JudoHall" "board" "LJudoHall$Board;") (List.mem_cons_of_mem _ (List.mem_append_left _ (List.mem_of_getElem? (i := 0) rfl)))) (fun _ h9 => h9) rfl dX11_fight_1 ?_
  refine lv_iload_n hx hb dX11_fight_4 rfl (lv_at hl 1 rfl) ?_
  refine lv_iload_n hx hb dX11_fight_5 rfl (lv_at hl 2 rfl) ?_
  refine vp_callSi (va_Run.run (va_runV (As := [.int x, .int y]) (rest := []) ⟨hx, hb, hml, hown, hts⟩ (c_Board_has l G bd bk b1 b2 b3 b4 b5 ca (.ref bc) (.ref bb) (.ref bs) (.int 0) (.int 0) x y) (cwV 2 hts (gdV (List.mem_cons_of_mem _ (List.mem_append_left _ (List.mem_of_getElem? (i := 1) rfl))) (List.mem_cons_of_mem _ (List.mem_append_left _ (List.mem_of_getElem? (i := 2) rfl))) (List.mem_cons_of_mem _ (List.mem_append_left _ (List.mem_of_getElem? (i := 3) rfl))) (List.mem_cons_of_mem _ (List.mem_append_left _ (List.mem_of_getElem? (i := 4) rfl))) (fun w9 h9 => ⟨(List.mem_cons_of_mem _ (List.mem_append_right _ (List.mem_append_right _ (List.mem_append_left _ h9)))), gd_c_Board_has w9 h9⟩)) rfl rfl rfl kVX0_has ⟨Nat.le_of_ble_eq_true rfl, Nat.le_of_ble_eq_true rfl⟩) (preV_p (As := [.int x, .int y]) (hP.sub (ws' := [(bd, .inr (1, [.ref bk, b1, b2, b3, b4, b5])), (bk, .inr (2, [.ref ca, .ref bc, .ref bb, .ref bs, .int 0, .int 0])), (ca, .inl (gI G, 2088, .inl bk0))]) [1, 2, 3] rfl) hB rfl rfl) rfl rfl hl.1 rfl (lv_room (Nat.le_of_ble_eq_true rfl)) dX11_fight_6 ⟨Nat.le_of_ble_eq_true rfl, Nat.le_of_ble_eq_true rfl⟩)) (fun r_1 hr_1 => ?_)
  subst hr_1
  refine lv_if_ne (tgt := 14) hx hb dX11_fight_9 (by decide) (fun c9 => absurd (by decide) c9) (fun _ => ?_)
  refine lv_iconst (v := (-1)) hx hb dX11_fight_12 (by decide) ?_
  exact W.iret (v := (-1)) hx hb hr (fun t ht hW => ⟨_, rfl, rfl, ht⟩) (fun q h => absurd h List.not_mem_nil) dX11_fight_13

def wo_q_now : List Cond := [.fieldLink RX11 10 "JudoHall" "book" "LJudoHall$Book;", .methodLink RX11 134 yX1_at, .instanceMethod yX1_at, .selects RX1 yX1_at yX1_at, .initialized RX1, .methodLink RX11 108 yX1_isFull, .instanceMethod yX1_isFull, .selects RX1 yX1_isFull yX1_isFull, .methodLink RX11 111 yX1_openEntry, .instanceMethod yX1_openEntry, .selects RX1 yX1_openEntry yX1_openEntry, .methodLink RX11 149 yX1_put, .instanceMethod yX1_put, .selects RX1 yX1_put yX1_put]
def wq_q_now : List Cond := .code yX11_now cX11_now 2 (some .int) :: (wo_q_now ++ (wsX110 ++ (wq_c_Book_at ++ (wq_c_isFull ++ (wq_c_openEntry ++ (wq_c_put ++ []))))))
theorem gd_q_now : ∀ w ∈ wq_q_now, Gd w := List.forall_mem_cons.mpr ⟨Or.inl rfl, List.forall_mem_append.mpr ⟨gdl wo_q_now (by decide +kernel), (List.forall_mem_append.mpr ⟨gd_wsX110, (List.forall_mem_append.mpr ⟨gd_c_Book_at, (List.forall_mem_append.mpr ⟨gd_c_isFull, (List.forall_mem_append.mpr ⟨gd_c_openEntry, (List.forall_mem_append.mpr ⟨gd_c_put, (fun _ h => absurd h List.not_mem_nil)⟩)⟩)⟩)⟩)⟩)⟩⟩
theorem in_q_now : ∀ w ∈ wq_q_now, w ∈ lw_tbl := List.forall_mem_cons.mpr ⟨List.mem_of_getElem? (i := 1227) (by decide +kernel), List.forall_mem_append.mpr ⟨inT wo_q_now [555, 866, 623, 624, 155, 849, 850, 851, 853, 854, 855, 943, 944, 945] (by decide +kernel), (List.forall_mem_append.mpr ⟨in_wsX110, (List.forall_mem_append.mpr ⟨in_c_Book_at, (List.forall_mem_append.mpr ⟨in_c_isFull, (List.forall_mem_append.mpr ⟨in_c_openEntry, (List.forall_mem_append.mpr ⟨in_c_put, (fun _ h => absurd h List.not_mem_nil)⟩)⟩)⟩)⟩)⟩)⟩⟩
set_option maxHeartbeats 4000000 in
set_option maxRecDepth 100000 in
theorem q_now (l : Launch) (G : gG) (jh : Nat) (bk : Nat) (tp : Nat) (ps : Nat) (rl : Nat) (u1 : Value) (bd : Nat) (fr : Nat) (u2 : Value) (pn : Nat) (nl : Nat) (u3 : Value) (ca : Nat) (bc : Nat) (bb : Nat) (bs : Nat) (bc2 : Nat) (bb2 : Nat) (bs2 : Nat) (x : Int32) (sz : Nat) : Met l yX11_now wq_q_now ({ frames := 2, cells := 0, slots := 0, locals := 45 }) (va_Pc [.ref jh, .int x] (mP G [(jh, .inr (12, [.ref bk, .ref tp, .ref ps, .ref rl, u1, .ref bd, .ref fr, u2, .ref pn, .ref nl, u3])), (bk, .inr (2, [.ref ca, .ref bc, .ref bb, .ref bs, .int 0, .int 0])), (ca, .inl (gI G, 2088, .inl bk0)), (bc, .inr (10, [.ref bc2])), (bc2, .inl (gI G, 512, .inl (fl 512 0 (fun _ => 0)))), (bb, .inr (10, [.ref bb2])), (bb2, .inl (gI G, 512, .inl (fl 512 0 (fun _ => 0)))), (bs, .inr (10, [.ref bs2])), (bs2, .inl (gI G, 500, .inl (fl 500 0 (fun _ => 0))))] sz)) (va_Qi (fun (r : Int32) (_ : Unit) => r = if x < 0 ∨ 1440 < x then (-2) else x) (fun (_ : Unit) (t : State) => va_P (gD G) vwCl [] t.heap ∧ va_D (va_A [(jh, .inr (12, [.ref bk, .ref tp, .ref ps, .ref rl, u1, .ref bd, .ref fr, u2, .ref pn, .ref nl, u3])), (bk, .inr (2, [.ref ca, .ref bc, .ref bb, .ref bs, .int 0, .int 0])), (ca, .inl (gI G, 2088, .inl bk0)), (bc, .inr (10, [.ref bc2])), (bc2, .inl (gI G, 512, .inl (fl 512 0 (fun _ => 0)))), (bb, .inr (10, [.ref bb2])), (bb2, .inl (gI G, 512, .inl (fl 512 0 (fun _ => 0)))), (bs, .inr (10, [.ref bs2])), (bs2, .inl (gI G, 500, .inl (fl 500 0 (fun _ => 0))))] sz) []) (va_A [(jh, .inr (12, [.ref bk, .ref tp, .ref ps, .ref rl, u1, .ref bd, .ref fr, u2, .ref pn, .ref nl, u3])), (bk, .inr (2, [.ref ca, .ref bc, .ref bb, .ref bs, .int 0, .int 0])), (ca, .inl (gI G, 2088, .inl bk0)), (bc, .inr (10, [.ref bc2])), (bc2, .inl (gI G, 512, .inl (fl 512 0 (fun _ => 0)))), (bb, .inr (10, [.ref bb2])), (bb2, .inl (gI G, 512, .inl (fl 512 0 (fun _ => 0)))), (bs, .inr (10, [.ref bs2])), (bs2, .inl (gI G, 500, .inl (fl 500 0 (fun _ => 0))))] sz)) 0 0 (va_A [(jh, .inr (12, [.ref bk, .ref tp, .ref ps, .ref rl, u1, .ref bd, .ref fr, u2, .ref pn, .ref nl, u3])), (bk, .inr (2, [.ref ca, .ref bc, .ref bb, .ref bs, .int 0, .int 0])), (ca, .inl (gI G, 2088, .inl bk0)), (bc, .inr (10, [.ref bc2])), (bc2, .inl (gI G, 512, .inl (fl 512 0 (fun _ => 0)))), (bb, .inr (10, [.ref bb2])), (bb2, .inl (gI G, 512, .inl (fl 512 0 (fun _ => 0)))), (bs, .inr (10, [.ref bs2])), (bs2, .inl (gI G, 500, .inl (fl 500 0 (fun _ => 0))))] sz) := by
  refine Met.ofW (cc := cX11_now) (maxL := 2) (ret := (some .int)) (by decide) rfl ?_
  intro p e s m args below meth c s₁ B hml hv
  obtain ⟨rfl, hsz, hP, hB, hD0⟩ := hv
  have hx := B.exec
  have hb := B.bytes
  have hr := B.returns
  have hts := atoms_spec (ws := wq_q_now) B.pre
  have hown : s.vm.findClass RX11 = some m.cls := findClass_of_methodNamed B.named
  have hlocks := B.notSynchronized
  have hK := hB.1
  subst hsz
  have hD := hD0.self (sz := s.heap.size)
  generalize hAe : va_A [(jh, .inr (12, [.ref bk, .ref tp, .ref ps, .ref rl, u1, .ref bd, .ref fr, u2, .ref pn, .ref nl, u3])), (bk, .inr (2, [.ref ca, .ref bc, .ref bb, .ref bs, .int 0, .int 0])), (ca, .inl (gI G, 2088, .inl bk0)), (bc, .inr (10, [.ref bc2])), (bc2, .inl (gI G, 512, .inl (fl 512 0 (fun _ => 0)))), (bb, .inr (10, [.ref bb2])), (bb2, .inl (gI G, 512, .inl (fl 512 0 (fun _ => 0)))), (bs, .inr (10, [.ref bs2])), (bs2, .inl (gI G, 500, .inl (fl 500 0 (fun _ => 0))))] s.heap.size = A at hD ⊢
  have hA : ∀ q : Nat, s.heap.size ≤ q → A q := fun q h => by rw [← hAe]; exact Or.inr h
  have hS : va_S A s.heap s.heap [] := va_S.rf
  have hP : va_P (gD G) vwCl [(jh, .inr (12, [.ref bk, .ref tp, .ref ps, .ref rl, u1, .ref bd, .ref fr, u2, .ref pn, .ref nl, u3])), (bk, .inr (2, [.ref ca, .ref bc, .ref bb, .ref bs, .int 0, .int 0])), (ca, .inl (gI G, 2088, .inl bk0)), (bc, .inr (10, [.ref bc2])), (bc2, .inl (gI G, 512, .inl (fl 512 0 (fun _ => 0)))), (bb, .inr (10, [.ref bb2])), (bb2, .inl (gI G, 512, .inl (fl 512 0 (fun _ => 0)))), (bs, .inr (10, [.ref bs2])), (bs2, .inl (gI G, 500, .inl (fl 500 0 (fun _ => 0))))] s.heap := hP
  have hD : va_D A [(jh, .inr (12, [.ref bk, .ref tp, .ref ps, .ref rl, u1, .ref bd, .ref fr, u2, .ref pn, .ref nl, u3])), (bk, .inr (2, [.ref ca, .ref bc, .ref bb, .ref bs, .int 0, .int 0])), (ca, .inl (gI G, 2088, .inl bk0)), (bc, .inr (10, [.ref bc2])), (bc2, .inl (gI G, 512, .inl (fl 512 0 (fun _ => 0)))), (bb, .inr (10, [.ref bb2])), (bb2, .inl (gI G, 512, .inl (fl 512 0 (fun _ => 0)))), (bs, .inr (10, [.ref bs2])), (bs2, .inl (gI G, 500, .inl (fl 500 0 (fun _ => 0))))] := hD
  have hl := lv_entry ([.ref jh, .int x]) (n := 2) (Nat.le_of_ble_eq_true rfl)
  rw [lg_entry_eq]
  generalize (lg_sl ([.ref jh, .int x]) ++ List.replicate (2 - (lg_sl ([.ref jh, .int x])).length) Slot.unset).toArray = ls at hl ⊢
  have hl : lv_has ls 2 [(0, .ref jh), (1, .int x)] := hl
  refine lv_iload_n hx hb dX11_now_0 rfl (lv_at hl 1 rfl) ?_
  refine lv_aload_n hx hb dX11_now_1 rfl (lv_at hl 0 rfl) ?_
  refine va_get (D := gD G) (ci := 12) (v := .ref bk) (C := RX11) (T := TX11) (N := 11) hx hb hts (fun _ h9 => (List.mem_cons_of_mem _ (List.mem_append_right _ (List.mem_append_left _ h9)))) hown hK hP 0 rfl rfl 0 (by decide) (hts (.fieldLink RX11 10 "JudoHall" "book" "LJudoHall$Book;") (List.mem_cons_of_mem _ (List.mem_append_left _ (List.mem_of_getElem? (i := 0) rfl)))) (fun _ h9 => h9) rfl dX11_now_2 ?_
  refine lv_iconst (v := 0) hx hb dX11_now_5 (by decide) ?_
  refine vp_callSi (va_Run.run (va_runV (As := [.int 0]) (rest := [.int x]) ⟨hx, hb, hml, hown, hts⟩ (c_Book_at l G bk ca 2088 bk0 (.ref bc) (.ref bb) (.ref bs) (.int 0) (.int 0) 0 (by decide)) (cwV 1 hts (gdV (List.mem_cons_of_mem _ (List.mem_append_left _ (List.mem_of_getElem? (i := 1) rfl))) (List.mem_cons_of_mem _ (List.mem_append_left _ (List.mem_of_getElem? (i := 2) rfl))) (List.mem_cons_of_mem _ (List.mem_append_left _ (List.mem_of_getElem? (i := 3) rfl))) (List.mem_cons_of_mem _ (List.mem_append_left _ (List.mem_of_getElem? (i := 4) rfl))) (fun w9 h9 => ⟨(List.mem_cons_of_mem _ (List.mem_append_right _ (List.mem_append_right _ (List.mem_append_left _ h9)))), gd_c_Book_at w9 h9⟩)) rfl rfl rfl kVX1_at ⟨Nat.le_of_ble_eq_true rfl, Nat.le_of_ble_eq_true rfl⟩) (preV_p (As := [.int 0]) (hP.sub (ws' := [(bk, .inr (2, [.ref ca, .ref bc, .ref bb, .ref bs, .int 0, .int 0])), (ca, .inl (gI G, 2088, .inl bk0))]) [1, 2] rfl) hB rfl rfl) rfl rfl hl.1 rfl (lv_room (Nat.le_of_ble_eq_true rfl)) dX11_now_6 ⟨Nat.le_of_ble_eq_true rfl, Nat.le_of_ble_eq_true rfl⟩)) (fun r_1 hr_1 => ?_)
  have hr_1 : r_1 = 0 := hr_1.trans (by decide +kernel)
  subst hr_1
  refine lv_icmp_lt (tgt := 19) hx hb dX11_now_9 (by decide) (fun c_2 => ?_) (fun c_2 => ?_)
  · skip
    refine lv_bipush (v := (-2)) hx hb dX11_now_19 (by decide) ?_
    have hP9 := hP.sub (ws' := []) [] rfl
    have hD9 := hD.sub (ws' := []) [] (by decide) rfl
    exact W.iret (v := (-2)) hx hb hr (fun t ht hW => ⟨⟨_, (), rfl, by rw [if_pos (show x < 0 ∨ 1440 < x from (Or.inl c_2))], by rw [ht]; exact hP9, hD9⟩, hS.F ht⟩) hS.2.2 dX11_now_21
  · skip
    refine lv_iload_n hx hb dX11_now_12 rfl (lv_at hl 1 rfl) ?_
    refine lv_sipush (v := 1440) hx hb dX11_now_13 (by decide) ?_
    refine lv_icmp_le (tgt := 22) hx hb dX11_now_16 (by decide) (fun c_3 => ?_) (fun c_3 => ?_)
    · skip
      refine lv_aload_n hx hb dX11_now_22 rfl (lv_at hl 0 rfl) ?_
      refine va_get (D := gD G) (ci := 12) (v := .ref bk) (C := RX11) (T := TX11) (N := 11) hx hb hts (fun _ h9 => (List.mem_cons_of_mem _ (List.mem_append_right _ (List.mem_append_left _ h9)))) hown hK hP 0 rfl rfl 0 (by decide) (hts (.fieldLink RX11 10 "JudoHall" "book" "LJudoHall$Book;") (List.mem_cons_of_mem _ (List.mem_append_left _ (List.mem_of_getElem? (i := 0) rfl)))) (fun _ h9 => h9) rfl dX11_now_23 ?_
      refine vp_callSi (va_Run.run (va_runV (As := []) (rest := []) ⟨hx, hb, hml, hown, hts⟩ (c_isFull l G bk (.ref ca) (.ref bc) (.ref bb) (.ref bs) (.int 0)) (cwV 0 hts (gdV (List.mem_cons_of_mem _ (List.mem_append_left _ (List.mem_of_getElem? (i := 5) rfl))) (List.mem_cons_of_mem _ (List.mem_append_left _ (List.mem_of_getElem? (i := 6) rfl))) (List.mem_cons_of_mem _ (List.mem_append_left _ (List.mem_of_getElem? (i := 7) rfl))) (List.mem_cons_of_mem _ (List.mem_append_left _ (List.mem_of_getElem? (i := 4) rfl))) (fun w9 h9 => ⟨(List.mem_cons_of_mem _ (List.mem_append_right _ (List.mem_append_right _ (List.mem_append_right _ (List.mem_append_left _ h9))))), gd_c_isFull w9 h9⟩)) rfl rfl rfl kVX1_isFull ⟨Nat.le_of_ble_eq_true rfl, Nat.le_of_ble_eq_true rfl⟩) (preV_p (As := []) (hP.sub (ws' := [(bk, .inr (2, [.ref ca, .ref bc, .ref bb, .ref bs, .int 0, .int 0]))]) [1] rfl) hB rfl rfl) rfl rfl hl.1 rfl (lv_room (Nat.le_of_ble_eq_true rfl)) dX11_now_26 ⟨Nat.le_of_ble_eq_true rfl, Nat.le_of_ble_eq_true rfl⟩)) (fun r_4 hr_4 => ?_)
      subst hr_4
      refine lv_if_eq (tgt := 35) hx hb dX11_now_29 (by decide) (fun _ => ?_) (fun c9 => absurd (by decide) c9)
      refine lv_aload_n hx hb dX11_now_35 rfl (lv_at hl 0 rfl) ?_
      refine va_get (D := gD G) (ci := 12) (v := .ref bk) (C := RX11) (T := TX11) (N := 11) hx hb hts (fun _ h9 => (List.mem_cons_of_mem _ (List.mem_append_right _ (List.mem_append_left _ h9)))) hown hK hP 0 rfl rfl 0 (by decide) (hts (.fieldLink RX11 10 "JudoHall" "book" "LJudoHall$Book;") (List.mem_cons_of_mem _ (List.mem_append_left _ (List.mem_of_getElem? (i := 0) rfl)))) (fun _ h9 => h9) rfl dX11_now_36 ?_
      have hPc := hP.sub (ws' := [(bk, .inr (2, [.ref ca, .ref bc, .ref bb, .ref bs, .int 0, .int 0])), (bs, .inr (10, [.ref bs2])), (bs2, .inl (gI G, 500, .inl (fl 500 0 (fun _ => 0))))]) [1, 7, 8] rfl
      have hDc := hD.sub (ws' := [(bk, .inr (2, [.ref ca, .ref bc, .ref bb, .ref bs, .int 0, .int 0])), (bs, .inr (10, [.ref bs2])), (bs2, .inl (gI G, 500, .inl (fl 500 0 (fun _ => 0))))]) [1, 7, 8] (by decide) rfl
      have hFc := va_free (wc := [(bk, .inr (2, [.ref ca, .ref bc, .ref bb, .ref bs, .int 0, .int 0])), (bs, .inr (10, [.ref bs2])), (bs2, .inl (gI G, 500, .inl (fl 500 0 (fun _ => 0))))]) hD hS hA [1, 7, 8] rfl
      refine va_callv (va_runV (As := []) (rest := []) ⟨hx, hb, hml, hown, hts⟩ (c_openEntry l G bk (.ref ca) (.ref bc) (.ref bb) bs bs2 (fl 500 0 (fun _ => 0)) s.heap.size) (cwV 0 hts (gdV (List.mem_cons_of_mem _ (List.mem_append_left _ (List.mem_of_getElem? (i := 8) rfl))) (List.mem_cons_of_mem _ (List.mem_append_left _ (List.mem_of_getElem? (i := 9) rfl))) (List.mem_cons_of_mem _ (List.mem_append_left _ (List.mem_of_getElem? (i := 10) rfl))) (List.mem_cons_of_mem _ (List.mem_append_left _ (List.mem_of_getElem? (i := 4) rfl))) (fun w9 h9 => ⟨(List.mem_cons_of_mem _ (List.mem_append_right _ (List.mem_append_right _ (List.mem_append_right _ (List.mem_append_right _ (List.mem_append_left _ h9)))))), gd_c_openEntry w9 h9⟩)) rfl rfl rfl kVX1_openEntry ⟨Nat.le_of_ble_eq_true rfl, Nat.le_of_ble_eq_true rfl⟩) (preV_m (As := []) hPc hB hDc rfl rfl) rfl rfl hl.1 rfl (lv_room (Nat.le_of_ble_eq_true rfl)) dX11_now_39 ⟨Nat.le_of_ble_eq_true rfl, Nat.le_of_ble_eq_true rfl⟩) hS (fun q _ h => hFc q h) hFc (fun u t H1 locs ht hvm hw hB1 hz1 hk1 hS => ?_)
      obtain ⟨hP1, hD1⟩ := hB1
      rw [ht] at hP1
      obtain ⟨hP, hD⟩ := va_join (wr := [(jh, .inr (12, [.ref bk, .ref tp, .ref ps, .ref rl, u1, .ref bd, .ref fr, u2, .ref pn, .ref nl, u3])), (ca, .inl (gI G, 2088, .inl bk0)), (bc, .inr (10, [.ref bc2])), (bc2, .inl (gI G, 512, .inl (fl 512 0 (fun _ => 0)))), (bb, .inr (10, [.ref bb2])), (bb2, .inl (gI G, 512, .inl (fl 512 0 (fun _ => 0))))]) (w1 := [(bk, .inr (2, [.ref ca, .ref bc, .ref bb, .ref bs, .int 0, .int 1]))]) hP hD [1, 7, 8] [0, 2, 3, 4, 5, 6] rfl rfl (by decide) (by decide) hk1 hFc hP1 hD1
      generalize H1 = H at hP hS ⊢
      have hP : va_P (gD G) vwCl [(jh, .inr (12, [.ref bk, .ref tp, .ref ps, .ref rl, u1, .ref bd, .ref fr, u2, .ref pn, .ref nl, u3])), (ca, .inl (gI G, 2088, .inl bk0)), (bc, .inr (10, [.ref bc2])), (bc2, .inl (gI G, 512, .inl (fl 512 0 (fun _ => 0)))), (bb, .inr (10, [.ref bb2])), (bb2, .inl (gI G, 512, .inl (fl 512 0 (fun _ => 0)))), (bk, .inr (2, [.ref ca, .ref bc, .ref bb, .ref bs, .int 0, .int 1]))] H := hP
      have hD : va_D A [(jh, .inr (12, [.ref bk, .ref tp, .ref ps, .ref rl, u1, .ref bd, .ref fr, u2, .ref pn, .ref nl, u3])), (ca, .inl (gI G, 2088, .inl bk0)), (bc, .inr (10, [.ref bc2])), (bc2, .inl (gI G, 512, .inl (fl 512 0 (fun _ => 0)))), (bb, .inr (10, [.ref bb2])), (bb2, .inl (gI G, 512, .inl (fl 512 0 (fun _ => 0)))), (bk, .inr (2, [.ref ca, .ref bc, .ref bb, .ref bs, .int 0, .int 1]))] := hD
      refine W.eq (g2 := F0 m 42 ls []) rfl ?_
      refine lv_aload_n hx hb dX11_now_42 rfl (lv_at hl 0 rfl) ?_
      refine va_get (D := gD G) (ci := 12) (v := .ref bk) (C := RX11) (T := TX11) (N := 11) hx hb hts (fun _ h9 => (List.mem_cons_of_mem _ (List.mem_append_right _ (List.mem_append_left _ h9)))) hown hK hP 0 rfl rfl 0 (by decide) (hts (.fieldLink RX11 10 "JudoHall" "book" "LJudoHall$Book;") (List.mem_cons_of_mem _ (List.mem_append_left _ (List.mem_of_getElem? (i := 0) rfl)))) (fun _ h9 => h9) rfl dX11_now_43 ?_
      refine lv_iconst (v := 0) hx hb dX11_now_46 (by decide) ?_
      refine lv_iload_n hx hb dX11_now_47 rfl (lv_at hl 1 rfl) ?_
      have hPc := hP.sub (ws' := [(bk, .inr (2, [.ref ca, .ref bc, .ref bb, .ref bs, .int 0, .int 1])), (ca, .inl (gI G, 2088, .inl bk0)), (bc, .inr (10, [.ref bc2])), (bc2, .inl (gI G, 512, .inl (fl 512 0 (fun _ => 0)))), (bb, .inr (10, [.ref bb2])), (bb2, .inl (gI G, 512, .inl (fl 512 0 (fun _ => 0))))]) [6, 1, 2, 3, 4, 5] rfl
      have hDc := hD.sub (ws' := [(bk, .inr (2, [.ref ca, .ref bc, .ref bb, .ref bs, .int 0, .int 1])), (ca, .inl (gI G, 2088, .inl bk0)), (bc, .inr (10, [.ref bc2])), (bc2, .inl (gI G, 512, .inl (fl 512 0 (fun _ => 0)))), (bb, .inr (10, [.ref bb2])), (bb2, .inl (gI G, 512, .inl (fl 512 0 (fun _ => 0))))]) [6, 1, 2, 3, 4, 5] (by decide) rfl
      have hFc := va_free (wc := [(bk, .inr (2, [.ref ca, .ref bc, .ref bb, .ref bs, .int 0, .int 1])), (ca, .inl (gI G, 2088, .inl bk0)), (bc, .inr (10, [.ref bc2])), (bc2, .inl (gI G, 512, .inl (fl 512 0 (fun _ => 0)))), (bb, .inr (10, [.ref bb2])), (bb2, .inl (gI G, 512, .inl (fl 512 0 (fun _ => 0))))]) hD hS hA [6, 1, 2, 3, 4, 5] rfl
      refine va_callv (va_runV (As := [.int 0, .int x]) (rest := []) ⟨hx, hb, hml, hown, hts⟩ (c_put l G bk ca bc bc2 bb bb2 (.ref bs) (.int 1) bk0 (fl 512 0 (fun _ => 0)) (fl 512 0 (fun _ => 0)) 0 0 x H.size (by omega)) (cwV 2 hts (gdV (List.mem_cons_of_mem _ (List.mem_append_left _ (List.mem_of_getElem? (i := 11) rfl))) (List.mem_cons_of_mem _ (List.mem_append_left _ (List.mem_of_getElem? (i := 12) rfl))) (List.mem_cons_of_mem _ (List.mem_append_left _ (List.mem_of_getElem? (i := 13) rfl))) (List.mem_cons_of_mem _ (List.mem_append_left _ (List.mem_of_getElem? (i := 4) rfl))) (fun w9 h9 => ⟨(List.mem_cons_of_mem _ (List.mem_append_right _ (List.mem_append_right _ (List.mem_append_right _ (List.mem_append_right _ (List.mem_append_right _ (List.mem_append_left _ h9))))))), gd_c_put w9 h9⟩)) rfl rfl rfl kVX1_put ⟨Nat.le_of_ble_eq_true rfl, Nat.le_of_ble_eq_true rfl⟩) (preV_m (As := [.int 0, .int x]) hPc hB hDc rfl rfl) rfl rfl hl.1 rfl (lv_room (Nat.le_of_ble_eq_true rfl)) dX11_now_48 ⟨Nat.le_of_ble_eq_true rfl, Nat.le_of_ble_eq_true rfl⟩) hS (fun q _ h => hFc q h) hFc (fun u t H1 locs ht hvm hw hB1 hz1 hk1 hS => ?_)
      obtain ⟨q_7, q_8, q_9, q_10, hP1, hD1, hw2⟩ := hB1
      rw [ht] at hP1
      obtain ⟨hP, hD⟩ := va_join (wr := [(jh, .inr (12, [.ref bk, .ref tp, .ref ps, .ref rl, u1, .ref bd, .ref fr, u2, .ref pn, .ref nl, u3]))]) (w1 := [(bk, .inr (2, [.ref ca, .ref bc, .ref bb, .ref bs, .int (nI q_7), .int 1])), (ca, .inl (gI G, 2088, .inl q_8)), (bc, .inr (10, [.ref bc2])), (bc2, .inl (gI G, 512, .inl q_9)), (bb, .inr (10, [.ref bb2])), (bb2, .inl (gI G, 512, .inl q_10))]) hP hD [6, 1, 2, 3, 4, 5] [0] rfl rfl (by decide) (by decide) hk1 hFc hP1 hD1
      generalize H1 = H at hP hS ⊢
      have w_11 := hw2
      have hP : va_P (gD G) vwCl [(jh, .inr (12, [.ref bk, .ref tp, .ref ps, .ref rl, u1, .ref bd, .ref fr, u2, .ref pn, .ref nl, u3])), (bk, .inr (2, [.ref ca, .ref bc, .ref bb, .ref bs, .int (nI q_7), .int 1])), (ca, .inl (gI G, 2088, .inl q_8)), (bc, .inr (10, [.ref bc2])), (bc2, .inl (gI G, 512, .inl q_9)), (bb, .inr (10, [.ref bb2])), (bb2, .inl (gI G, 512, .inl q_10))] H := hP
      have hD : va_D A [(jh, .inr (12, [.ref bk, .ref tp, .ref ps, .ref rl, u1, .ref bd, .ref fr, u2, .ref pn, .ref nl, u3])), (bk, .inr (2, [.ref ca, .ref bc, .ref bb, .ref bs, .int (nI q_7), .int 1])), (ca, .inl (gI G, 2088, .inl q_8)), (bc, .inr (10, [.ref bc2])), (bc2, .inl (gI G, 512, .inl q_9)), (bb, .inr (10, [.ref bb2])), (bb2, .inl (gI G, 512, .inl q_10))] := hD
      refine W.eq (g2 := F0 m 51 ls []) rfl ?_
      refine lv_iload_n hx hb dX11_now_51 rfl (lv_at hl 1 rfl) ?_
      have hP9 := hP.sub (ws' := []) [] rfl
      have hD9 := hD.sub (ws' := []) [] (by decide) rfl
      exact W.iret (v := x) hx hb hr (fun t ht hW => ⟨⟨_, (), rfl, by rw [if_neg (show ¬ (x < 0 ∨ 1440 < x) from (not_or.mpr ⟨c_2, (Int32.not_lt.mpr c_3)⟩))], by rw [ht]; exact hP9, hD9⟩, hS.F ht⟩) hS.2.2 dX11_now_52
    · skip
      refine lv_bipush (v := (-2)) hx hb dX11_now_19 (by decide) ?_
      have hP9 := hP.sub (ws' := []) [] rfl
      have hD9 := hD.sub (ws' := []) [] (by decide) rfl
      exact W.iret (v := (-2)) hx hb hr (fun t ht hW => ⟨⟨_, (), rfl, by rw [if_pos (show x < 0 ∨ 1440 < x from (Or.inr (Int32.not_le.mp c_3)))], by rw [ht]; exact hP9, hD9⟩, hS.F ht⟩) hS.2.2 dX11_now_21

def wo_q_rest : List Cond := [.fieldLink RX11 10 "JudoHall" "book" "LJudoHall$Book;", .methodLink RX11 108 yX1_isFull, .instanceMethod yX1_isFull, .selects RX1 yX1_isFull yX1_isFull, .initialized RX1, .methodLink RX11 111 yX1_openEntry, .instanceMethod yX1_openEntry, .selects RX1 yX1_openEntry yX1_openEntry, .methodLink RX11 134 yX1_at, .instanceMethod yX1_at, .selects RX1 yX1_at yX1_at, .methodLink RX11 149 yX1_put, .instanceMethod yX1_put, .selects RX1 yX1_put yX1_put]
def wq_q_rest : List Cond := .code yX11_rest cX11_rest 3 (some .int) :: (wo_q_rest ++ (wsX110 ++ (wq_c_isFull ++ (wq_c_openEntry ++ (wq_c_Book_at ++ (wq_c_put ++ []))))))
theorem gd_q_rest : ∀ w ∈ wq_q_rest, Gd w := List.forall_mem_cons.mpr ⟨Or.inl rfl, List.forall_mem_append.mpr ⟨gdl wo_q_rest (by decide +kernel), (List.forall_mem_append.mpr ⟨gd_wsX110, (List.forall_mem_append.mpr ⟨gd_c_isFull, (List.forall_mem_append.mpr ⟨gd_c_openEntry, (List.forall_mem_append.mpr ⟨gd_c_Book_at, (List.forall_mem_append.mpr ⟨gd_c_put, (fun _ h => absurd h List.not_mem_nil)⟩)⟩)⟩)⟩)⟩)⟩⟩
theorem in_q_rest : ∀ w ∈ wq_q_rest, w ∈ lw_tbl := List.forall_mem_cons.mpr ⟨List.mem_of_getElem? (i := 1231) (by decide +kernel), List.forall_mem_append.mpr ⟨inT wo_q_rest [555, 849, 850, 851, 155, 853, 854, 855, 866, 623, 624, 943, 944, 945] (by decide +kernel), (List.forall_mem_append.mpr ⟨in_wsX110, (List.forall_mem_append.mpr ⟨in_c_isFull, (List.forall_mem_append.mpr ⟨in_c_openEntry, (List.forall_mem_append.mpr ⟨in_c_Book_at, (List.forall_mem_append.mpr ⟨in_c_put, (fun _ h => absurd h List.not_mem_nil)⟩)⟩)⟩)⟩)⟩)⟩⟩
set_option maxHeartbeats 4000000 in
set_option maxRecDepth 100000 in
theorem q_rest (l : Launch) (G : gG) (jh : Nat) (bk : Nat) (tp : Nat) (ps : Nat) (rl : Nat) (u1 : Value) (bd : Nat) (fr : Nat) (u2 : Value) (pn : Nat) (nl : Nat) (u3 : Value) (ca : Nat) (bc : Nat) (bb : Nat) (bs : Nat) (bc2 : Nat) (bb2 : Nat) (bs2 : Nat) (x : Int32) (sz : Nat) : Met l yX11_rest wq_q_rest ({ frames := 2, cells := 0, slots := 0, locals := 45 }) (va_Pc [.ref jh, .int x] (mP G [(jh, .inr (12, [.ref bk, .ref tp, .ref ps, .ref rl, u1, .ref bd, .ref fr, u2, .ref pn, .ref nl, u3])), (bk, .inr (2, [.ref ca, .ref bc, .ref bb, .ref bs, .int 0, .int 0])), (ca, .inl (gI G, 2088, .inl bk0)), (bc, .inr (10, [.ref bc2])), (bc2, .inl (gI G, 512, .inl (fl 512 0 (fun _ => 0)))), (bb, .inr (10, [.ref bb2])), (bb2, .inl (gI G, 512, .inl (fl 512 0 (fun _ => 0)))), (bs, .inr (10, [.ref bs2])), (bs2, .inl (gI G, 500, .inl (fl 500 0 (fun _ => 0))))] sz)) (va_Qi (fun (r : Int32) (_ : Unit) => r = if x < 0 ∨ 120 < x then (-2) else 10) (fun (_ : Unit) (t : State) => va_P (gD G) vwCl [] t.heap ∧ va_D (va_A [(jh, .inr (12, [.ref bk, .ref tp, .ref ps, .ref rl, u1, .ref bd, .ref fr, u2, .ref pn, .ref nl, u3])), (bk, .inr (2, [.ref ca, .ref bc, .ref bb, .ref bs, .int 0, .int 0])), (ca, .inl (gI G, 2088, .inl bk0)), (bc, .inr (10, [.ref bc2])), (bc2, .inl (gI G, 512, .inl (fl 512 0 (fun _ => 0)))), (bb, .inr (10, [.ref bb2])), (bb2, .inl (gI G, 512, .inl (fl 512 0 (fun _ => 0)))), (bs, .inr (10, [.ref bs2])), (bs2, .inl (gI G, 500, .inl (fl 500 0 (fun _ => 0))))] sz) []) (va_A [(jh, .inr (12, [.ref bk, .ref tp, .ref ps, .ref rl, u1, .ref bd, .ref fr, u2, .ref pn, .ref nl, u3])), (bk, .inr (2, [.ref ca, .ref bc, .ref bb, .ref bs, .int 0, .int 0])), (ca, .inl (gI G, 2088, .inl bk0)), (bc, .inr (10, [.ref bc2])), (bc2, .inl (gI G, 512, .inl (fl 512 0 (fun _ => 0)))), (bb, .inr (10, [.ref bb2])), (bb2, .inl (gI G, 512, .inl (fl 512 0 (fun _ => 0)))), (bs, .inr (10, [.ref bs2])), (bs2, .inl (gI G, 500, .inl (fl 500 0 (fun _ => 0))))] sz)) 0 0 (va_A [(jh, .inr (12, [.ref bk, .ref tp, .ref ps, .ref rl, u1, .ref bd, .ref fr, u2, .ref pn, .ref nl, u3])), (bk, .inr (2, [.ref ca, .ref bc, .ref bb, .ref bs, .int 0, .int 0])), (ca, .inl (gI G, 2088, .inl bk0)), (bc, .inr (10, [.ref bc2])), (bc2, .inl (gI G, 512, .inl (fl 512 0 (fun _ => 0)))), (bb, .inr (10, [.ref bb2])), (bb2, .inl (gI G, 512, .inl (fl 512 0 (fun _ => 0)))), (bs, .inr (10, [.ref bs2])), (bs2, .inl (gI G, 500, .inl (fl 500 0 (fun _ => 0))))] sz) := by
  refine Met.ofW (cc := cX11_rest) (maxL := 3) (ret := (some .int)) (by decide) rfl ?_
  intro p e s m args below meth c s₁ B hml hv
  obtain ⟨rfl, hsz, hP, hB, hD0⟩ := hv
  have hx := B.exec
  have hb := B.bytes
  have hr := B.returns
  have hts := atoms_spec (ws := wq_q_rest) B.pre
  have hown : s.vm.findClass RX11 = some m.cls := findClass_of_methodNamed B.named
  have hlocks := B.notSynchronized
  have hK := hB.1
  subst hsz
  have hD := hD0.self (sz := s.heap.size)
  generalize hAe : va_A [(jh, .inr (12, [.ref bk, .ref tp, .ref ps, .ref rl, u1, .ref bd, .ref fr, u2, .ref pn, .ref nl, u3])), (bk, .inr (2, [.ref ca, .ref bc, .ref bb, .ref bs, .int 0, .int 0])), (ca, .inl (gI G, 2088, .inl bk0)), (bc, .inr (10, [.ref bc2])), (bc2, .inl (gI G, 512, .inl (fl 512 0 (fun _ => 0)))), (bb, .inr (10, [.ref bb2])), (bb2, .inl (gI G, 512, .inl (fl 512 0 (fun _ => 0)))), (bs, .inr (10, [.ref bs2])), (bs2, .inl (gI G, 500, .inl (fl 500 0 (fun _ => 0))))] s.heap.size = A at hD ⊢
  have hA : ∀ q : Nat, s.heap.size ≤ q → A q := fun q h => by rw [← hAe]; exact Or.inr h
  have hS : va_S A s.heap s.heap [] := va_S.rf
  have hP : va_P (gD G) vwCl [(jh, .inr (12, [.ref bk, .ref tp, .ref ps, .ref rl, u1, .ref bd, .ref fr, u2, .ref pn, .ref nl, u3])), (bk, .inr (2, [.ref ca, .ref bc, .ref bb, .ref bs, .int 0, .int 0])), (ca, .inl (gI G, 2088, .inl bk0)), (bc, .inr (10, [.ref bc2])), (bc2, .inl (gI G, 512, .inl (fl 512 0 (fun _ => 0)))), (bb, .inr (10, [.ref bb2])), (bb2, .inl (gI G, 512, .inl (fl 512 0 (fun _ => 0)))), (bs, .inr (10, [.ref bs2])), (bs2, .inl (gI G, 500, .inl (fl 500 0 (fun _ => 0))))] s.heap := hP
  have hD : va_D A [(jh, .inr (12, [.ref bk, .ref tp, .ref ps, .ref rl, u1, .ref bd, .ref fr, u2, .ref pn, .ref nl, u3])), (bk, .inr (2, [.ref ca, .ref bc, .ref bb, .ref bs, .int 0, .int 0])), (ca, .inl (gI G, 2088, .inl bk0)), (bc, .inr (10, [.ref bc2])), (bc2, .inl (gI G, 512, .inl (fl 512 0 (fun _ => 0)))), (bb, .inr (10, [.ref bb2])), (bb2, .inl (gI G, 512, .inl (fl 512 0 (fun _ => 0)))), (bs, .inr (10, [.ref bs2])), (bs2, .inl (gI G, 500, .inl (fl 500 0 (fun _ => 0))))] := hD
  have hl := lv_entry ([.ref jh, .int x]) (n := 3) (Nat.le_of_ble_eq_true rfl)
  rw [lg_entry_eq]
  generalize (lg_sl ([.ref jh, .int x]) ++ List.replicate (3 - (lg_sl ([.ref jh, .int x])).length) Slot.unset).toArray = ls at hl ⊢
  have hl : lv_has ls 3 [(0, .ref jh), (1, .int x)] := hl
  refine lv_iload_n hx hb dX11_rest_0 rfl (lv_at hl 1 rfl) ?_
  refine lv_if_lt (tgt := 10) hx hb dX11_rest_1 (by decide) (fun c_1 => ?_) (fun c_1 => ?_)
  · skip
    refine lv_bipush (v := (-2)) hx hb dX11_rest_10 (by decide) ?_
    have hP9 := hP.sub (ws' := []) [] rfl
    have hD9 := hD.sub (ws' := []) [] (by decide) rfl
    exact W.iret (v := (-2)) hx hb hr (fun t ht hW => ⟨⟨_, (), rfl, by rw [if_pos (show x < 0 ∨ 120 < x from (Or.inl c_1))], by rw [ht]; exact hP9, hD9⟩, hS.F ht⟩) hS.2.2 dX11_rest_12
  · skip
    refine lv_iload_n hx hb dX11_rest_4 rfl (lv_at hl 1 rfl) ?_
    refine lv_bipush (v := 120) hx hb dX11_rest_5 (by decide) ?_
    refine lv_icmp_le (tgt := 13) hx hb dX11_rest_7 (by decide) (fun c_2 => ?_) (fun c_2 => ?_)
    · skip
      refine lv_aload_n hx hb dX11_rest_13 rfl (lv_at hl 0 rfl) ?_
      refine va_get (D := gD G) (ci := 12) (v := .ref bk) (C := RX11) (T := TX11) (N := 11) hx hb hts (fun _ h9 => (List.mem_cons_of_mem _ (List.mem_append_right _ (List.mem_append_left _ h9)))) hown hK hP 0 rfl rfl 0 (by decide) (hts (.fieldLink RX11 10 "JudoHall" "book" "LJudoHall$Book;") (List.mem_cons_of_mem _ (List.mem_append_left _ (List.mem_of_getElem? (i := 0) rfl)))) (fun _ h9 => h9) rfl dX11_rest_14 ?_
      refine vp_callSi (va_Run.run (va_runV (As := []) (rest := []) ⟨hx, hb, hml, hown, hts⟩ (c_isFull l G bk (.ref ca) (.ref bc) (.ref bb) (.ref bs) (.int 0)) (cwV 0 hts (gdV (List.mem_cons_of_mem _ (List.mem_append_left _ (List.mem_of_getElem? (i := 1) rfl))) (List.mem_cons_of_mem _ (List.mem_append_left _ (List.mem_of_getElem? (i := 2) rfl))) (List.mem_cons_of_mem _ (List.mem_append_left _ (List.mem_of_getElem? (i := 3) rfl))) (List.mem_cons_of_mem _ (List.mem_append_left _ (List.mem_of_getElem? (i := 4) rfl))) (fun w9 h9 => ⟨(List.mem_cons_of_mem _ (List.mem_append_right _ (List.mem_append_right _ (List.mem_append_left _ h9)))), gd_c_isFull w9 h9⟩)) rfl rfl rfl kVX1_isFull ⟨Nat.le_of_ble_eq_true rfl, Nat.le_of_ble_eq_true rfl⟩) (preV_p (As := []) (hP.sub (ws' := [(bk, .inr (2, [.ref ca, .ref bc, .ref bb, .ref bs, .int 0, .int 0]))]) [1] rfl) hB rfl rfl) rfl rfl hl.1 rfl (lv_room (Nat.le_of_ble_eq_true rfl)) dX11_rest_17 ⟨Nat.le_of_ble_eq_true rfl, Nat.le_of_ble_eq_true rfl⟩)) (fun r_3 hr_3 => ?_)
      subst hr_3
      refine lv_if_eq (tgt := 26) hx hb dX11_rest_20 (by decide) (fun _ => ?_) (fun c9 => absurd (by decide) c9)
      refine lv_aload_n hx hb dX11_rest_26 rfl (lv_at hl 0 rfl) ?_
      refine va_get (D := gD G) (ci := 12) (v := .ref bk) (C := RX11) (T := TX11) (N := 11) hx hb hts (fun _ h9 => (List.mem_cons_of_mem _ (List.mem_append_right _ (List.mem_append_left _ h9)))) hown hK hP 0 rfl rfl 0 (by decide) (hts (.fieldLink RX11 10 "JudoHall" "book" "LJudoHall$Book;") (List.mem_cons_of_mem _ (List.mem_append_left _ (List.mem_of_getElem? (i := 0) rfl)))) (fun _ h9 => h9) rfl dX11_rest_27 ?_
      have hPc := hP.sub (ws' := [(bk, .inr (2, [.ref ca, .ref bc, .ref bb, .ref bs, .int 0, .int 0])), (bs, .inr (10, [.ref bs2])), (bs2, .inl (gI G, 500, .inl (fl 500 0 (fun _ => 0))))]) [1, 7, 8] rfl
      have hDc := hD.sub (ws' := [(bk, .inr (2, [.ref ca, .ref bc, .ref bb, .ref bs, .int 0, .int 0])), (bs, .inr (10, [.ref bs2])), (bs2, .inl (gI G, 500, .inl (fl 500 0 (fun _ => 0))))]) [1, 7, 8] (by decide) rfl
      have hFc := va_free (wc := [(bk, .inr (2, [.ref ca, .ref bc, .ref bb, .ref bs, .int 0, .int 0])), (bs, .inr (10, [.ref bs2])), (bs2, .inl (gI G, 500, .inl (fl 500 0 (fun _ => 0))))]) hD hS hA [1, 7, 8] rfl
      refine va_callv (va_runV (As := []) (rest := []) ⟨hx, hb, hml, hown, hts⟩ (c_openEntry l G bk (.ref ca) (.ref bc) (.ref bb) bs bs2 (fl 500 0 (fun _ => 0)) s.heap.size) (cwV 0 hts (gdV (List.mem_cons_of_mem _ (List.mem_append_left _ (List.mem_of_getElem? (i := 5) rfl))) (List.mem_cons_of_mem _ (List.mem_append_left _ (List.mem_of_getElem? (i := 6) rfl))) (List.mem_cons_of_mem _ (List.mem_append_left _ (List.mem_of_getElem? (i := 7) rfl))) (List.mem_cons_of_mem _ (List.mem_append_left _ (List.mem_of_getElem? (i := 4) rfl))) (fun w9 h9 => ⟨(List.mem_cons_of_mem _ (List.mem_append_right _ (List.mem_append_right _ (List.mem_append_right _ (List.mem_append_left _ h9))))), gd_c_openEntry w9 h9⟩)) rfl rfl rfl kVX1_openEntry ⟨Nat.le_of_ble_eq_true rfl, Nat.le_of_ble_eq_true rfl⟩) (preV_m (As := []) hPc hB hDc rfl rfl) rfl rfl hl.1 rfl (lv_room (Nat.le_of_ble_eq_true rfl)) dX11_rest_30 ⟨Nat.le_of_ble_eq_true rfl, Nat.le_of_ble_eq_true rfl⟩) hS (fun q _ h => hFc q h) hFc (fun u t H1 locs ht hvm hw hB1 hz1 hk1 hS => ?_)
      obtain ⟨hP1, hD1⟩ := hB1
      rw [ht] at hP1
      obtain ⟨hP, hD⟩ := va_join (wr := [(jh, .inr (12, [.ref bk, .ref tp, .ref ps, .ref rl, u1, .ref bd, .ref fr, u2, .ref pn, .ref nl, u3])), (ca, .inl (gI G, 2088, .inl bk0)), (bc, .inr (10, [.ref bc2])), (bc2, .inl (gI G, 512, .inl (fl 512 0 (fun _ => 0)))), (bb, .inr (10, [.ref bb2])), (bb2, .inl (gI G, 512, .inl (fl 512 0 (fun _ => 0))))]) (w1 := [(bk, .inr (2, [.ref ca, .ref bc, .ref bb, .ref bs, .int 0, .int 1]))]) hP hD [1, 7, 8] [0, 2, 3, 4, 5, 6] rfl rfl (by decide) (by decide) hk1 hFc hP1 hD1
      generalize H1 = H at hP hS ⊢
      have hP : va_P (gD G) vwCl [(jh, .inr (12, [.ref bk, .ref tp, .ref ps, .ref rl, u1, .ref bd, .ref fr, u2, .ref pn, .ref nl, u3])), (ca, .inl (gI G, 2088, .inl bk0)), (bc, .inr (10, [.ref bc2])), (bc2, .inl (gI G, 512, .inl (fl 512 0 (fun _ => 0)))), (bb, .inr (10, [.ref bb2])), (bb2, .inl (gI G, 512, .inl (fl 512 0 (fun _ => 0)))), (bk, .inr (2, [.ref ca, .ref bc, .ref bb, .ref bs, .int 0, .int 1]))] H := hP
      have hD : va_D A [(jh, .inr (12, [.ref bk, .ref tp, .ref ps, .ref rl, u1, .ref bd, .ref fr, u2, .ref pn, .ref nl, u3])), (ca, .inl (gI G, 2088, .inl bk0)), (bc, .inr (10, [.ref bc2])), (bc2, .inl (gI G, 512, .inl (fl 512 0 (fun _ => 0)))), (bb, .inr (10, [.ref bb2])), (bb2, .inl (gI G, 512, .inl (fl 512 0 (fun _ => 0)))), (bk, .inr (2, [.ref ca, .ref bc, .ref bb, .ref bs, .int 0, .int 1]))] := hD
      refine W.eq (g2 := F0 m 33 ls []) rfl ?_
      refine lv_aload_n hx hb dX11_rest_33 rfl (lv_at hl 0 rfl) ?_
      refine va_get (D := gD G) (ci := 12) (v := .ref bk) (C := RX11) (T := TX11) (N := 11) hx hb hts (fun _ h9 => (List.mem_cons_of_mem _ (List.mem_append_right _ (List.mem_append_left _ h9)))) hown hK hP 0 rfl rfl 0 (by decide) (hts (.fieldLink RX11 10 "JudoHall" "book" "LJudoHall$Book;") (List.mem_cons_of_mem _ (List.mem_append_left _ (List.mem_of_getElem? (i := 0) rfl)))) (fun _ h9 => h9) rfl dX11_rest_34 ?_
      refine lv_iconst (v := 1) hx hb dX11_rest_37 (by decide) ?_
      refine vp_callSi (va_Run.run (va_runV (As := [.int 1]) (rest := []) ⟨hx, hb, hml, hown, hts⟩ (c_Book_at l G bk ca 2088 bk0 (.ref bc) (.ref bb) (.ref bs) (.int 0) (.int 1) 1 (by decide)) (cwV 1 hts (gdV (List.mem_cons_of_mem _ (List.mem_append_left _ (List.mem_of_getElem? (i := 8) rfl))) (List.mem_cons_of_mem _ (List.mem_append_left _ (List.mem_of_getElem? (i := 9) rfl))) (List.mem_cons_of_mem _ (List.mem_append_left _ (List.mem_of_getElem? (i := 10) rfl))) (List.mem_cons_of_mem _ (List.mem_append_left _ (List.mem_of_getElem? (i := 4) rfl))) (fun w9 h9 => ⟨(List.mem_cons_of_mem _ (List.mem_append_right _ (List.mem_append_right _ (List.mem_append_right _ (List.mem_append_right _ (List.mem_append_left _ h9)))))), gd_c_Book_at w9 h9⟩)) rfl rfl rfl kVX1_at ⟨Nat.le_of_ble_eq_true rfl, Nat.le_of_ble_eq_true rfl⟩) (preV_p (As := [.int 1]) (hP.sub (ws' := [(bk, .inr (2, [.ref ca, .ref bc, .ref bb, .ref bs, .int 0, .int 1])), (ca, .inl (gI G, 2088, .inl bk0))]) [6, 1] rfl) hB rfl rfl) rfl rfl hl.1 rfl (lv_room (Nat.le_of_ble_eq_true rfl)) dX11_rest_38 ⟨Nat.le_of_ble_eq_true rfl, Nat.le_of_ble_eq_true rfl⟩)) (fun r_5 hr_5 => ?_)
      have hr_5 : r_5 = 10 := hr_5.trans (by decide +kernel)
      subst hr_5
      refine lv_istore_n (lv' := [(2, .int 10), (0, .ref jh), (1, .int x)]) hx hb dX11_rest_41 rfl hl (by decide) rfl (fun ls hl => ?_)
      refine lv_aload_n hx hb dX11_rest_42 rfl (lv_at hl 1 rfl) ?_
      refine va_get (D := gD G) (ci := 12) (v := .ref bk) (C := RX11) (T := TX11) (N := 11) hx hb hts (fun _ h9 => (List.mem_cons_of_mem _ (List.mem_append_right _ (List.mem_append_left _ h9)))) hown hK hP 0 rfl rfl 0 (by decide) (hts (.fieldLink RX11 10 "JudoHall" "book" "LJudoHall$Book;") (List.mem_cons_of_mem _ (List.mem_append_left _ (List.mem_of_getElem? (i := 0) rfl)))) (fun _ h9 => h9) rfl dX11_rest_43 ?_
      refine lv_iconst (v := 1) hx hb dX11_rest_46 (by decide) ?_
      refine lv_iload_n hx hb dX11_rest_47 rfl (lv_at hl 2 rfl) ?_
      have hPc := hP.sub (ws' := [(bk, .inr (2, [.ref ca, .ref bc, .ref bb, .ref bs, .int 0, .int 1])), (ca, .inl (gI G, 2088, .inl bk0)), (bc, .inr (10, [.ref bc2])), (bc2, .inl (gI G, 512, .inl (fl 512 0 (fun _ => 0)))), (bb, .inr (10, [.ref bb2])), (bb2, .inl (gI G, 512, .inl (fl 512 0 (fun _ => 0))))]) [6, 1, 2, 3, 4, 5] rfl
      have hDc := hD.sub (ws' := [(bk, .inr (2, [.ref ca, .ref bc, .ref bb, .ref bs, .int 0, .int 1])), (ca, .inl (gI G, 2088, .inl bk0)), (bc, .inr (10, [.ref bc2])), (bc2, .inl (gI G, 512, .inl (fl 512 0 (fun _ => 0)))), (bb, .inr (10, [.ref bb2])), (bb2, .inl (gI G, 512, .inl (fl 512 0 (fun _ => 0))))]) [6, 1, 2, 3, 4, 5] (by decide) rfl
      have hFc := va_free (wc := [(bk, .inr (2, [.ref ca, .ref bc, .ref bb, .ref bs, .int 0, .int 1])), (ca, .inl (gI G, 2088, .inl bk0)), (bc, .inr (10, [.ref bc2])), (bc2, .inl (gI G, 512, .inl (fl 512 0 (fun _ => 0)))), (bb, .inr (10, [.ref bb2])), (bb2, .inl (gI G, 512, .inl (fl 512 0 (fun _ => 0))))]) hD hS hA [6, 1, 2, 3, 4, 5] rfl
      refine va_callv (va_runV (As := [.int 1, .int x]) (rest := []) ⟨hx, hb, hml, hown, hts⟩ (c_put l G bk ca bc bc2 bb bb2 (.ref bs) (.int 1) bk0 (fl 512 0 (fun _ => 0)) (fl 512 0 (fun _ => 0)) 0 1 x H.size (by omega)) (cwV 2 hts (gdV (List.mem_cons_of_mem _ (List.mem_append_left _ (List.mem_of_getElem? (i := 11) rfl))) (List.mem_cons_of_mem _ (List.mem_append_left _ (List.mem_of_getElem? (i := 12) rfl))) (List.mem_cons_of_mem _ (List.mem_append_left _ (List.mem_of_getElem? (i := 13) rfl))) (List.mem_cons_of_mem _ (List.mem_append_left _ (List.mem_of_getElem? (i := 4) rfl))) (fun w9 h9 => ⟨(List.mem_cons_of_mem _ (List.mem_append_right _ (List.mem_append_right _ (List.mem_append_right _ (List.mem_append_right _ (List.mem_append_right _ (List.mem_append_left _ h9))))))), gd_c_put w9 h9⟩)) rfl rfl rfl kVX1_put ⟨Nat.le_of_ble_eq_true rfl, Nat.le_of_ble_eq_true rfl⟩) (preV_m (As := [.int 1, .int x]) hPc hB hDc rfl rfl) rfl rfl hl.1 rfl (lv_room (Nat.le_of_ble_eq_true rfl)) dX11_rest_48 ⟨Nat.le_of_ble_eq_true rfl, Nat.le_of_ble_eq_true rfl⟩) hS (fun q _ h => hFc q h) hFc (fun u t H1 locs ht hvm hw hB1 hz1 hk1 hS => ?_)
      obtain ⟨q_7, q_8, q_9, q_10, hP1, hD1, hw2⟩ := hB1
      rw [ht] at hP1
      obtain ⟨hP, hD⟩ := va_join (wr := [(jh, .inr (12, [.ref bk, .ref tp, .ref ps, .ref rl, u1, .ref bd, .ref fr, u2, .ref pn, .ref nl, u3]))]) (w1 := [(bk, .inr (2, [.ref ca, .ref bc, .ref bb, .ref bs, .int (nI q_7), .int 1])), (ca, .inl (gI G, 2088, .inl q_8)), (bc, .inr (10, [.ref bc2])), (bc2, .inl (gI G, 512, .inl q_9)), (bb, .inr (10, [.ref bb2])), (bb2, .inl (gI G, 512, .inl q_10))]) hP hD [6, 1, 2, 3, 4, 5] [0] rfl rfl (by decide) (by decide) hk1 hFc hP1 hD1
      generalize H1 = H at hP hS ⊢
      have w_11 := hw2
      have hP : va_P (gD G) vwCl [(jh, .inr (12, [.ref bk, .ref tp, .ref ps, .ref rl, u1, .ref bd, .ref fr, u2, .ref pn, .ref nl, u3])), (bk, .inr (2, [.ref ca, .ref bc, .ref bb, .ref bs, .int (nI q_7), .int 1])), (ca, .inl (gI G, 2088, .inl q_8)), (bc, .inr (10, [.ref bc2])), (bc2, .inl (gI G, 512, .inl q_9)), (bb, .inr (10, [.ref bb2])), (bb2, .inl (gI G, 512, .inl q_10))] H := hP
      have hD : va_D A [(jh, .inr (12, [.ref bk, .ref tp, .ref ps, .ref rl, u1, .ref bd, .ref fr, u2, .ref pn, .ref nl, u3])), (bk, .inr (2, [.ref ca, .ref bc, .ref bb, .ref bs, .int (nI q_7), .int 1])), (ca, .inl (gI G, 2088, .inl q_8)), (bc, .inr (10, [.ref bc2])), (bc2, .inl (gI G, 512, .inl q_9)), (bb, .inr (10, [.ref bb2])), (bb2, .inl (gI G, 512, .inl q_10))] := hD
      refine W.eq (g2 := F0 m 51 ls []) rfl ?_
      refine lv_iload_n hx hb dX11_rest_51 rfl (lv_at hl 0 rfl) ?_
      have hP9 := hP.sub (ws' := []) [] rfl
      have hD9 := hD.sub (ws' := []) [] (by decide) rfl
      exact W.iret (v := 10) hx hb hr (fun t ht hW => ⟨⟨_, (), rfl, by rw [if_neg (show ¬ (x < 0 ∨ 120 < x) from (not_or.mpr ⟨c_1, (Int32.not_lt.mpr c_2)⟩))], by rw [ht]; exact hP9, hD9⟩, hS.F ht⟩) hS.2.2 dX11_rest_52
    · skip
      refine lv_bipush (v := (-2)) hx hb dX11_rest_10 (by decide) ?_
      have hP9 := hP.sub (ws' := []) [] rfl
      have hD9 := hD.sub (ws' := []) [] (by decide) rfl
      exact W.iret (v := (-2)) hx hb hr (fun t ht hW => ⟨⟨_, (), rfl, by rw [if_pos (show x < 0 ∨ 120 < x from (Or.inr (Int32.not_le.mp c_2)))], by rw [ht]; exact hP9, hD9⟩, hS.F ht⟩) hS.2.2 dX11_rest_12

def wo_q_begin : List Cond := [.fieldLink RX11 51 "JudoHall" "board" "LJudoHall$Board;", .methodLink RX11 222 yX0_has, .instanceMethod yX0_has, .selects RX0 yX0_has yX0_has, .initialized RX0]
def wq_q_begin : List Cond := .code yX11_begin cX11_begin 5 (some .int) :: (wo_q_begin ++ (wsX110 ++ (wq_c_Board_has ++ [])))
theorem gd_q_begin : ∀ w ∈ wq_q_begin, Gd w := List.forall_mem_cons.mpr ⟨Or.inl rfl, List.forall_mem_append.mpr ⟨gdl wo_q_begin (by decide +kernel), (List.forall_mem_append.mpr ⟨gd_wsX110, (List.forall_mem_append.mpr ⟨gd_c_Board_has, (fun _ h => absurd h List.not_mem_nil)⟩)⟩)⟩⟩
theorem in_q_begin : ∀ w ∈ wq_q_begin, w ∈ lw_tbl := List.forall_mem_cons.mpr ⟨List.mem_of_getElem? (i := 1235) (by decide +kernel), List.forall_mem_append.mpr ⟨inT wo_q_begin [560, 1214, 1215, 1216, 164] (by decide +kernel), (List.forall_mem_append.mpr ⟨in_wsX110, (List.forall_mem_append.mpr ⟨in_c_Board_has, (fun _ h => absurd h List.not_mem_nil)⟩)⟩)⟩⟩
set_option maxHeartbeats 4000000 in
set_option maxRecDepth 100000 in
theorem q_begin (l : Launch) (G : gG) (jh : Nat) (bk : Nat) (tp : Nat) (ps : Nat) (rl : Nat) (u1 : Value) (bd : Nat) (fr : Nat) (u2 : Value) (pn : Nat) (nl : Nat) (u3 : Value) (b1 : Value) (b2 : Value) (b3 : Value) (b4 : Value) (b5 : Value) (ca : Nat) (bc : Nat) (bb : Nat) (bs : Nat) (x : Int32) (y : Int32) (z : Int32) : Met l yX11_begin wq_q_begin ({ frames := 4, cells := 0, slots := 0, locals := 86 }) (va_Pc [.ref jh, .int x, .int y, .int z] (pP G [(jh, .inr (12, [.ref bk, .ref tp, .ref ps, .ref rl, u1, .ref bd, .ref fr, u2, .ref pn, .ref nl, u3])), (bd, .inr (1, [.ref bk, b1, b2, b3, b4, b5])), (bk, .inr (2, [.ref ca, .ref bc, .ref bb, .ref bs, .int 0, .int 0])), (ca, .inl (gI G, 2088, .inl bk0))])) (vp_Si (fun r : Int32 => r = (-2))) 0 0 (fun _ => False) := by
  refine Met.ofW (cc := cX11_begin) (maxL := 5) (ret := (some .int)) (by decide) rfl ?_
  intro p e s m args below meth c s₁ B hml hv
  obtain ⟨rfl, hP, hB⟩ := hv
  have hx := B.exec
  have hb := B.bytes
  have hr := B.returns
  have hts := atoms_spec (ws := wq_q_begin) B.pre
  have hown : s.vm.findClass RX11 = some m.cls := findClass_of_methodNamed B.named
  have hlocks := B.notSynchronized
  have hK := hB.1
  have hP : va_P (gD G) vwCl [(jh, .inr (12, [.ref bk, .ref tp, .ref ps, .ref rl, u1, .ref bd, .ref fr, u2, .ref pn, .ref nl, u3])), (bd, .inr (1, [.ref bk, b1, b2, b3, b4, b5])), (bk, .inr (2, [.ref ca, .ref bc, .ref bb, .ref bs, .int 0, .int 0])), (ca, .inl (gI G, 2088, .inl bk0))] s.heap := hP
  have hl := lv_entry ([.ref jh, .int x, .int y, .int z]) (n := 5) (Nat.le_of_ble_eq_true rfl)
  rw [lg_entry_eq]
  generalize (lg_sl ([.ref jh, .int x, .int y, .int z]) ++ List.replicate (5 - (lg_sl ([.ref jh, .int x, .int y, .int z])).length) Slot.unset).toArray = ls at hl ⊢
  have hl : lv_has ls 5 [(0, .ref jh), (1, .int x), (2, .int y), (3, .int z)] := hl
  refine lv_aload_n hx hb dX11_begin_0 rfl (lv_at hl 0 rfl) ?_
  refine va_get (D := gD G) (ci := 12) (v := .ref bd) (C := RX11) (T := TX11) (N := 11) hx hb hts (fun _ h9 => (List.mem_cons_of_mem _ (List.mem_append_right _ (List.mem_append_left _ h9)))) hown hK hP 0 rfl rfl 5 (by decide) (hts (.fieldLink RX11 51 "JudoHall" "board" "LJudoHall$Board;") (List.mem_cons_of_mem _ (List.mem_append_left _ (List.mem_of_getElem? (i := 0) rfl)))) (fun _ h9 => h9) rfl dX11_begin_1 ?_
  refine lv_iload_n hx hb dX11_begin_4 rfl (lv_at hl 1 rfl) ?_
  refine lv_iload_n hx hb dX11_begin_5 rfl (lv_at hl 2 rfl) ?_
  refine vp_callSi (va_Run.run (va_runV (As := [.int x, .int y]) (rest := []) ⟨hx, hb, hml, hown, hts⟩ (c_Board_has l G bd bk b1 b2 b3 b4 b5 ca (.ref bc) (.ref bb) (.ref bs) (.int 0) (.int 0) x y) (cwV 2 hts (gdV (List.mem_cons_of_mem _ (List.mem_append_left _ (List.mem_of_getElem? (i := 1) rfl))) (List.mem_cons_of_mem _ (List.mem_append_left _ (List.mem_of_getElem? (i := 2) rfl))) (List.mem_cons_of_mem _ (List.mem_append_left _ (List.mem_of_getElem? (i := 3) rfl))) (List.mem_cons_of_mem _ (List.mem_append_left _ (List.mem_of_getElem? (i := 4) rfl))) (fun w9 h9 => ⟨(List.mem_cons_of_mem _ (List.mem_append_right _ (List.mem_append_right _ (List.mem_append_left _ h9)))), gd_c_Board_has w9 h9⟩)) rfl rfl rfl kVX0_has ⟨Nat.le_of_ble_eq_true rfl, Nat.le_of_ble_eq_true rfl⟩) (preV_p (As := [.int x, .int y]) (hP.sub (ws' := [(bd, .inr (1, [.ref bk, b1, b2, b3, b4, b5])), (bk, .inr (2, [.ref ca, .ref bc, .ref bb, .ref bs, .int 0, .int 0])), (ca, .inl (gI G, 2088, .inl bk0))]) [1, 2, 3] rfl) hB rfl rfl) rfl rfl hl.1 rfl (lv_room (Nat.le_of_ble_eq_true rfl)) dX11_begin_6 ⟨Nat.le_of_ble_eq_true rfl, Nat.le_of_ble_eq_true rfl⟩)) (fun r_1 hr_1 => ?_)
  subst hr_1
  refine lv_if_eq (tgt := 19) hx hb dX11_begin_9 (by decide) (fun _ => ?_) (fun c9 => absurd (by decide) c9)
  refine lv_bipush (v := (-2)) hx hb dX11_begin_19 (by decide) ?_
  exact W.iret (v := (-2)) hx hb hr (fun t ht hW => ⟨_, rfl, rfl, ht⟩) (fun q h => absurd h List.not_mem_nil) dX11_begin_21

def wo_q_event : List Cond := [.methodLink RX11 240 yX11_isMat, .static yX11_isMat, .initialized RX11, .methodLink RX11 260 yX11_isSide, .static yX11_isSide, .methodLink RX11 122 yX11_lawsNow, .instanceMethod yX11_lawsNow, .selects RX11 yX11_lawsNow yX11_lawsNow]
def wq_q_event : List Cond := .code yX11_event cX11_event 5 (some .int) :: (wo_q_event ++ (wq_c_isMat ++ (wq_c_isSide ++ (wq_c_lawsNow ++ (wsX40 ++ [])))))
theorem gd_q_event : ∀ w ∈ wq_q_event, Gd w := List.forall_mem_cons.mpr ⟨Or.inl rfl, List.forall_mem_append.mpr ⟨gdl wo_q_event (by decide +kernel), (List.forall_mem_append.mpr ⟨gd_c_isMat, (List.forall_mem_append.mpr ⟨gd_c_isSide, (List.forall_mem_append.mpr ⟨gd_c_lawsNow, (List.forall_mem_append.mpr ⟨gd_wsX40, (fun _ h => absurd h List.not_mem_nil)⟩)⟩)⟩)⟩)⟩⟩
theorem in_q_event : ∀ w ∈ wq_q_event, w ∈ lw_tbl := List.forall_mem_cons.mpr ⟨List.mem_of_getElem? (i := 1264) (by decide +kernel), List.forall_mem_append.mpr ⟨inT wo_q_event [1236, 1237, 154, 1265, 1266, 962, 964, 34] (by decide +kernel), (List.forall_mem_append.mpr ⟨in_c_isMat, (List.forall_mem_append.mpr ⟨in_c_isSide, (List.forall_mem_append.mpr ⟨in_c_lawsNow, (List.forall_mem_append.mpr ⟨in_wsX40, (fun _ h => absurd h List.not_mem_nil)⟩)⟩)⟩)⟩)⟩⟩
set_option maxHeartbeats 4000000 in
set_option maxRecDepth 100000 in
theorem q_event (l : Launch) (G : gG) (jh : Nat) (bk : Nat) (tp : Nat) (ps : Nat) (rl : Nat) (u1 : Value) (bd : Nat) (fr : Nat) (u2 : Value) (pn : Nat) (nl : Nat) (u3 : Value) (ca : Nat) (bc : Nat) (bb : Nat) (bs : Nat) (l1 : Value) (l2 : Value) (l3 : Value) (x : Int32) (y : Int32) (z : Int32) : Met l yX11_event wq_q_event ({ frames := 2, cells := 0, slots := 0, locals := 42 }) (va_Pc [.ref jh, .int x, .int y, .int z] (pP G [(jh, .inr (12, [.ref bk, .ref tp, .ref ps, .ref rl, u1, .ref bd, .ref fr, u2, .ref pn, .ref nl, u3])), (bk, .inr (2, [.ref ca, .ref bc, .ref bb, .ref bs, .int 0, .int 0])), (ca, .inl (gI G, 2088, .inl bk0)), (nl, .inr (5, [.int 0, .int 0, .int 0, .int 0, .int 0, .int 0, l1, l2, l3]))])) (vp_Si (fun r : Int32 => r = (-2))) 0 0 (fun _ => False) := by
  refine Met.ofW (cc := cX11_event) (maxL := 5) (ret := (some .int)) (by decide) rfl ?_
  intro p e s m args below meth c s₁ B hml hv
  obtain ⟨rfl, hP, hB⟩ := hv
  have hx := B.exec
  have hb := B.bytes
  have hr := B.returns
  have hts := atoms_spec (ws := wq_q_event) B.pre
  have hown : s.vm.findClass RX11 = some m.cls := findClass_of_methodNamed B.named
  have hlocks := B.notSynchronized
  have hK := hB.1
  have hP : va_P (gD G) vwCl [(jh, .inr (12, [.ref bk, .ref tp, .ref ps, .ref rl, u1, .ref bd, .ref fr, u2, .ref pn, .ref nl, u3])), (bk, .inr (2, [.ref ca, .ref bc, .ref bb, .ref bs, .int 0, .int 0])), (ca, .inl (gI G, 2088, .inl bk0)), (nl, .inr (5, [.int 0, .int 0, .int 0, .int 0, .int 0, .int 0, l1, l2, l3]))] s.heap := hP
  have hl := lv_entry ([.ref jh, .int x, .int y, .int z]) (n := 5) (Nat.le_of_ble_eq_true rfl)
  rw [lg_entry_eq]
  generalize (lg_sl ([.ref jh, .int x, .int y, .int z]) ++ List.replicate (5 - (lg_sl ([.ref jh, .int x, .int y, .int z])).length) Slot.unset).toArray = ls at hl ⊢
  have hl : lv_has ls 5 [(0, .ref jh), (1, .int x), (2, .int y), (3, .int z)] := hl
  refine lv_iload_n hx hb dX11_event_0 rfl (lv_at hl 1 rfl) ?_
  refine vp_callSi (va_Run.run (va_runS (As := [.int x]) (rest := []) ⟨hx, hb, hml, hown, hts⟩ (c_isMat l G x) (va_cwS 1 hts (gdS (List.mem_cons_of_mem _ (List.mem_append_left _ (List.mem_of_getElem? (i := 0) rfl))) (List.mem_cons_of_mem _ (List.mem_append_left _ (List.mem_of_getElem? (i := 1) rfl))) (List.mem_cons_of_mem _ (List.mem_append_left _ (List.mem_of_getElem? (i := 2) rfl))) (fun w9 h9 => ⟨(List.mem_cons_of_mem _ (List.mem_append_right _ (List.mem_append_left _ h9))), gd_c_isMat w9 h9⟩)) rfl rfl rfl kSX11_isMat ⟨Nat.le_of_ble_eq_true rfl, Nat.le_of_ble_eq_true rfl⟩) (preS_p (As := [.int x]) (hP.sub (ws' := []) [] rfl) hB) rfl rfl hl.1 rfl (lv_room (Nat.le_of_ble_eq_true rfl)) dX11_event_1 ⟨Nat.le_of_ble_eq_true rfl, Nat.le_of_ble_eq_true rfl⟩)) (fun r_1 hr_1 => ?_)
  by_cases c_2 : x < 0
  · have hr_1 : r_1 = 0 := hr_1.trans (by rw [if_pos (show x < 0 ∨ 4 ≤ x from (Or.inl c_2))])
    subst hr_1
    refine lv_if_eq (tgt := 29) hx hb dX11_event_4 (by decide) (fun _ => ?_) (fun c9 => absurd (by decide) c9)
    refine lv_bipush (v := (-2)) hx hb dX11_event_29 (by decide) ?_
    exact W.iret (v := (-2)) hx hb hr (fun t ht hW => ⟨_, rfl, rfl, ht⟩) (fun q h => absurd h List.not_mem_nil) dX11_event_31
  by_cases c_3 : 4 ≤ x
  · have hr_1 : r_1 = 0 := hr_1.trans (by rw [if_pos (show x < 0 ∨ 4 ≤ x from (Or.inr c_3))])
    subst hr_1
    refine lv_if_eq (tgt := 29) hx hb dX11_event_4 (by decide) (fun _ => ?_) (fun c9 => absurd (by decide) c9)
    refine lv_bipush (v := (-2)) hx hb dX11_event_29 (by decide) ?_
    exact W.iret (v := (-2)) hx hb hr (fun t ht hW => ⟨_, rfl, rfl, ht⟩) (fun q h => absurd h List.not_mem_nil) dX11_event_31
  have hr_1 : r_1 = 1 := hr_1.trans (by rw [if_neg (show ¬ (x < 0 ∨ 4 ≤ x) from (not_or.mpr ⟨c_2, c_3⟩))])
  subst hr_1
  refine lv_if_eq (tgt := 29) hx hb dX11_event_4 (by decide) (fun c9 => absurd c9 (by decide)) (fun _ => ?_)
  refine lv_iload_n hx hb dX11_event_7 rfl (lv_at hl 2 rfl) ?_
  refine vp_callSi (va_Run.run (va_runS (As := [.int y]) (rest := []) ⟨hx, hb, hml, hown, hts⟩ (c_isSide l G y) (va_cwS 1 hts (gdS (List.mem_cons_of_mem _ (List.mem_append_left _ (List.mem_of_getElem? (i := 3) rfl))) (List.mem_cons_of_mem _ (List.mem_append_left _ (List.mem_of_getElem? (i := 4) rfl))) (List.mem_cons_of_mem _ (List.mem_append_left _ (List.mem_of_getElem? (i := 2) rfl))) (fun w9 h9 => ⟨(List.mem_cons_of_mem _ (List.mem_append_right _ (List.mem_append_right _ (List.mem_append_left _ h9)))), gd_c_isSide w9 h9⟩)) rfl rfl rfl kSX11_isSide ⟨Nat.le_of_ble_eq_true rfl, Nat.le_of_ble_eq_true rfl⟩) (preS_p (As := [.int y]) (hP.sub (ws' := []) [] rfl) hB) rfl rfl hl.1 rfl (lv_room (Nat.le_of_ble_eq_true rfl)) dX11_event_8 ⟨Nat.le_of_ble_eq_true rfl, Nat.le_of_ble_eq_true rfl⟩)) (fun r_4 hr_4 => ?_)
  by_cases c_5 : y = 0
  · have hr_4 : r_4 = 1 := hr_4.trans (by rw [if_pos (show y = 0 ∨ y = 1 from (Or.inl c_5))])
    subst hr_4
    refine lv_if_eq (tgt := 29) hx hb dX11_event_11 (by decide) (fun c9 => absurd c9 (by decide)) (fun _ => ?_)
    refine lv_iload_n hx hb dX11_event_14 rfl (lv_at hl 3 rfl) ?_
    refine lv_if_lt (tgt := 29) hx hb dX11_event_15 (by decide) (fun c_6 => ?_) (fun c_6 => ?_)
    · skip
      refine lv_bipush (v := (-2)) hx hb dX11_event_29 (by decide) ?_
      exact W.iret (v := (-2)) hx hb hr (fun t ht hW => ⟨_, rfl, rfl, ht⟩) (fun q h => absurd h List.not_mem_nil) dX11_event_31
    · skip
      refine lv_iload_n hx hb dX11_event_18 rfl (lv_at hl 3 rfl) ?_
      refine lv_aload_n hx hb dX11_event_19 rfl (lv_at hl 0 rfl) ?_
      refine va_csr (va_Run.run (va_runV (As := []) (rest := [.int z]) ⟨hx, hb, hml, hown, hts⟩ (c_lawsNow l G jh bk tp ps rl u1 bd fr u2 pn nl u3 ca bc bb bs l1 l2 l3) (cwV 0 hts (gdV (List.mem_cons_of_mem _ (List.mem_append_left _ (List.mem_of_getElem? (i := 5) rfl))) (List.mem_cons_of_mem _ (List.mem_append_left _ (List.mem_of_getElem? (i := 6) rfl))) (List.mem_cons_of_mem _ (List.mem_append_left _ (List.mem_of_getElem? (i := 7) rfl))) (List.mem_cons_of_mem _ (List.mem_append_left _ (List.mem_of_getElem? (i := 2) rfl))) (fun w9 h9 => ⟨(List.mem_cons_of_mem _ (List.mem_append_right _ (List.mem_append_right _ (List.mem_append_right _ (List.mem_append_left _ h9))))), gd_c_lawsNow w9 h9⟩)) rfl rfl rfl kVX11_lawsNow ⟨Nat.le_of_ble_eq_true rfl, Nat.le_of_ble_eq_true rfl⟩) (preV_p (As := []) (hP.sub (ws' := [(jh, .inr (12, [.ref bk, .ref tp, .ref ps, .ref rl, u1, .ref bd, .ref fr, u2, .ref pn, .ref nl, u3])), (bk, .inr (2, [.ref ca, .ref bc, .ref bb, .ref bs, .int 0, .int 0])), (ca, .inl (gI G, 2088, .inl bk0)), (nl, .inr (5, [.int 0, .int 0, .int 0, .int 0, .int 0, .int 0, l1, l2, l3]))]) [0, 1, 2, 3] rfl) hB rfl rfl) rfl rfl hl.1 rfl (lv_room (Nat.le_of_ble_eq_true rfl)) dX11_event_20 ⟨Nat.le_of_ble_eq_true rfl, Nat.le_of_ble_eq_true rfl⟩)) (fun _ _ => ?_)
      refine W.eq (g2 := F0 m 23 ls [.ref nl, .int z]) rfl ?_
      refine va_getN (D := gD G) (ci := 5) (v := .int 0) (C := RX4) (T := TX4) (N := 9) hx hb hts (fun _ h9 => (List.mem_cons_of_mem _ (List.mem_append_right _ (List.mem_append_right _ (List.mem_append_right _ (List.mem_append_right _ (List.mem_append_left _ h9))))))) hown hK hP 3 rfl rfl 2 (by decide) (hB.nf 5 rfl) (fun _ h9 => h9) rfl dX11_event_23 ?_
      refine lv_icmp_lt (tgt := 32) hx hb dX11_event_26 (by decide) (fun c9 => absurd c9 c_6) (fun _ => ?_)
      refine lv_bipush (v := (-2)) hx hb dX11_event_29 (by decide) ?_
      exact W.iret (v := (-2)) hx hb hr (fun t ht hW => ⟨_, rfl, rfl, ht⟩) (fun q h => absurd h List.not_mem_nil) dX11_event_31
  by_cases c_8 : y = 1
  · have hr_4 : r_4 = 1 := hr_4.trans (by rw [if_pos (show y = 0 ∨ y = 1 from (Or.inr c_8))])
    subst hr_4
    refine lv_if_eq (tgt := 29) hx hb dX11_event_11 (by decide) (fun c9 => absurd c9 (by decide)) (fun _ => ?_)
    refine lv_iload_n hx hb dX11_event_14 rfl (lv_at hl 3 rfl) ?_
    refine lv_if_lt (tgt := 29) hx hb dX11_event_15 (by decide) (fun c_9 => ?_) (fun c_9 => ?_)
    · skip
      refine lv_bipush (v := (-2)) hx hb dX11_event_29 (by decide) ?_
      exact W.iret (v := (-2)) hx hb hr (fun t ht hW => ⟨_, rfl, rfl, ht⟩) (fun q h => absurd h List.not_mem_nil) dX11_event_31
    · skip
      refine lv_iload_n hx hb dX11_event_18 rfl (lv_at hl 3 rfl) ?_
      refine lv_aload_n hx hb dX11_event_19 rfl (lv_at hl 0 rfl) ?_
      refine va_csr (va_Run.run (va_runV (As := []) (rest := [.int z]) ⟨hx, hb, hml, hown, hts⟩ (c_lawsNow l G jh bk tp ps rl u1 bd fr u2 pn nl u3 ca bc bb bs l1 l2 l3) (cwV 0 hts (gdV (List.mem_cons_of_mem _ (List.mem_append_left _ (List.mem_of_getElem? (i := 5) rfl))) (List.mem_cons_of_mem _ (List.mem_append_left _ (List.mem_of_getElem? (i := 6) rfl))) (List.mem_cons_of_mem _ (List.mem_append_left _ (List.mem_of_getElem? (i := 7) rfl))) (List.mem_cons_of_mem _ (List.mem_append_left _ (List.mem_of_getElem? (i := 2) rfl))) (fun w9 h9 => ⟨(List.mem_cons_of_mem _ (List.mem_append_right _ (List.mem_append_right _ (List.mem_append_right _ (List.mem_append_left _ h9))))), gd_c_lawsNow w9 h9⟩)) rfl rfl rfl kVX11_lawsNow ⟨Nat.le_of_ble_eq_true rfl, Nat.le_of_ble_eq_true rfl⟩) (preV_p (As := []) (hP.sub (ws' := [(jh, .inr (12, [.ref bk, .ref tp, .ref ps, .ref rl, u1, .ref bd, .ref fr, u2, .ref pn, .ref nl, u3])), (bk, .inr (2, [.ref ca, .ref bc, .ref bb, .ref bs, .int 0, .int 0])), (ca, .inl (gI G, 2088, .inl bk0)), (nl, .inr (5, [.int 0, .int 0, .int 0, .int 0, .int 0, .int 0, l1, l2, l3]))]) [0, 1, 2, 3] rfl) hB rfl rfl) rfl rfl hl.1 rfl (lv_room (Nat.le_of_ble_eq_true rfl)) dX11_event_20 ⟨Nat.le_of_ble_eq_true rfl, Nat.le_of_ble_eq_true rfl⟩)) (fun _ _ => ?_)
      refine W.eq (g2 := F0 m 23 ls [.ref nl, .int z]) rfl ?_
      refine va_getN (D := gD G) (ci := 5) (v := .int 0) (C := RX4) (T := TX4) (N := 9) hx hb hts (fun _ h9 => (List.mem_cons_of_mem _ (List.mem_append_right _ (List.mem_append_right _ (List.mem_append_right _ (List.mem_append_right _ (List.mem_append_left _ h9))))))) hown hK hP 3 rfl rfl 2 (by decide) (hB.nf 5 rfl) (fun _ h9 => h9) rfl dX11_event_23 ?_
      refine lv_icmp_lt (tgt := 32) hx hb dX11_event_26 (by decide) (fun c9 => absurd c9 c_9) (fun _ => ?_)
      refine lv_bipush (v := (-2)) hx hb dX11_event_29 (by decide) ?_
      exact W.iret (v := (-2)) hx hb hr (fun t ht hW => ⟨_, rfl, rfl, ht⟩) (fun q h => absurd h List.not_mem_nil) dX11_event_31
  have hr_4 : r_4 = 0 := hr_4.trans (by rw [if_neg (show ¬ (y = 0 ∨ y = 1) from (not_or.mpr ⟨c_5, c_8⟩))])
  subst hr_4
  refine lv_if_eq (tgt := 29) hx hb dX11_event_11 (by decide) (fun _ => ?_) (fun c9 => absurd (by decide) c9)
  refine lv_bipush (v := (-2)) hx hb dX11_event_29 (by decide) ?_
  exact W.iret (v := (-2)) hx hb hr (fun t ht hW => ⟨_, rfl, rfl, ht⟩) (fun q h => absurd h List.not_mem_nil) dX11_event_31

def wo_q_tick : List Cond := [.methodLink RX11 240 yX11_isMat, .static yX11_isMat, .initialized RX11, .fieldLink RX11 60 "JudoHall" "floor" "LJudoHall$Floor;", .methodLink RX11 266 yX3_goesOn, .instanceMethod yX3_goesOn, .selects RX3 yX3_goesOn yX3_goesOn, .initialized RX3]
def wq_q_tick : List Cond := .code yX11_tick cX11_tick 4 (some .int) :: (wo_q_tick ++ (wq_c_isMat ++ (wsX110 ++ (wq_c_goesOn ++ []))))
theorem gd_q_tick : ∀ w ∈ wq_q_tick, Gd w := List.forall_mem_cons.mpr ⟨Or.inl rfl, List.forall_mem_append.mpr ⟨gdl wo_q_tick (by decide +kernel), (List.forall_mem_append.mpr ⟨gd_c_isMat, (List.forall_mem_append.mpr ⟨gd_wsX110, (List.forall_mem_append.mpr ⟨gd_c_goesOn, (fun _ h => absurd h List.not_mem_nil)⟩)⟩)⟩)⟩⟩
theorem in_q_tick : ∀ w ∈ wq_q_tick, w ∈ lw_tbl := List.forall_mem_cons.mpr ⟨List.mem_of_getElem? (i := 1335) (by decide +kernel), List.forall_mem_append.mpr ⟨inT wo_q_tick [1236, 1237, 154, 561, 1268, 1269, 1270, 165] (by decide +kernel), (List.forall_mem_append.mpr ⟨in_c_isMat, (List.forall_mem_append.mpr ⟨in_wsX110, (List.forall_mem_append.mpr ⟨in_c_goesOn, (fun _ h => absurd h List.not_mem_nil)⟩)⟩)⟩)⟩⟩
set_option maxHeartbeats 4000000 in
set_option maxRecDepth 100000 in
theorem q_tick (l : Launch) (G : gG) (jh : Nat) (bk : Nat) (tp : Nat) (ps : Nat) (rl : Nat) (u1 : Value) (bd : Nat) (fr : Nat) (u2 : Value) (pn : Nat) (nl : Nat) (u3 : Value) (f1 : Value) (ca : Nat) (bc : Nat) (bb : Nat) (bs : Nat) (x : Int32) (y : Int32) : Met l yX11_tick wq_q_tick ({ frames := 4, cells := 0, slots := 0, locals := 85 }) (va_Pc [.ref jh, .int x, .int y] (pP G [(jh, .inr (12, [.ref bk, .ref tp, .ref ps, .ref rl, u1, .ref bd, .ref fr, u2, .ref pn, .ref nl, u3])), (fr, .inr (4, [.ref bk, .ref bd, f1, .int 0])), (bk, .inr (2, [.ref ca, .ref bc, .ref bb, .ref bs, .int 0, .int 0])), (ca, .inl (gI G, 2088, .inl bk0))])) (vp_Si (fun r : Int32 => r = if x < 0 ∨ 4 ≤ x ∨ y < 1 ∨ 9999 < y then (-2) else (-3))) 0 0 (fun _ => False) := by
  refine Met.ofW (cc := cX11_tick) (maxL := 4) (ret := (some .int)) (by decide) rfl ?_
  intro p e s m args below meth c s₁ B hml hv
  obtain ⟨rfl, hP, hB⟩ := hv
  have hx := B.exec
  have hb := B.bytes
  have hr := B.returns
  have hts := atoms_spec (ws := wq_q_tick) B.pre
  have hown : s.vm.findClass RX11 = some m.cls := findClass_of_methodNamed B.named
  have hlocks := B.notSynchronized
  have hK := hB.1
  have hP : va_P (gD G) vwCl [(jh, .inr (12, [.ref bk, .ref tp, .ref ps, .ref rl, u1, .ref bd, .ref fr, u2, .ref pn, .ref nl, u3])), (fr, .inr (4, [.ref bk, .ref bd, f1, .int 0])), (bk, .inr (2, [.ref ca, .ref bc, .ref bb, .ref bs, .int 0, .int 0])), (ca, .inl (gI G, 2088, .inl bk0))] s.heap := hP
  have hl := lv_entry ([.ref jh, .int x, .int y]) (n := 4) (Nat.le_of_ble_eq_true rfl)
  rw [lg_entry_eq]
  generalize (lg_sl ([.ref jh, .int x, .int y]) ++ List.replicate (4 - (lg_sl ([.ref jh, .int x, .int y])).length) Slot.unset).toArray = ls at hl ⊢
  have hl : lv_has ls 4 [(0, .ref jh), (1, .int x), (2, .int y)] := hl
  refine lv_iload_n hx hb dX11_tick_0 rfl (lv_at hl 1 rfl) ?_
  refine vp_callSi (va_Run.run (va_runS (As := [.int x]) (rest := []) ⟨hx, hb, hml, hown, hts⟩ (c_isMat l G x) (va_cwS 1 hts (gdS (List.mem_cons_of_mem _ (List.mem_append_left _ (List.mem_of_getElem? (i := 0) rfl))) (List.mem_cons_of_mem _ (List.mem_append_left _ (List.mem_of_getElem? (i := 1) rfl))) (List.mem_cons_of_mem _ (List.mem_append_left _ (List.mem_of_getElem? (i := 2) rfl))) (fun w9 h9 => ⟨(List.mem_cons_of_mem _ (List.mem_append_right _ (List.mem_append_left _ h9))), gd_c_isMat w9 h9⟩)) rfl rfl rfl kSX11_isMat ⟨Nat.le_of_ble_eq_true rfl, Nat.le_of_ble_eq_true rfl⟩) (preS_p (As := [.int x]) (hP.sub (ws' := []) [] rfl) hB) rfl rfl hl.1 rfl (lv_room (Nat.le_of_ble_eq_true rfl)) dX11_tick_1 ⟨Nat.le_of_ble_eq_true rfl, Nat.le_of_ble_eq_true rfl⟩)) (fun r_1 hr_1 => ?_)
  by_cases c_2 : x < 0
  · have hr_1 : r_1 = 0 := hr_1.trans (by rw [if_pos (show x < 0 ∨ 4 ≤ x from (Or.inl c_2))])
    subst hr_1
    refine lv_if_eq (tgt := 19) hx hb dX11_tick_4 (by decide) (fun _ => ?_) (fun c9 => absurd (by decide) c9)
    refine lv_bipush (v := (-2)) hx hb dX11_tick_19 (by decide) ?_
    exact W.iret (v := (-2)) hx hb hr (fun t ht hW => ⟨_, rfl, by rw [if_pos (show x < 0 ∨ 4 ≤ x ∨ y < 1 ∨ 9999 < y from (Or.inl c_2))], ht⟩) (fun q h => absurd h List.not_mem_nil) dX11_tick_21
  by_cases c_3 : 4 ≤ x
  · have hr_1 : r_1 = 0 := hr_1.trans (by rw [if_pos (show x < 0 ∨ 4 ≤ x from (Or.inr c_3))])
    subst hr_1
    refine lv_if_eq (tgt := 19) hx hb dX11_tick_4 (by decide) (fun _ => ?_) (fun c9 => absurd (by decide) c9)
    refine lv_bipush (v := (-2)) hx hb dX11_tick_19 (by decide) ?_
    exact W.iret (v := (-2)) hx hb hr (fun t ht hW => ⟨_, rfl, by rw [if_pos (show x < 0 ∨ 4 ≤ x ∨ y < 1 ∨ 9999 < y from (Or.inr (Or.inl c_3)))], ht⟩) (fun q h => absurd h List.not_mem_nil) dX11_tick_21
  have hr_1 : r_1 = 1 := hr_1.trans (by rw [if_neg (show ¬ (x < 0 ∨ 4 ≤ x) from (not_or.mpr ⟨c_2, c_3⟩))])
  subst hr_1
  refine lv_if_eq (tgt := 19) hx hb dX11_tick_4 (by decide) (fun c9 => absurd c9 (by decide)) (fun _ => ?_)
  refine lv_iload_n hx hb dX11_tick_7 rfl (lv_at hl 2 rfl) ?_
  refine lv_iconst (v := 1) hx hb dX11_tick_8 (by decide) ?_
  refine lv_icmp_lt (tgt := 19) hx hb dX11_tick_9 (by decide) (fun c_4 => ?_) (fun c_4 => ?_)
  · skip
    refine lv_bipush (v := (-2)) hx hb dX11_tick_19 (by decide) ?_
    exact W.iret (v := (-2)) hx hb hr (fun t ht hW => ⟨_, rfl, by rw [if_pos (show x < 0 ∨ 4 ≤ x ∨ y < 1 ∨ 9999 < y from (Or.inr (Or.inr (Or.inl c_4))))], ht⟩) (fun q h => absurd h List.not_mem_nil) dX11_tick_21
  · skip
    refine lv_iload_n hx hb dX11_tick_12 rfl (lv_at hl 2 rfl) ?_
    refine lv_sipush (v := 9999) hx hb dX11_tick_13 (by decide) ?_
    refine lv_icmp_le (tgt := 22) hx hb dX11_tick_16 (by decide) (fun c_5 => ?_) (fun c_5 => ?_)
    · skip
      refine lv_aload_n hx hb dX11_tick_22 rfl (lv_at hl 0 rfl) ?_
      refine va_get (D := gD G) (ci := 12) (v := .ref fr) (C := RX11) (T := TX11) (N := 11) hx hb hts (fun _ h9 => (List.mem_cons_of_mem _ (List.mem_append_right _ (List.mem_append_right _ (List.mem_append_left _ h9))))) hown hK hP 0 rfl rfl 6 (by decide) (hts (.fieldLink RX11 60 "JudoHall" "floor" "LJudoHall$Floor;") (List.mem_cons_of_mem _ (List.mem_append_left _ (List.mem_of_getElem? (i := 3) rfl)))) (fun _ h9 => h9) rfl dX11_tick_23 ?_
      refine lv_iload_n hx hb dX11_tick_26 rfl (lv_at hl 1 rfl) ?_
      refine vp_callSi (va_Run.run (va_runV (As := [.int x]) (rest := []) ⟨hx, hb, hml, hown, hts⟩ (c_goesOn l G fr bk (.ref bd) f1 (.int 0) ca (.ref bc) (.ref bb) (.ref bs) (.int 0) (.int 0) x (c_2) (c_3)) (cwV 1 hts (gdV (List.mem_cons_of_mem _ (List.mem_append_left _ (List.mem_of_getElem? (i := 4) rfl))) (List.mem_cons_of_mem _ (List.mem_append_left _ (List.mem_of_getElem? (i := 5) rfl))) (List.mem_cons_of_mem _ (List.mem_append_left _ (List.mem_of_getElem? (i := 6) rfl))) (List.mem_cons_of_mem _ (List.mem_append_left _ (List.mem_of_getElem? (i := 7) rfl))) (fun w9 h9 => ⟨(List.mem_cons_of_mem _ (List.mem_append_right _ (List.mem_append_right _ (List.mem_append_right _ (List.mem_append_left _ h9))))), gd_c_goesOn w9 h9⟩)) rfl rfl rfl kVX3_goesOn ⟨Nat.le_of_ble_eq_true rfl, Nat.le_of_ble_eq_true rfl⟩) (preV_p (As := [.int x]) (hP.sub (ws' := [(fr, .inr (4, [.ref bk, .ref bd, f1, .int 0])), (bk, .inr (2, [.ref ca, .ref bc, .ref bb, .ref bs, .int 0, .int 0])), (ca, .inl (gI G, 2088, .inl bk0))]) [1, 2, 3] rfl) hB rfl rfl) rfl rfl hl.1 rfl (lv_room (Nat.le_of_ble_eq_true rfl)) dX11_tick_27 ⟨Nat.le_of_ble_eq_true rfl, Nat.le_of_ble_eq_true rfl⟩)) (fun r_6 hr_6 => ?_)
      subst hr_6
      refine lv_if_ne (tgt := 36) hx hb dX11_tick_30 (by decide) (fun c9 => absurd (by decide) c9) (fun _ => ?_)
      refine lv_bipush (v := (-3)) hx hb dX11_tick_33 (by decide) ?_
      exact W.iret (v := (-3)) hx hb hr (fun t ht hW => ⟨_, rfl, by rw [if_neg (show ¬ (x < 0 ∨ 4 ≤ x ∨ y < 1 ∨ 9999 < y) from (not_or.mpr ⟨c_2, (not_or.mpr ⟨c_3, (not_or.mpr ⟨c_4, (Int32.not_lt.mpr c_5)⟩)⟩)⟩))], ht⟩) (fun q h => absurd h List.not_mem_nil) dX11_tick_35
    · skip
      refine lv_bipush (v := (-2)) hx hb dX11_tick_19 (by decide) ?_
      exact W.iret (v := (-2)) hx hb hr (fun t ht hW => ⟨_, rfl, by rw [if_pos (show x < 0 ∨ 4 ≤ x ∨ y < 1 ∨ 9999 < y from (Or.inr (Or.inr (Or.inr (Int32.not_le.mp c_5)))))], ht⟩) (fun q h => absurd h List.not_mem_nil) dX11_tick_21

def wo_q_decide : List Cond := [.methodLink RX11 240 yX11_isMat, .static yX11_isMat, .initialized RX11, .methodLink RX11 260 yX11_isSide, .static yX11_isSide, .fieldLink RX11 60 "JudoHall" "floor" "LJudoHall$Floor;", .methodLink RX11 286 yX3_waits, .instanceMethod yX3_waits, .selects RX3 yX3_waits yX3_waits, .initialized RX3]
def wq_q_decide : List Cond := .code yX11_decide cX11_decide 4 (some .int) :: (wo_q_decide ++ (wq_c_isMat ++ (wq_c_isSide ++ (wsX110 ++ (wq_c_waits ++ [])))))
theorem gd_q_decide : ∀ w ∈ wq_q_decide, Gd w := List.forall_mem_cons.mpr ⟨Or.inl rfl, List.forall_mem_append.mpr ⟨gdl wo_q_decide (by decide +kernel), (List.forall_mem_append.mpr ⟨gd_c_isMat, (List.forall_mem_append.mpr ⟨gd_c_isSide, (List.forall_mem_append.mpr ⟨gd_wsX110, (List.forall_mem_append.mpr ⟨gd_c_waits, (fun _ h => absurd h List.not_mem_nil)⟩)⟩)⟩)⟩)⟩⟩
theorem in_q_decide : ∀ w ∈ wq_q_decide, w ∈ lw_tbl := List.forall_mem_cons.mpr ⟨List.mem_of_getElem? (i := 1344) (by decide +kernel), List.forall_mem_append.mpr ⟨inT wo_q_decide [1236, 1237, 154, 1265, 1266, 561, 1345, 1346, 1347, 165] (by decide +kernel), (List.forall_mem_append.mpr ⟨in_c_isMat, (List.forall_mem_append.mpr ⟨in_c_isSide, (List.forall_mem_append.mpr ⟨in_wsX110, (List.forall_mem_append.mpr ⟨in_c_waits, (fun _ h => absurd h List.not_mem_nil)⟩)⟩)⟩)⟩)⟩⟩
set_option maxHeartbeats 4000000 in
set_option maxRecDepth 100000 in
theorem q_decide (l : Launch) (G : gG) (jh : Nat) (bk : Nat) (tp : Nat) (ps : Nat) (rl : Nat) (u1 : Value) (bd : Nat) (fr : Nat) (u2 : Value) (pn : Nat) (nl : Nat) (u3 : Value) (f1 : Value) (ca : Nat) (bc : Nat) (bb : Nat) (bs : Nat) (x : Int32) (y : Int32) : Met l yX11_decide wq_q_decide ({ frames := 4, cells := 0, slots := 0, locals := 85 }) (va_Pc [.ref jh, .int x, .int y] (pP G [(jh, .inr (12, [.ref bk, .ref tp, .ref ps, .ref rl, u1, .ref bd, .ref fr, u2, .ref pn, .ref nl, u3])), (fr, .inr (4, [.ref bk, .ref bd, f1, .int 0])), (bk, .inr (2, [.ref ca, .ref bc, .ref bb, .ref bs, .int 0, .int 0])), (ca, .inl (gI G, 2088, .inl bk0))])) (vp_Si (fun r : Int32 => r = if x < 0 ∨ 4 ≤ x then (-2) else if y = 0 ∨ y = 1 then (-3) else (-2))) 0 0 (fun _ => False) := by
  refine Met.ofW (cc := cX11_decide) (maxL := 4) (ret := (some .int)) (by decide) rfl ?_
  intro p e s m args below meth c s₁ B hml hv
  obtain ⟨rfl, hP, hB⟩ := hv
  have hx := B.exec
  have hb := B.bytes
  have hr := B.returns
  have hts := atoms_spec (ws := wq_q_decide) B.pre
  have hown : s.vm.findClass RX11 = some m.cls := findClass_of_methodNamed B.named
  have hlocks := B.notSynchronized
  have hK := hB.1
  have hP : va_P (gD G) vwCl [(jh, .inr (12, [.ref bk, .ref tp, .ref ps, .ref rl, u1, .ref bd, .ref fr, u2, .ref pn, .ref nl, u3])), (fr, .inr (4, [.ref bk, .ref bd, f1, .int 0])), (bk, .inr (2, [.ref ca, .ref bc, .ref bb, .ref bs, .int 0, .int 0])), (ca, .inl (gI G, 2088, .inl bk0))] s.heap := hP
  have hl := lv_entry ([.ref jh, .int x, .int y]) (n := 4) (Nat.le_of_ble_eq_true rfl)
  rw [lg_entry_eq]
  generalize (lg_sl ([.ref jh, .int x, .int y]) ++ List.replicate (4 - (lg_sl ([.ref jh, .int x, .int y])).length) Slot.unset).toArray = ls at hl ⊢
  have hl : lv_has ls 4 [(0, .ref jh), (1, .int x), (2, .int y)] := hl
  refine lv_iload_n hx hb dX11_decide_0 rfl (lv_at hl 1 rfl) ?_
  refine vp_callSi (va_Run.run (va_runS (As := [.int x]) (rest := []) ⟨hx, hb, hml, hown, hts⟩ (c_isMat l G x) (va_cwS 1 hts (gdS (List.mem_cons_of_mem _ (List.mem_append_left _ (List.mem_of_getElem? (i := 0) rfl))) (List.mem_cons_of_mem _ (List.mem_append_left _ (List.mem_of_getElem? (i := 1) rfl))) (List.mem_cons_of_mem _ (List.mem_append_left _ (List.mem_of_getElem? (i := 2) rfl))) (fun w9 h9 => ⟨(List.mem_cons_of_mem _ (List.mem_append_right _ (List.mem_append_left _ h9))), gd_c_isMat w9 h9⟩)) rfl rfl rfl kSX11_isMat ⟨Nat.le_of_ble_eq_true rfl, Nat.le_of_ble_eq_true rfl⟩) (preS_p (As := [.int x]) (hP.sub (ws' := []) [] rfl) hB) rfl rfl hl.1 rfl (lv_room (Nat.le_of_ble_eq_true rfl)) dX11_decide_1 ⟨Nat.le_of_ble_eq_true rfl, Nat.le_of_ble_eq_true rfl⟩)) (fun r_1 hr_1 => ?_)
  by_cases c_2 : x < 0
  · have hr_1 : r_1 = 0 := hr_1.trans (by rw [if_pos (show x < 0 ∨ 4 ≤ x from (Or.inl c_2))])
    subst hr_1
    refine lv_if_eq (tgt := 14) hx hb dX11_decide_4 (by decide) (fun _ => ?_) (fun c9 => absurd (by decide) c9)
    refine lv_bipush (v := (-2)) hx hb dX11_decide_14 (by decide) ?_
    exact W.iret (v := (-2)) hx hb hr (fun t ht hW => ⟨_, rfl, by rw [if_pos (show x < 0 ∨ 4 ≤ x from (Or.inl c_2))], ht⟩) (fun q h => absurd h List.not_mem_nil) dX11_decide_16
  by_cases c_3 : 4 ≤ x
  · have hr_1 : r_1 = 0 := hr_1.trans (by rw [if_pos (show x < 0 ∨ 4 ≤ x from (Or.inr c_3))])
    subst hr_1
    refine lv_if_eq (tgt := 14) hx hb dX11_decide_4 (by decide) (fun _ => ?_) (fun c9 => absurd (by decide) c9)
    refine lv_bipush (v := (-2)) hx hb dX11_decide_14 (by decide) ?_
    exact W.iret (v := (-2)) hx hb hr (fun t ht hW => ⟨_, rfl, by rw [if_pos (show x < 0 ∨ 4 ≤ x from (Or.inr c_3))], ht⟩) (fun q h => absurd h List.not_mem_nil) dX11_decide_16
  have hr_1 : r_1 = 1 := hr_1.trans (by rw [if_neg (show ¬ (x < 0 ∨ 4 ≤ x) from (not_or.mpr ⟨c_2, c_3⟩))])
  subst hr_1
  refine lv_if_eq (tgt := 14) hx hb dX11_decide_4 (by decide) (fun c9 => absurd c9 (by decide)) (fun _ => ?_)
  refine lv_iload_n hx hb dX11_decide_7 rfl (lv_at hl 2 rfl) ?_
  refine vp_callSi (va_Run.run (va_runS (As := [.int y]) (rest := []) ⟨hx, hb, hml, hown, hts⟩ (c_isSide l G y) (va_cwS 1 hts (gdS (List.mem_cons_of_mem _ (List.mem_append_left _ (List.mem_of_getElem? (i := 3) rfl))) (List.mem_cons_of_mem _ (List.mem_append_left _ (List.mem_of_getElem? (i := 4) rfl))) (List.mem_cons_of_mem _ (List.mem_append_left _ (List.mem_of_getElem? (i := 2) rfl))) (fun w9 h9 => ⟨(List.mem_cons_of_mem _ (List.mem_append_right _ (List.mem_append_right _ (List.mem_append_left _ h9)))), gd_c_isSide w9 h9⟩)) rfl rfl rfl kSX11_isSide ⟨Nat.le_of_ble_eq_true rfl, Nat.le_of_ble_eq_true rfl⟩) (preS_p (As := [.int y]) (hP.sub (ws' := []) [] rfl) hB) rfl rfl hl.1 rfl (lv_room (Nat.le_of_ble_eq_true rfl)) dX11_decide_8 ⟨Nat.le_of_ble_eq_true rfl, Nat.le_of_ble_eq_true rfl⟩)) (fun r_4 hr_4 => ?_)
  by_cases c_5 : y = 0
  · have hr_4 : r_4 = 1 := hr_4.trans (by rw [if_pos (show y = 0 ∨ y = 1 from (Or.inl c_5))])
    subst hr_4
    refine lv_if_ne (tgt := 17) hx hb dX11_decide_11 (by decide) (fun _ => ?_) (fun c9 => absurd c9 (by decide))
    refine lv_aload_n hx hb dX11_decide_17 rfl (lv_at hl 0 rfl) ?_
    refine va_get (D := gD G) (ci := 12) (v := .ref fr) (C := RX11) (T := TX11) (N := 11) hx hb hts (fun _ h9 => (List.mem_cons_of_mem _ (List.mem_append_right _ (List.mem_append_right _ (List.mem_append_right _ (List.mem_append_left _ h9)))))) hown hK hP 0 rfl rfl 6 (by decide) (hts (.fieldLink RX11 60 "JudoHall" "floor" "LJudoHall$Floor;") (List.mem_cons_of_mem _ (List.mem_append_left _ (List.mem_of_getElem? (i := 5) rfl)))) (fun _ h9 => h9) rfl dX11_decide_18 ?_
    refine lv_iload_n hx hb dX11_decide_21 rfl (lv_at hl 1 rfl) ?_
    refine vp_callSi (va_Run.run (va_runV (As := [.int x]) (rest := []) ⟨hx, hb, hml, hown, hts⟩ (c_waits l G fr bk (.ref bd) f1 (.int 0) ca (.ref bc) (.ref bb) (.ref bs) (.int 0) (.int 0) x (c_2) (c_3)) (cwV 1 hts (gdV (List.mem_cons_of_mem _ (List.mem_append_left _ (List.mem_of_getElem? (i := 6) rfl))) (List.mem_cons_of_mem _ (List.mem_append_left _ (List.mem_of_getElem? (i := 7) rfl))) (List.mem_cons_of_mem _ (List.mem_append_left _ (List.mem_of_getElem? (i := 8) rfl))) (List.mem_cons_of_mem _ (List.mem_append_left _ (List.mem_of_getElem? (i := 9) rfl))) (fun w9 h9 => ⟨(List.mem_cons_of_mem _ (List.mem_append_right _ (List.mem_append_right _ (List.mem_append_right _ (List.mem_append_right _ (List.mem_append_left _ h9)))))), gd_c_waits w9 h9⟩)) rfl rfl rfl kVX3_waits ⟨Nat.le_of_ble_eq_true rfl, Nat.le_of_ble_eq_true rfl⟩) (preV_p (As := [.int x]) (hP.sub (ws' := [(fr, .inr (4, [.ref bk, .ref bd, f1, .int 0])), (bk, .inr (2, [.ref ca, .ref bc, .ref bb, .ref bs, .int 0, .int 0])), (ca, .inl (gI G, 2088, .inl bk0))]) [1, 2, 3] rfl) hB rfl rfl) rfl rfl hl.1 rfl (lv_room (Nat.le_of_ble_eq_true rfl)) dX11_decide_22 ⟨Nat.le_of_ble_eq_true rfl, Nat.le_of_ble_eq_true rfl⟩)) (fun r_6 hr_6 => ?_)
    subst hr_6
    refine lv_if_ne (tgt := 31) hx hb dX11_decide_25 (by decide) (fun c9 => absurd (by decide) c9) (fun _ => ?_)
    refine lv_bipush (v := (-3)) hx hb dX11_decide_28 (by decide) ?_
    exact W.iret (v := (-3)) hx hb hr (fun t ht hW => ⟨_, rfl, by rw [if_neg (show ¬ (x < 0 ∨ 4 ≤ x) from (not_or.mpr ⟨c_2, c_3⟩)), if_pos (show y = 0 ∨ y = 1 from (Or.inl c_5))], ht⟩) (fun q h => absurd h List.not_mem_nil) dX11_decide_30
  by_cases c_7 : y = 1
  · have hr_4 : r_4 = 1 := hr_4.trans (by rw [if_pos (show y = 0 ∨ y = 1 from (Or.inr c_7))])
    subst hr_4
    refine lv_if_ne (tgt := 17) hx hb dX11_decide_11 (by decide) (fun _ => ?_) (fun c9 => absurd c9 (by decide))
    refine lv_aload_n hx hb dX11_decide_17 rfl (lv_at hl 0 rfl) ?_
    refine va_get (D := gD G) (ci := 12) (v := .ref fr) (C := RX11) (T := TX11) (N := 11) hx hb hts (fun _ h9 => (List.mem_cons_of_mem _ (List.mem_append_right _ (List.mem_append_right _ (List.mem_append_right _ (List.mem_append_left _ h9)))))) hown hK hP 0 rfl rfl 6 (by decide) (hts (.fieldLink RX11 60 "JudoHall" "floor" "LJudoHall$Floor;") (List.mem_cons_of_mem _ (List.mem_append_left _ (List.mem_of_getElem? (i := 5) rfl)))) (fun _ h9 => h9) rfl dX11_decide_18 ?_
    refine lv_iload_n hx hb dX11_decide_21 rfl (lv_at hl 1 rfl) ?_
    refine vp_callSi (va_Run.run (va_runV (As := [.int x]) (rest := []) ⟨hx, hb, hml, hown, hts⟩ (c_waits l G fr bk (.ref bd) f1 (.int 0) ca (.ref bc) (.ref bb) (.ref bs) (.int 0) (.int 0) x (c_2) (c_3)) (cwV 1 hts (gdV (List.mem_cons_of_mem _ (List.mem_append_left _ (List.mem_of_getElem? (i := 6) rfl))) (List.mem_cons_of_mem _ (List.mem_append_left _ (List.mem_of_getElem? (i := 7) rfl))) (List.mem_cons_of_mem _ (List.mem_append_left _ (List.mem_of_getElem? (i := 8) rfl))) (List.mem_cons_of_mem _ (List.mem_append_left _ (List.mem_of_getElem? (i := 9) rfl))) (fun w9 h9 => ⟨(List.mem_cons_of_mem _ (List.mem_append_right _ (List.mem_append_right _ (List.mem_append_right _ (List.mem_append_right _ (List.mem_append_left _ h9)))))), gd_c_waits w9 h9⟩)) rfl rfl rfl kVX3_waits ⟨Nat.le_of_ble_eq_true rfl, Nat.le_of_ble_eq_true rfl⟩) (preV_p (As := [.int x]) (hP.sub (ws' := [(fr, .inr (4, [.ref bk, .ref bd, f1, .int 0])), (bk, .inr (2, [.ref ca, .ref bc, .ref bb, .ref bs, .int 0, .int 0])), (ca, .inl (gI G, 2088, .inl bk0))]) [1, 2, 3] rfl) hB rfl rfl) rfl rfl hl.1 rfl (lv_room (Nat.le_of_ble_eq_true rfl)) dX11_decide_22 ⟨Nat.le_of_ble_eq_true rfl, Nat.le_of_ble_eq_true rfl⟩)) (fun r_8 hr_8 => ?_)
    subst hr_8
    refine lv_if_ne (tgt := 31) hx hb dX11_decide_25 (by decide) (fun c9 => absurd (by decide) c9) (fun _ => ?_)
    refine lv_bipush (v := (-3)) hx hb dX11_decide_28 (by decide) ?_
    exact W.iret (v := (-3)) hx hb hr (fun t ht hW => ⟨_, rfl, by rw [if_neg (show ¬ (x < 0 ∨ 4 ≤ x) from (not_or.mpr ⟨c_2, c_3⟩)), if_pos (show y = 0 ∨ y = 1 from (Or.inr c_7))], ht⟩) (fun q h => absurd h List.not_mem_nil) dX11_decide_30
  have hr_4 : r_4 = 0 := hr_4.trans (by rw [if_neg (show ¬ (y = 0 ∨ y = 1) from (not_or.mpr ⟨c_5, c_7⟩))])
  subst hr_4
  refine lv_if_ne (tgt := 17) hx hb dX11_decide_11 (by decide) (fun c9 => absurd (by decide) c9) (fun _ => ?_)
  refine lv_bipush (v := (-2)) hx hb dX11_decide_14 (by decide) ?_
  exact W.iret (v := (-2)) hx hb hr (fun t ht hW => ⟨_, rfl, by rw [if_neg (show ¬ (x < 0 ∨ 4 ≤ x) from (not_or.mpr ⟨c_2, c_3⟩)), if_neg (show ¬ (y = 0 ∨ y = 1) from (not_or.mpr ⟨c_5, c_7⟩))], ht⟩) (fun q h => absurd h List.not_mem_nil) dX11_decide_16

def wo_q_mat : List Cond := [.methodLink RX11 240 yX11_isMat, .static yX11_isMat, .initialized RX11, .fieldLink RX11 60 "JudoHall" "floor" "LJudoHall$Floor;", .methodLink RX11 243 yX3_isFree, .instanceMethod yX3_isFree, .selects RX3 yX3_isFree yX3_isFree, .initialized RX3]
def wq_q_mat : List Cond := .code yX11_mat cX11_mat 3 (some .int) :: (wo_q_mat ++ (wq_c_isMat ++ (wsX110 ++ (wq_c_isFree ++ []))))
theorem gd_q_mat : ∀ w ∈ wq_q_mat, Gd w := List.forall_mem_cons.mpr ⟨Or.inl rfl, List.forall_mem_append.mpr ⟨gdl wo_q_mat (by decide +kernel), (List.forall_mem_append.mpr ⟨gd_c_isMat, (List.forall_mem_append.mpr ⟨gd_wsX110, (List.forall_mem_append.mpr ⟨gd_c_isFree, (fun _ h => absurd h List.not_mem_nil)⟩)⟩)⟩)⟩⟩
theorem in_q_mat : ∀ w ∈ wq_q_mat, w ∈ lw_tbl := List.forall_mem_cons.mpr ⟨List.mem_of_getElem? (i := 1353) (by decide +kernel), List.forall_mem_append.mpr ⟨inT wo_q_mat [1236, 1237, 154, 561, 1239, 614, 615, 165] (by decide +kernel), (List.forall_mem_append.mpr ⟨in_c_isMat, (List.forall_mem_append.mpr ⟨in_wsX110, (List.forall_mem_append.mpr ⟨in_c_isFree, (fun _ h => absurd h List.not_mem_nil)⟩)⟩)⟩)⟩⟩
set_option maxHeartbeats 4000000 in
set_option maxRecDepth 100000 in
theorem q_mat (l : Launch) (G : gG) (jh : Nat) (bk : Nat) (tp : Nat) (ps : Nat) (rl : Nat) (u1 : Value) (bd : Nat) (fr : Nat) (u2 : Value) (pn : Nat) (nl : Nat) (u3 : Value) (f1 : Value) (ca : Nat) (bc : Nat) (bb : Nat) (bs : Nat) (x : Int32) (y : Int32) : Met l yX11_mat wq_q_mat ({ frames := 3, cells := 0, slots := 0, locals := 64 }) (va_Pc [.ref jh, .int x, .int y] (pP G [(jh, .inr (12, [.ref bk, .ref tp, .ref ps, .ref rl, u1, .ref bd, .ref fr, u2, .ref pn, .ref nl, u3])), (fr, .inr (4, [.ref bk, .ref bd, f1, .int 0])), (bk, .inr (2, [.ref ca, .ref bc, .ref bb, .ref bs, .int 0, .int 0])), (ca, .inl (gI G, 2088, .inl bk0))])) (vp_Si (fun r : Int32 => r = (-1))) 0 0 (fun _ => False) := by
  refine Met.ofW (cc := cX11_mat) (maxL := 3) (ret := (some .int)) (by decide) rfl ?_
  intro p e s m args below meth c s₁ B hml hv
  obtain ⟨rfl, hP, hB⟩ := hv
  have hx := B.exec
  have hb := B.bytes
  have hr := B.returns
  have hts := atoms_spec (ws := wq_q_mat) B.pre
  have hown : s.vm.findClass RX11 = some m.cls := findClass_of_methodNamed B.named
  have hlocks := B.notSynchronized
  have hK := hB.1
  have hP : va_P (gD G) vwCl [(jh, .inr (12, [.ref bk, .ref tp, .ref ps, .ref rl, u1, .ref bd, .ref fr, u2, .ref pn, .ref nl, u3])), (fr, .inr (4, [.ref bk, .ref bd, f1, .int 0])), (bk, .inr (2, [.ref ca, .ref bc, .ref bb, .ref bs, .int 0, .int 0])), (ca, .inl (gI G, 2088, .inl bk0))] s.heap := hP
  have hl := lv_entry ([.ref jh, .int x, .int y]) (n := 3) (Nat.le_of_ble_eq_true rfl)
  rw [lg_entry_eq]
  generalize (lg_sl ([.ref jh, .int x, .int y]) ++ List.replicate (3 - (lg_sl ([.ref jh, .int x, .int y])).length) Slot.unset).toArray = ls at hl ⊢
  have hl : lv_has ls 3 [(0, .ref jh), (1, .int x), (2, .int y)] := hl
  refine lv_iload_n hx hb dX11_mat_0 rfl (lv_at hl 1 rfl) ?_
  refine vp_callSi (va_Run.run (va_runS (As := [.int x]) (rest := []) ⟨hx, hb, hml, hown, hts⟩ (c_isMat l G x) (va_cwS 1 hts (gdS (List.mem_cons_of_mem _ (List.mem_append_left _ (List.mem_of_getElem? (i := 0) rfl))) (List.mem_cons_of_mem _ (List.mem_append_left _ (List.mem_of_getElem? (i := 1) rfl))) (List.mem_cons_of_mem _ (List.mem_append_left _ (List.mem_of_getElem? (i := 2) rfl))) (fun w9 h9 => ⟨(List.mem_cons_of_mem _ (List.mem_append_right _ (List.mem_append_left _ h9))), gd_c_isMat w9 h9⟩)) rfl rfl rfl kSX11_isMat ⟨Nat.le_of_ble_eq_true rfl, Nat.le_of_ble_eq_true rfl⟩) (preS_p (As := [.int x]) (hP.sub (ws' := []) [] rfl) hB) rfl rfl hl.1 rfl (lv_room (Nat.le_of_ble_eq_true rfl)) dX11_mat_1 ⟨Nat.le_of_ble_eq_true rfl, Nat.le_of_ble_eq_true rfl⟩)) (fun r_1 hr_1 => ?_)
  by_cases c_2 : x < 0
  · have hr_1 : r_1 = 0 := hr_1.trans (by rw [if_pos (show x < 0 ∨ 4 ≤ x from (Or.inl c_2))])
    subst hr_1
    refine lv_if_eq (tgt := 18) hx hb dX11_mat_4 (by decide) (fun _ => ?_) (fun c9 => absurd (by decide) c9)
    refine lv_iconst (v := (-1)) hx hb dX11_mat_18 (by decide) ?_
    exact W.iret (v := (-1)) hx hb hr (fun t ht hW => ⟨_, rfl, rfl, ht⟩) (fun q h => absurd h List.not_mem_nil) dX11_mat_19
  by_cases c_3 : 4 ≤ x
  · have hr_1 : r_1 = 0 := hr_1.trans (by rw [if_pos (show x < 0 ∨ 4 ≤ x from (Or.inr c_3))])
    subst hr_1
    refine lv_if_eq (tgt := 18) hx hb dX11_mat_4 (by decide) (fun _ => ?_) (fun c9 => absurd (by decide) c9)
    refine lv_iconst (v := (-1)) hx hb dX11_mat_18 (by decide) ?_
    exact W.iret (v := (-1)) hx hb hr (fun t ht hW => ⟨_, rfl, rfl, ht⟩) (fun q h => absurd h List.not_mem_nil) dX11_mat_19
  have hr_1 : r_1 = 1 := hr_1.trans (by rw [if_neg (show ¬ (x < 0 ∨ 4 ≤ x) from (not_or.mpr ⟨c_2, c_3⟩))])
  subst hr_1
  refine lv_if_eq (tgt := 18) hx hb dX11_mat_4 (by decide) (fun c9 => absurd c9 (by decide)) (fun _ => ?_)
  refine lv_aload_n hx hb dX11_mat_7 rfl (lv_at hl 0 rfl) ?_
  refine va_get (D := gD G) (ci := 12) (v := .ref fr) (C := RX11) (T := TX11) (N := 11) hx hb hts (fun _ h9 => (List.mem_cons_of_mem _ (List.mem_append_right _ (List.mem_append_right _ (List.mem_append_left _ h9))))) hown hK hP 0 rfl rfl 6 (by decide) (hts (.fieldLink RX11 60 "JudoHall" "floor" "LJudoHall$Floor;") (List.mem_cons_of_mem _ (List.mem_append_left _ (List.mem_of_getElem? (i := 3) rfl)))) (fun _ h9 => h9) rfl dX11_mat_8 ?_
  refine lv_iload_n hx hb dX11_mat_11 rfl (lv_at hl 1 rfl) ?_
  refine vp_callSi (va_Run.run (va_runV (As := [.int x]) (rest := []) ⟨hx, hb, hml, hown, hts⟩ (c_isFree l G fr bk (.ref bd) f1 (.int 0) ca (.ref bc) (.ref bb) (.ref bs) (.int 0) (.int 0) x (c_2) (c_3)) (cwV 1 hts (gdV (List.mem_cons_of_mem _ (List.mem_append_left _ (List.mem_of_getElem? (i := 4) rfl))) (List.mem_cons_of_mem _ (List.mem_append_left _ (List.mem_of_getElem? (i := 5) rfl))) (List.mem_cons_of_mem _ (List.mem_append_left _ (List.mem_of_getElem? (i := 6) rfl))) (List.mem_cons_of_mem _ (List.mem_append_left _ (List.mem_of_getElem? (i := 7) rfl))) (fun w9 h9 => ⟨(List.mem_cons_of_mem _ (List.mem_append_right _ (List.mem_append_right _ (List.mem_append_right _ (List.mem_append_left _ h9))))), gd_c_isFree w9 h9⟩)) rfl rfl rfl kVX3_isFree ⟨Nat.le_of_ble_eq_true rfl, Nat.le_of_ble_eq_true rfl⟩) (preV_p (As := [.int x]) (hP.sub (ws' := [(fr, .inr (4, [.ref bk, .ref bd, f1, .int 0])), (bk, .inr (2, [.ref ca, .ref bc, .ref bb, .ref bs, .int 0, .int 0])), (ca, .inl (gI G, 2088, .inl bk0))]) [1, 2, 3] rfl) hB rfl rfl) rfl rfl hl.1 rfl (lv_room (Nat.le_of_ble_eq_true rfl)) dX11_mat_12 ⟨Nat.le_of_ble_eq_true rfl, Nat.le_of_ble_eq_true rfl⟩)) (fun r_4 hr_4 => ?_)
  subst hr_4
  refine lv_if_eq (tgt := 20) hx hb dX11_mat_15 (by decide) (fun c9 => absurd c9 (by decide)) (fun _ => ?_)
  refine lv_iconst (v := (-1)) hx hb dX11_mat_18 (by decide) ?_
  exact W.iret (v := (-1)) hx hb hr (fun t ht hW => ⟨_, rfl, rfl, ht⟩) (fun q h => absurd h List.not_mem_nil) dX11_mat_19

def wo_q_strike : List Cond := [.fieldLink RX11 51 "JudoHall" "board" "LJudoHall$Board;", .methodLink RX11 222 yX0_has, .instanceMethod yX0_has, .selects RX0 yX0_has yX0_has, .initialized RX0]
def wq_q_strike : List Cond := .code yX11_strike cX11_strike 3 (some .int) :: (wo_q_strike ++ (wsX110 ++ (wq_c_Board_has ++ [])))
theorem gd_q_strike : ∀ w ∈ wq_q_strike, Gd w := List.forall_mem_cons.mpr ⟨Or.inl rfl, List.forall_mem_append.mpr ⟨gdl wo_q_strike (by decide +kernel), (List.forall_mem_append.mpr ⟨gd_wsX110, (List.forall_mem_append.mpr ⟨gd_c_Board_has, (fun _ h => absurd h List.not_mem_nil)⟩)⟩)⟩⟩
theorem in_q_strike : ∀ w ∈ wq_q_strike, w ∈ lw_tbl := List.forall_mem_cons.mpr ⟨List.mem_of_getElem? (i := 1362) (by decide +kernel), List.forall_mem_append.mpr ⟨inT wo_q_strike [560, 1214, 1215, 1216, 164] (by decide +kernel), (List.forall_mem_append.mpr ⟨in_wsX110, (List.forall_mem_append.mpr ⟨in_c_Board_has, (fun _ h => absurd h List.not_mem_nil)⟩)⟩)⟩⟩
set_option maxHeartbeats 4000000 in
set_option maxRecDepth 100000 in
theorem q_strike (l : Launch) (G : gG) (jh : Nat) (bk : Nat) (tp : Nat) (ps : Nat) (rl : Nat) (u1 : Value) (bd : Nat) (fr : Nat) (u2 : Value) (pn : Nat) (nl : Nat) (u3 : Value) (b1 : Value) (b2 : Value) (b3 : Value) (b4 : Value) (b5 : Value) (ca : Nat) (bc : Nat) (bb : Nat) (bs : Nat) (x : Int32) (y : Int32) : Met l yX11_strike wq_q_strike ({ frames := 4, cells := 0, slots := 0, locals := 86 }) (va_Pc [.ref jh, .int x, .int y] (pP G [(jh, .inr (12, [.ref bk, .ref tp, .ref ps, .ref rl, u1, .ref bd, .ref fr, u2, .ref pn, .ref nl, u3])), (bd, .inr (1, [.ref bk, b1, b2, b3, b4, b5])), (bk, .inr (2, [.ref ca, .ref bc, .ref bb, .ref bs, .int 0, .int 0])), (ca, .inl (gI G, 2088, .inl bk0))])) (vp_Si (fun r : Int32 => r = (-2))) 0 0 (fun _ => False) := by
  refine Met.ofW (cc := cX11_strike) (maxL := 3) (ret := (some .int)) (by decide) rfl ?_
  intro p e s m args below meth c s₁ B hml hv
  obtain ⟨rfl, hP, hB⟩ := hv
  have hx := B.exec
  have hb := B.bytes
  have hr := B.returns
  have hts := atoms_spec (ws := wq_q_strike) B.pre
  have hown : s.vm.findClass RX11 = some m.cls := findClass_of_methodNamed B.named
  have hlocks := B.notSynchronized
  have hK := hB.1
  have hP : va_P (gD G) vwCl [(jh, .inr (12, [.ref bk, .ref tp, .ref ps, .ref rl, u1, .ref bd, .ref fr, u2, .ref pn, .ref nl, u3])), (bd, .inr (1, [.ref bk, b1, b2, b3, b4, b5])), (bk, .inr (2, [.ref ca, .ref bc, .ref bb, .ref bs, .int 0, .int 0])), (ca, .inl (gI G, 2088, .inl bk0))] s.heap := hP
  have hl := lv_entry ([.ref jh, .int x, .int y]) (n := 3) (Nat.le_of_ble_eq_true rfl)
  rw [lg_entry_eq]
  generalize (lg_sl ([.ref jh, .int x, .int y]) ++ List.replicate (3 - (lg_sl ([.ref jh, .int x, .int y])).length) Slot.unset).toArray = ls at hl ⊢
  have hl : lv_has ls 3 [(0, .ref jh), (1, .int x), (2, .int y)] := hl
  refine lv_aload_n hx hb dX11_strike_0 rfl (lv_at hl 0 rfl) ?_
  refine va_get (D := gD G) (ci := 12) (v := .ref bd) (C := RX11) (T := TX11) (N := 11) hx hb hts (fun _ h9 => (List.mem_cons_of_mem _ (List.mem_append_right _ (List.mem_append_left _ h9)))) hown hK hP 0 rfl rfl 5 (by decide) (hts (.fieldLink RX11 51 "JudoHall" "board" "LJudoHall$Board;") (List.mem_cons_of_mem _ (List.mem_append_left _ (List.mem_of_getElem? (i := 0) rfl)))) (fun _ h9 => h9) rfl dX11_strike_1 ?_
  refine lv_iload_n hx hb dX11_strike_4 rfl (lv_at hl 1 rfl) ?_
  refine lv_iload_n hx hb dX11_strike_5 rfl (lv_at hl 2 rfl) ?_
  refine vp_callSi (va_Run.run (va_runV (As := [.int x, .int y]) (rest := []) ⟨hx, hb, hml, hown, hts⟩ (c_Board_has l G bd bk b1 b2 b3 b4 b5 ca (.ref bc) (.ref bb) (.ref bs) (.int 0) (.int 0) x y) (cwV 2 hts (gdV (List.mem_cons_of_mem _ (List.mem_append_left _ (List.mem_of_getElem? (i := 1) rfl))) (List.mem_cons_of_mem _ (List.mem_append_left _ (List.mem_of_getElem? (i := 2) rfl))) (List.mem_cons_of_mem _ (List.mem_append_left _ (List.mem_of_getElem? (i := 3) rfl))) (List.mem_cons_of_mem _ (List.mem_append_left _ (List.mem_of_getElem? (i := 4) rfl))) (fun w9 h9 => ⟨(List.mem_cons_of_mem _ (List.mem_append_right _ (List.mem_append_right _ (List.mem_append_left _ h9)))), gd_c_Board_has w9 h9⟩)) rfl rfl rfl kVX0_has ⟨Nat.le_of_ble_eq_true rfl, Nat.le_of_ble_eq_true rfl⟩) (preV_p (As := [.int x, .int y]) (hP.sub (ws' := [(bd, .inr (1, [.ref bk, b1, b2, b3, b4, b5])), (bk, .inr (2, [.ref ca, .ref bc, .ref bb, .ref bs, .int 0, .int 0])), (ca, .inl (gI G, 2088, .inl bk0))]) [1, 2, 3] rfl) hB rfl rfl) rfl rfl hl.1 rfl (lv_room (Nat.le_of_ble_eq_true rfl)) dX11_strike_6 ⟨Nat.le_of_ble_eq_true rfl, Nat.le_of_ble_eq_true rfl⟩)) (fun r_1 hr_1 => ?_)
  subst hr_1
  refine lv_if_ne (tgt := 15) hx hb dX11_strike_9 (by decide) (fun c9 => absurd (by decide) c9) (fun _ => ?_)
  refine lv_bipush (v := (-2)) hx hb dX11_strike_12 (by decide) ?_
  exact W.iret (v := (-2)) hx hb hr (fun t ht hW => ⟨_, rfl, rfl, ht⟩) (fun q h => absurd h List.not_mem_nil) dX11_strike_14

def wo_q_medal : List Cond := [.methodLink RX11 157 yX11_isClass, .static yX11_isClass, .initialized RX11, .fieldLink RX11 51 "JudoHall" "board" "LJudoHall$Board;", .methodLink RX11 210 yX0_kindOf, .instanceMethod yX0_kindOf, .selects RX0 yX0_kindOf yX0_kindOf, .initialized RX0]
def wq_q_medal : List Cond := .code yX11_medal cX11_medal 3 (some .int) :: (wo_q_medal ++ (wq_c_isClass ++ (wsX110 ++ (wq_c_Board_kindOf ++ []))))
theorem gd_q_medal : ∀ w ∈ wq_q_medal, Gd w := List.forall_mem_cons.mpr ⟨Or.inl rfl, List.forall_mem_append.mpr ⟨gdl wo_q_medal (by decide +kernel), (List.forall_mem_append.mpr ⟨gd_c_isClass, (List.forall_mem_append.mpr ⟨gd_wsX110, (List.forall_mem_append.mpr ⟨gd_c_Board_kindOf, (fun _ h => absurd h List.not_mem_nil)⟩)⟩)⟩)⟩⟩
theorem in_q_medal : ∀ w ∈ wq_q_medal, w ∈ lw_tbl := List.forall_mem_cons.mpr ⟨List.mem_of_getElem? (i := 1379) (by decide +kernel), List.forall_mem_append.mpr ⟨inT wo_q_medal [979, 980, 154, 560, 1195, 991, 992, 164] (by decide +kernel), (List.forall_mem_append.mpr ⟨in_c_isClass, (List.forall_mem_append.mpr ⟨in_wsX110, (List.forall_mem_append.mpr ⟨in_c_Board_kindOf, (fun _ h => absurd h List.not_mem_nil)⟩)⟩)⟩)⟩⟩
set_option maxHeartbeats 4000000 in
set_option maxRecDepth 100000 in
theorem q_medal (l : Launch) (G : gG) (jh : Nat) (bk : Nat) (tp : Nat) (ps : Nat) (rl : Nat) (u1 : Value) (bd : Nat) (fr : Nat) (u2 : Value) (pn : Nat) (nl : Nat) (u3 : Value) (b1 : Value) (b2 : Value) (b3 : Value) (b4 : Value) (b5 : Value) (ca : Nat) (bc : Nat) (bb : Nat) (bs : Nat) (x : Int32) (y : Int32) : Met l yX11_medal wq_q_medal ({ frames := 2, cells := 0, slots := 0, locals := 42 }) (va_Pc [.ref jh, .int x, .int y] (pP G [(jh, .inr (12, [.ref bk, .ref tp, .ref ps, .ref rl, u1, .ref bd, .ref fr, u2, .ref pn, .ref nl, u3])), (bd, .inr (1, [.ref bk, b1, b2, b3, b4, b5])), (bk, .inr (2, [.ref ca, .ref bc, .ref bb, .ref bs, .int 0, .int 0])), (ca, .inl (gI G, 2088, .inl bk0))])) (vp_Si (fun r : Int32 => r = (-1))) 0 0 (fun _ => False) := by
  refine Met.ofW (cc := cX11_medal) (maxL := 3) (ret := (some .int)) (by decide) rfl ?_
  intro p e s m args below meth c s₁ B hml hv
  obtain ⟨rfl, hP, hB⟩ := hv
  have hx := B.exec
  have hb := B.bytes
  have hr := B.returns
  have hts := atoms_spec (ws := wq_q_medal) B.pre
  have hown : s.vm.findClass RX11 = some m.cls := findClass_of_methodNamed B.named
  have hlocks := B.notSynchronized
  have hK := hB.1
  have hP : va_P (gD G) vwCl [(jh, .inr (12, [.ref bk, .ref tp, .ref ps, .ref rl, u1, .ref bd, .ref fr, u2, .ref pn, .ref nl, u3])), (bd, .inr (1, [.ref bk, b1, b2, b3, b4, b5])), (bk, .inr (2, [.ref ca, .ref bc, .ref bb, .ref bs, .int 0, .int 0])), (ca, .inl (gI G, 2088, .inl bk0))] s.heap := hP
  have hl := lv_entry ([.ref jh, .int x, .int y]) (n := 3) (Nat.le_of_ble_eq_true rfl)
  rw [lg_entry_eq]
  generalize (lg_sl ([.ref jh, .int x, .int y]) ++ List.replicate (3 - (lg_sl ([.ref jh, .int x, .int y])).length) Slot.unset).toArray = ls at hl ⊢
  have hl : lv_has ls 3 [(0, .ref jh), (1, .int x), (2, .int y)] := hl
  refine lv_iload_n hx hb dX11_medal_0 rfl (lv_at hl 1 rfl) ?_
  refine vp_callSi (va_Run.run (va_runS (As := [.int x]) (rest := []) ⟨hx, hb, hml, hown, hts⟩ (c_isClass l G x) (va_cwS 1 hts (gdS (List.mem_cons_of_mem _ (List.mem_append_left _ (List.mem_of_getElem? (i := 0) rfl))) (List.mem_cons_of_mem _ (List.mem_append_left _ (List.mem_of_getElem? (i := 1) rfl))) (List.mem_cons_of_mem _ (List.mem_append_left _ (List.mem_of_getElem? (i := 2) rfl))) (fun w9 h9 => ⟨(List.mem_cons_of_mem _ (List.mem_append_right _ (List.mem_append_left _ h9))), gd_c_isClass w9 h9⟩)) rfl rfl rfl kSX11_isClass ⟨Nat.le_of_ble_eq_true rfl, Nat.le_of_ble_eq_true rfl⟩) (preS_p (As := [.int x]) (hP.sub (ws' := []) [] rfl) hB) rfl rfl hl.1 rfl (lv_room (Nat.le_of_ble_eq_true rfl)) dX11_medal_1 ⟨Nat.le_of_ble_eq_true rfl, Nat.le_of_ble_eq_true rfl⟩)) (fun r_1 hr_1 => ?_)
  by_cases c_2 : x < 0
  · have hr_1 : r_1 = 0 := hr_1.trans (by rw [if_pos (show x < 0 ∨ 4 ≤ x from (Or.inl c_2))])
    subst hr_1
    refine lv_if_ne (tgt := 9) hx hb dX11_medal_4 (by decide) (fun c9 => absurd (by decide) c9) (fun _ => ?_)
    refine lv_iconst (v := (-1)) hx hb dX11_medal_7 (by decide) ?_
    exact W.iret (v := (-1)) hx hb hr (fun t ht hW => ⟨_, rfl, rfl, ht⟩) (fun q h => absurd h List.not_mem_nil) dX11_medal_8
  by_cases c_3 : 4 ≤ x
  · have hr_1 : r_1 = 0 := hr_1.trans (by rw [if_pos (show x < 0 ∨ 4 ≤ x from (Or.inr c_3))])
    subst hr_1
    refine lv_if_ne (tgt := 9) hx hb dX11_medal_4 (by decide) (fun c9 => absurd (by decide) c9) (fun _ => ?_)
    refine lv_iconst (v := (-1)) hx hb dX11_medal_7 (by decide) ?_
    exact W.iret (v := (-1)) hx hb hr (fun t ht hW => ⟨_, rfl, rfl, ht⟩) (fun q h => absurd h List.not_mem_nil) dX11_medal_8
  have hr_1 : r_1 = 1 := hr_1.trans (by rw [if_neg (show ¬ (x < 0 ∨ 4 ≤ x) from (not_or.mpr ⟨c_2, c_3⟩))])
  subst hr_1
  refine lv_if_ne (tgt := 9) hx hb dX11_medal_4 (by decide) (fun _ => ?_) (fun c9 => absurd c9 (by decide))
  refine lv_aload_n hx hb dX11_medal_9 rfl (lv_at hl 0 rfl) ?_
  refine va_get (D := gD G) (ci := 12) (v := .ref bd) (C := RX11) (T := TX11) (N := 11) hx hb hts (fun _ h9 => (List.mem_cons_of_mem _ (List.mem_append_right _ (List.mem_append_right _ (List.mem_append_left _ h9))))) hown hK hP 0 rfl rfl 5 (by decide) (hts (.fieldLink RX11 51 "JudoHall" "board" "LJudoHall$Board;") (List.mem_cons_of_mem _ (List.mem_append_left _ (List.mem_of_getElem? (i := 3) rfl)))) (fun _ h9 => h9) rfl dX11_medal_10 ?_
  refine lv_iload_n hx hb dX11_medal_13 rfl (lv_at hl 1 rfl) ?_
  refine vp_callSi (va_Run.run (va_runV (As := [.int x]) (rest := []) ⟨hx, hb, hml, hown, hts⟩ (c_Board_kindOf l G bd bk ca 2088 bk0 (.ref bc) (.ref bb) (.ref bs) (.int 0) (.int 0) b1 b2 b3 b4 b5 x (by decide)) (cwV 1 hts (gdV (List.mem_cons_of_mem _ (List.mem_append_left _ (List.mem_of_getElem? (i := 4) rfl))) (List.mem_cons_of_mem _ (List.mem_append_left _ (List.mem_of_getElem? (i := 5) rfl))) (List.mem_cons_of_mem _ (List.mem_append_left _ (List.mem_of_getElem? (i := 6) rfl))) (List.mem_cons_of_mem _ (List.mem_append_left _ (List.mem_of_getElem? (i := 7) rfl))) (fun w9 h9 => ⟨(List.mem_cons_of_mem _ (List.mem_append_right _ (List.mem_append_right _ (List.mem_append_right _ (List.mem_append_left _ h9))))), gd_c_Board_kindOf w9 h9⟩)) rfl rfl rfl kVX0_kindOf ⟨Nat.le_of_ble_eq_true rfl, Nat.le_of_ble_eq_true rfl⟩) (preV_p (As := [.int x]) (hP.sub (ws' := [(bd, .inr (1, [.ref bk, b1, b2, b3, b4, b5])), (bk, .inr (2, [.ref ca, .ref bc, .ref bb, .ref bs, .int 0, .int 0])), (ca, .inl (gI G, 2088, .inl bk0))]) [1, 2, 3] rfl) hB rfl rfl) rfl rfl hl.1 rfl (lv_room (Nat.le_of_ble_eq_true rfl)) dX11_medal_14 ⟨Nat.le_of_ble_eq_true rfl, Nat.le_of_ble_eq_true rfl⟩)) (fun r_4 hr_4 => ?_)
  have hr_4 : r_4 = 0 := hr_4.trans (bk_kind c_2 c_3)
  subst hr_4
  refine lv_lookup (off := 47) (tgt := 64) hx hb dX11_medal_17 (by decide) (by decide) (by decide) ?_
  refine lv_iconst (v := (-1)) hx hb dX11_medal_64 (by decide) ?_
  exact W.iret (v := (-1)) hx hb hr (fun t ht hW => ⟨_, rfl, rfl, ht⟩) (fun q h => absurd h List.not_mem_nil) dX11_medal_65

def wo_q_plan : List Cond := [.fieldLink RX11 74 "JudoHall" "planner" "LJudoHall$Planner;", .methodLink RX11 308 yX6_planDay, .instanceMethod yX6_planDay, .selects RX6 yX6_planDay yX6_planDay, .initialized RX6]
def wq_q_plan : List Cond := .code yX11_plan cX11_plan 3 (some .int) :: (wo_q_plan ++ (wsX110 ++ (wq_c_planDay ++ [])))
theorem gd_q_plan : ∀ w ∈ wq_q_plan, Gd w := List.forall_mem_cons.mpr ⟨Or.inl rfl, List.forall_mem_append.mpr ⟨gdl wo_q_plan (by decide +kernel), (List.forall_mem_append.mpr ⟨gd_wsX110, (List.forall_mem_append.mpr ⟨gd_c_planDay, (fun _ h => absurd h List.not_mem_nil)⟩)⟩)⟩⟩
theorem in_q_plan : ∀ w ∈ wq_q_plan, w ∈ lw_tbl := List.forall_mem_cons.mpr ⟨List.mem_of_getElem? (i := 1434) (by decide +kernel), List.forall_mem_append.mpr ⟨inT wo_q_plan [563, 1435, 1436, 1437, 167] (by decide +kernel), (List.forall_mem_append.mpr ⟨in_wsX110, (List.forall_mem_append.mpr ⟨in_c_planDay, (fun _ h => absurd h List.not_mem_nil)⟩)⟩)⟩⟩
set_option maxHeartbeats 4000000 in
set_option maxRecDepth 100000 in
theorem q_plan (l : Launch) (G : gG) (jh : Nat) (bk : Nat) (tp : Nat) (ps : Nat) (rl : Nat) (u1 : Value) (bd : Nat) (fr : Nat) (u2 : Value) (pn : Nat) (nl : Nat) (u3 : Value) (n1 : Value) (pe : Nat) (pm : Nat) (n2 : Value) (n3 : Value) (pt : Nat) (pb : Nat) (px : Nat) (pg : Nat) (b1 : Value) (b2 : Value) (b3 : Value) (b4 : Value) (b5 : Value) (ca : Nat) (bc : Nat) (bb : Nat) (bs : Nat) (pe2 : Nat) (pm2 : Nat) (px2 : Nat) (pg2 : Nat) (x : Int32) (y : Int32) (sz : Nat) : Met l yX11_plan wq_q_plan ({ frames := 6, cells := 0, slots := 0, locals := 134 }) (va_Pc [.ref jh, .int x, .int y] (mP G [(jh, .inr (12, [.ref bk, .ref tp, .ref ps, .ref rl, u1, .ref bd, .ref fr, u2, .ref pn, .ref nl, u3])), (pn, .inr (7, [.ref bk, .ref bd, n1, .ref pe, .ref pm, n2, n3, .ref pt, .ref pb, .ref px, .ref pg, .int 0, .int 0, .int 0])), (bd, .inr (1, [.ref bk, b1, b2, b3, b4, b5])), (bk, .inr (2, [.ref ca, .ref bc, .ref bb, .ref bs, .int 0, .int 0])), (ca, .inl (gI G, 2088, .inl bk0)), (pe, .inr (10, [.ref pe2])), (pe2, .inl (gI G, 148, .inl (fl 148 (-1) (fun _ => 0)))), (pm, .inr (10, [.ref pm2])), (pm2, .inl (gI G, 4, .inl (fl 4 0 (fun _ => 0)))), (px, .inr (10, [.ref px2])), (px2, .inl (gI G, 148, .inl (fl 148 (-1) (fun _ => 0)))), (pg, .inr (10, [.ref pg2])), (pg2, .inl (gI G, 148, .inl (fl 148 (-1) (fun _ => 0))))] sz)) (va_Qi (fun (r : Int32) (_ : Unit) => r = if x < 1 ∨ 4 < x ∨ y < 1 ∨ 60 < y then (-2) else 0) (fun (_ : Unit) (t : State) => va_P (gD G) vwCl [] t.heap ∧ va_D (va_A [(jh, .inr (12, [.ref bk, .ref tp, .ref ps, .ref rl, u1, .ref bd, .ref fr, u2, .ref pn, .ref nl, u3])), (pn, .inr (7, [.ref bk, .ref bd, n1, .ref pe, .ref pm, n2, n3, .ref pt, .ref pb, .ref px, .ref pg, .int 0, .int 0, .int 0])), (bd, .inr (1, [.ref bk, b1, b2, b3, b4, b5])), (bk, .inr (2, [.ref ca, .ref bc, .ref bb, .ref bs, .int 0, .int 0])), (ca, .inl (gI G, 2088, .inl bk0)), (pe, .inr (10, [.ref pe2])), (pe2, .inl (gI G, 148, .inl (fl 148 (-1) (fun _ => 0)))), (pm, .inr (10, [.ref pm2])), (pm2, .inl (gI G, 4, .inl (fl 4 0 (fun _ => 0)))), (px, .inr (10, [.ref px2])), (px2, .inl (gI G, 148, .inl (fl 148 (-1) (fun _ => 0)))), (pg, .inr (10, [.ref pg2])), (pg2, .inl (gI G, 148, .inl (fl 148 (-1) (fun _ => 0))))] sz) []) (va_A [(jh, .inr (12, [.ref bk, .ref tp, .ref ps, .ref rl, u1, .ref bd, .ref fr, u2, .ref pn, .ref nl, u3])), (pn, .inr (7, [.ref bk, .ref bd, n1, .ref pe, .ref pm, n2, n3, .ref pt, .ref pb, .ref px, .ref pg, .int 0, .int 0, .int 0])), (bd, .inr (1, [.ref bk, b1, b2, b3, b4, b5])), (bk, .inr (2, [.ref ca, .ref bc, .ref bb, .ref bs, .int 0, .int 0])), (ca, .inl (gI G, 2088, .inl bk0)), (pe, .inr (10, [.ref pe2])), (pe2, .inl (gI G, 148, .inl (fl 148 (-1) (fun _ => 0)))), (pm, .inr (10, [.ref pm2])), (pm2, .inl (gI G, 4, .inl (fl 4 0 (fun _ => 0)))), (px, .inr (10, [.ref px2])), (px2, .inl (gI G, 148, .inl (fl 148 (-1) (fun _ => 0)))), (pg, .inr (10, [.ref pg2])), (pg2, .inl (gI G, 148, .inl (fl 148 (-1) (fun _ => 0))))] sz)) 0 0 (va_A [(jh, .inr (12, [.ref bk, .ref tp, .ref ps, .ref rl, u1, .ref bd, .ref fr, u2, .ref pn, .ref nl, u3])), (pn, .inr (7, [.ref bk, .ref bd, n1, .ref pe, .ref pm, n2, n3, .ref pt, .ref pb, .ref px, .ref pg, .int 0, .int 0, .int 0])), (bd, .inr (1, [.ref bk, b1, b2, b3, b4, b5])), (bk, .inr (2, [.ref ca, .ref bc, .ref bb, .ref bs, .int 0, .int 0])), (ca, .inl (gI G, 2088, .inl bk0)), (pe, .inr (10, [.ref pe2])), (pe2, .inl (gI G, 148, .inl (fl 148 (-1) (fun _ => 0)))), (pm, .inr (10, [.ref pm2])), (pm2, .inl (gI G, 4, .inl (fl 4 0 (fun _ => 0)))), (px, .inr (10, [.ref px2])), (px2, .inl (gI G, 148, .inl (fl 148 (-1) (fun _ => 0)))), (pg, .inr (10, [.ref pg2])), (pg2, .inl (gI G, 148, .inl (fl 148 (-1) (fun _ => 0))))] sz) := by
  refine Met.ofW (cc := cX11_plan) (maxL := 3) (ret := (some .int)) (by decide) rfl ?_
  intro p e s m args below meth c s₁ B hml hv
  obtain ⟨rfl, hsz, hP, hB, hD0⟩ := hv
  have hx := B.exec
  have hb := B.bytes
  have hr := B.returns
  have hts := atoms_spec (ws := wq_q_plan) B.pre
  have hown : s.vm.findClass RX11 = some m.cls := findClass_of_methodNamed B.named
  have hlocks := B.notSynchronized
  have hK := hB.1
  subst hsz
  have hD := hD0.self (sz := s.heap.size)
  generalize hAe : va_A [(jh, .inr (12, [.ref bk, .ref tp, .ref ps, .ref rl, u1, .ref bd, .ref fr, u2, .ref pn, .ref nl, u3])), (pn, .inr (7, [.ref bk, .ref bd, n1, .ref pe, .ref pm, n2, n3, .ref pt, .ref pb, .ref px, .ref pg, .int 0, .int 0, .int 0])), (bd, .inr (1, [.ref bk, b1, b2, b3, b4, b5])), (bk, .inr (2, [.ref ca, .ref bc, .ref bb, .ref bs, .int 0, .int 0])), (ca, .inl (gI G, 2088, .inl bk0)), (pe, .inr (10, [.ref pe2])), (pe2, .inl (gI G, 148, .inl (fl 148 (-1) (fun _ => 0)))), (pm, .inr (10, [.ref pm2])), (pm2, .inl (gI G, 4, .inl (fl 4 0 (fun _ => 0)))), (px, .inr (10, [.ref px2])), (px2, .inl (gI G, 148, .inl (fl 148 (-1) (fun _ => 0)))), (pg, .inr (10, [.ref pg2])), (pg2, .inl (gI G, 148, .inl (fl 148 (-1) (fun _ => 0))))] s.heap.size = A at hD ⊢
  have hA : ∀ q : Nat, s.heap.size ≤ q → A q := fun q h => by rw [← hAe]; exact Or.inr h
  have hS : va_S A s.heap s.heap [] := va_S.rf
  have hP : va_P (gD G) vwCl [(jh, .inr (12, [.ref bk, .ref tp, .ref ps, .ref rl, u1, .ref bd, .ref fr, u2, .ref pn, .ref nl, u3])), (pn, .inr (7, [.ref bk, .ref bd, n1, .ref pe, .ref pm, n2, n3, .ref pt, .ref pb, .ref px, .ref pg, .int 0, .int 0, .int 0])), (bd, .inr (1, [.ref bk, b1, b2, b3, b4, b5])), (bk, .inr (2, [.ref ca, .ref bc, .ref bb, .ref bs, .int 0, .int 0])), (ca, .inl (gI G, 2088, .inl bk0)), (pe, .inr (10, [.ref pe2])), (pe2, .inl (gI G, 148, .inl (fl 148 (-1) (fun _ => 0)))), (pm, .inr (10, [.ref pm2])), (pm2, .inl (gI G, 4, .inl (fl 4 0 (fun _ => 0)))), (px, .inr (10, [.ref px2])), (px2, .inl (gI G, 148, .inl (fl 148 (-1) (fun _ => 0)))), (pg, .inr (10, [.ref pg2])), (pg2, .inl (gI G, 148, .inl (fl 148 (-1) (fun _ => 0))))] s.heap := hP
  have hD : va_D A [(jh, .inr (12, [.ref bk, .ref tp, .ref ps, .ref rl, u1, .ref bd, .ref fr, u2, .ref pn, .ref nl, u3])), (pn, .inr (7, [.ref bk, .ref bd, n1, .ref pe, .ref pm, n2, n3, .ref pt, .ref pb, .ref px, .ref pg, .int 0, .int 0, .int 0])), (bd, .inr (1, [.ref bk, b1, b2, b3, b4, b5])), (bk, .inr (2, [.ref ca, .ref bc, .ref bb, .ref bs, .int 0, .int 0])), (ca, .inl (gI G, 2088, .inl bk0)), (pe, .inr (10, [.ref pe2])), (pe2, .inl (gI G, 148, .inl (fl 148 (-1) (fun _ => 0)))), (pm, .inr (10, [.ref pm2])), (pm2, .inl (gI G, 4, .inl (fl 4 0 (fun _ => 0)))), (px, .inr (10, [.ref px2])), (px2, .inl (gI G, 148, .inl (fl 148 (-1) (fun _ => 0)))), (pg, .inr (10, [.ref pg2])), (pg2, .inl (gI G, 148, .inl (fl 148 (-1) (fun _ => 0))))] := hD
  have hl := lv_entry ([.ref jh, .int x, .int y]) (n := 3) (Nat.le_of_ble_eq_true rfl)
  rw [lg_entry_eq]
  generalize (lg_sl ([.ref jh, .int x, .int y]) ++ List.replicate (3 - (lg_sl ([.ref jh, .int x, .int y])).length) Slot.unset).toArray = ls at hl ⊢
  have hl : lv_has ls 3 [(0, .ref jh), (1, .int x), (2, .int y)] := hl
  refine lv_iload_n hx hb dX11_plan_0 rfl (lv_at hl 1 rfl) ?_
  refine lv_iconst (v := 1) hx hb dX11_plan_1 (by decide) ?_
  refine lv_icmp_lt (tgt := 21) hx hb dX11_plan_2 (by decide) (fun c_1 => ?_) (fun c_1 => ?_)
  · skip
    refine lv_bipush (v := (-2)) hx hb dX11_plan_21 (by decide) ?_
    have hP9 := hP.sub (ws' := []) [] rfl
    have hD9 := hD.sub (ws' := []) [] (by decide) rfl
    exact W.iret (v := (-2)) hx hb hr (fun t ht hW => ⟨⟨_, (), rfl, by rw [if_pos (show x < 1 ∨ 4 < x ∨ y < 1 ∨ 60 < y from (Or.inl c_1))], by rw [ht]; exact hP9, hD9⟩, hS.F ht⟩) hS.2.2 dX11_plan_23
  · skip
    refine lv_iload_n hx hb dX11_plan_5 rfl (lv_at hl 1 rfl) ?_
    refine lv_iconst (v := 4) hx hb dX11_plan_6 (by decide) ?_
    refine lv_icmp_gt (tgt := 21) hx hb dX11_plan_7 (by decide) (fun c_2 => ?_) (fun c_2 => ?_)
    · skip
      refine lv_bipush (v := (-2)) hx hb dX11_plan_21 (by decide) ?_
      have hP9 := hP.sub (ws' := []) [] rfl
      have hD9 := hD.sub (ws' := []) [] (by decide) rfl
      exact W.iret (v := (-2)) hx hb hr (fun t ht hW => ⟨⟨_, (), rfl, by rw [if_pos (show x < 1 ∨ 4 < x ∨ y < 1 ∨ 60 < y from (Or.inr (Or.inl c_2)))], by rw [ht]; exact hP9, hD9⟩, hS.F ht⟩) hS.2.2 dX11_plan_23
    · skip
      refine lv_iload_n hx hb dX11_plan_10 rfl (lv_at hl 2 rfl) ?_
      refine lv_iconst (v := 1) hx hb dX11_plan_11 (by decide) ?_
      refine lv_icmp_lt (tgt := 21) hx hb dX11_plan_12 (by decide) (fun c_3 => ?_) (fun c_3 => ?_)
      · skip
        refine lv_bipush (v := (-2)) hx hb dX11_plan_21 (by decide) ?_
        have hP9 := hP.sub (ws' := []) [] rfl
        have hD9 := hD.sub (ws' := []) [] (by decide) rfl
        exact W.iret (v := (-2)) hx hb hr (fun t ht hW => ⟨⟨_, (), rfl, by rw [if_pos (show x < 1 ∨ 4 < x ∨ y < 1 ∨ 60 < y from (Or.inr (Or.inr (Or.inl c_3))))], by rw [ht]; exact hP9, hD9⟩, hS.F ht⟩) hS.2.2 dX11_plan_23
      · skip
        refine lv_iload_n hx hb dX11_plan_15 rfl (lv_at hl 2 rfl) ?_
        refine lv_bipush (v := 60) hx hb dX11_plan_16 (by decide) ?_
        refine lv_icmp_le (tgt := 24) hx hb dX11_plan_18 (by decide) (fun c_4 => ?_) (fun c_4 => ?_)
        · skip
          refine lv_aload_n hx hb dX11_plan_24 rfl (lv_at hl 0 rfl) ?_
          refine va_get (D := gD G) (ci := 12) (v := .ref pn) (C := RX11) (T := TX11) (N := 11) hx hb hts (fun _ h9 => (List.mem_cons_of_mem _ (List.mem_append_right _ (List.mem_append_left _ h9)))) hown hK hP 0 rfl rfl 8 (by decide) (hts (.fieldLink RX11 74 "JudoHall" "planner" "LJudoHall$Planner;") (List.mem_cons_of_mem _ (List.mem_append_left _ (List.mem_of_getElem? (i := 0) rfl)))) (fun _ h9 => h9) rfl dX11_plan_25 ?_
          refine lv_iload_n hx hb dX11_plan_28 rfl (lv_at hl 1 rfl) ?_
          refine lv_iload_n hx hb dX11_plan_29 rfl (lv_at hl 2 rfl) ?_
          have hPc := hP.sub (ws' := [(pn, .inr (7, [.ref bk, .ref bd, n1, .ref pe, .ref pm, n2, n3, .ref pt, .ref pb, .ref px, .ref pg, .int 0, .int 0, .int 0])), (bd, .inr (1, [.ref bk, b1, b2, b3, b4, b5])), (bk, .inr (2, [.ref ca, .ref bc, .ref bb, .ref bs, .int 0, .int 0])), (ca, .inl (gI G, 2088, .inl bk0)), (pe, .inr (10, [.ref pe2])), (pe2, .inl (gI G, 148, .inl (fl 148 (-1) (fun _ => 0)))), (pm, .inr (10, [.ref pm2])), (pm2, .inl (gI G, 4, .inl (fl 4 0 (fun _ => 0)))), (px, .inr (10, [.ref px2])), (px2, .inl (gI G, 148, .inl (fl 148 (-1) (fun _ => 0)))), (pg, .inr (10, [.ref pg2])), (pg2, .inl (gI G, 148, .inl (fl 148 (-1) (fun _ => 0))))]) [1, 2, 3, 4, 5, 6, 7, 8, 9, 10, 11, 12] rfl
          have hDc := hD.sub (ws' := [(pn, .inr (7, [.ref bk, .ref bd, n1, .ref pe, .ref pm, n2, n3, .ref pt, .ref pb, .ref px, .ref pg, .int 0, .int 0, .int 0])), (bd, .inr (1, [.ref bk, b1, b2, b3, b4, b5])), (bk, .inr (2, [.ref ca, .ref bc, .ref bb, .ref bs, .int 0, .int 0])), (ca, .inl (gI G, 2088, .inl bk0)), (pe, .inr (10, [.ref pe2])), (pe2, .inl (gI G, 148, .inl (fl 148 (-1) (fun _ => 0)))), (pm, .inr (10, [.ref pm2])), (pm2, .inl (gI G, 4, .inl (fl 4 0 (fun _ => 0)))), (px, .inr (10, [.ref px2])), (px2, .inl (gI G, 148, .inl (fl 148 (-1) (fun _ => 0)))), (pg, .inr (10, [.ref pg2])), (pg2, .inl (gI G, 148, .inl (fl 148 (-1) (fun _ => 0))))]) [1, 2, 3, 4, 5, 6, 7, 8, 9, 10, 11, 12] (by decide) rfl
          have hFc := va_free (wc := [(pn, .inr (7, [.ref bk, .ref bd, n1, .ref pe, .ref pm, n2, n3, .ref pt, .ref pb, .ref px, .ref pg, .int 0, .int 0, .int 0])), (bd, .inr (1, [.ref bk, b1, b2, b3, b4, b5])), (bk, .inr (2, [.ref ca, .ref bc, .ref bb, .ref bs, .int 0, .int 0])), (ca, .inl (gI G, 2088, .inl bk0)), (pe, .inr (10, [.ref pe2])), (pe2, .inl (gI G, 148, .inl (fl 148 (-1) (fun _ => 0)))), (pm, .inr (10, [.ref pm2])), (pm2, .inl (gI G, 4, .inl (fl 4 0 (fun _ => 0)))), (px, .inr (10, [.ref px2])), (px2, .inl (gI G, 148, .inl (fl 148 (-1) (fun _ => 0)))), (pg, .inr (10, [.ref pg2])), (pg2, .inl (gI G, 148, .inl (fl 148 (-1) (fun _ => 0))))]) hD hS hA [1, 2, 3, 4, 5, 6, 7, 8, 9, 10, 11, 12] rfl
          refine va_calli (va_runV (As := [.int x, .int y]) (rest := []) ⟨hx, hb, hml, hown, hts⟩ (c_planDay l G pn bk bd n1 pe pm n2 n3 pt pb px pg b1 b2 b3 b4 b5 ca (.ref bc) (.ref bb) (.ref bs) (.int 0) (.int 0) pe2 pm2 px2 pg2 (fl 148 (-1) (fun _ => 0)) (fl 4 0 (fun _ => 0)) (fl 148 (-1) (fun _ => 0)) (fl 148 (-1) (fun _ => 0)) x y s.heap.size) (cwV 2 hts (gdV (List.mem_cons_of_mem _ (List.mem_append_left _ (List.mem_of_getElem? (i := 1) rfl))) (List.mem_cons_of_mem _ (List.mem_append_left _ (List.mem_of_getElem? (i := 2) rfl))) (List.mem_cons_of_mem _ (List.mem_append_left _ (List.mem_of_getElem? (i := 3) rfl))) (List.mem_cons_of_mem _ (List.mem_append_left _ (List.mem_of_getElem? (i := 4) rfl))) (fun w9 h9 => ⟨(List.mem_cons_of_mem _ (List.mem_append_right _ (List.mem_append_right _ (List.mem_append_left _ h9)))), gd_c_planDay w9 h9⟩)) rfl rfl rfl kVX6_planDay ⟨Nat.le_of_ble_eq_true rfl, Nat.le_of_ble_eq_true rfl⟩) (preV_m (As := [.int x, .int y]) hPc hB hDc rfl rfl) rfl rfl hl.1 rfl (lv_room (Nat.le_of_ble_eq_true rfl)) dX11_plan_30 ⟨Nat.le_of_ble_eq_true rfl, Nat.le_of_ble_eq_true rfl⟩) hS (fun q _ h => hFc q h) hFc (fun r_5 u t H1 locs ht hvm hw hB1 hz1 hk1 hS => ?_)
          obtain ⟨hP1, hD1⟩ := hB1
          rw [ht] at hP1
          obtain ⟨hP, hD⟩ := va_join (wr := [(jh, .inr (12, [.ref bk, .ref tp, .ref ps, .ref rl, u1, .ref bd, .ref fr, u2, .ref pn, .ref nl, u3]))]) (w1 := []) hP hD [1, 2, 3, 4, 5, 6, 7, 8, 9, 10, 11, 12] [0] rfl rfl (by decide) (by decide) hk1 hFc hP1 hD1
          generalize H1 = H at hP hS ⊢
          have hP : va_P (gD G) vwCl [(jh, .inr (12, [.ref bk, .ref tp, .ref ps, .ref rl, u1, .ref bd, .ref fr, u2, .ref pn, .ref nl, u3]))] H := hP
          have hD : va_D A [(jh, .inr (12, [.ref bk, .ref tp, .ref ps, .ref rl, u1, .ref bd, .ref fr, u2, .ref pn, .ref nl, u3]))] := hD
          have hw : r_5 = 0 := hw
          subst hw
          refine W.eq (g2 := F0 m 33 ls [.int 0]) rfl ?_
          have hP9 := hP.sub (ws' := []) [] rfl
          have hD9 := hD.sub (ws' := []) [] (by decide) rfl
          exact W.iret (v := 0) hx hb hr (fun t ht hW => ⟨⟨_, (), rfl, by rw [if_neg (show ¬ (x < 1 ∨ 4 < x ∨ y < 1 ∨ 60 < y) from (not_or.mpr ⟨c_1, (not_or.mpr ⟨c_2, (not_or.mpr ⟨c_3, (Int32.not_lt.mpr c_4)⟩)⟩)⟩))], by rw [ht]; exact hP9, hD9⟩, hS.F ht⟩) hS.2.2 dX11_plan_33
        · skip
          refine lv_bipush (v := (-2)) hx hb dX11_plan_21 (by decide) ?_
          have hP9 := hP.sub (ws' := []) [] rfl
          have hD9 := hD.sub (ws' := []) [] (by decide) rfl
          exact W.iret (v := (-2)) hx hb hr (fun t ht hW => ⟨⟨_, (), rfl, by rw [if_pos (show x < 1 ∨ 4 < x ∨ y < 1 ∨ 60 < y from (Or.inr (Or.inr (Or.inr (Int32.not_le.mp c_4)))))], by rw [ht]; exact hP9, hD9⟩, hS.F ht⟩) hS.2.2 dX11_plan_23

def wo_q_planned : List Cond := [.fieldLink RX11 51 "JudoHall" "board" "LJudoHall$Board;", .methodLink RX11 222 yX0_has, .instanceMethod yX0_has, .selects RX0 yX0_has yX0_has, .initialized RX0]
def wq_q_planned : List Cond := .code yX11_planned cX11_planned 4 (some .int) :: (wo_q_planned ++ (wsX110 ++ (wq_c_Board_has ++ [])))
theorem gd_q_planned : ∀ w ∈ wq_q_planned, Gd w := List.forall_mem_cons.mpr ⟨Or.inl rfl, List.forall_mem_append.mpr ⟨gdl wo_q_planned (by decide +kernel), (List.forall_mem_append.mpr ⟨gd_wsX110, (List.forall_mem_append.mpr ⟨gd_c_Board_has, (fun _ h => absurd h List.not_mem_nil)⟩)⟩)⟩⟩
theorem in_q_planned : ∀ w ∈ wq_q_planned, w ∈ lw_tbl := List.forall_mem_cons.mpr ⟨List.mem_of_getElem? (i := 1528) (by decide +kernel), List.forall_mem_append.mpr ⟨inT wo_q_planned [560, 1214, 1215, 1216, 164] (by decide +kernel), (List.forall_mem_append.mpr ⟨in_wsX110, (List.forall_mem_append.mpr ⟨in_c_Board_has, (fun _ h => absurd h List.not_mem_nil)⟩)⟩)⟩⟩
set_option maxHeartbeats 4000000 in
set_option maxRecDepth 100000 in
theorem q_planned (l : Launch) (G : gG) (jh : Nat) (bk : Nat) (tp : Nat) (ps : Nat) (rl : Nat) (u1 : Value) (bd : Nat) (fr : Nat) (u2 : Value) (pn : Nat) (nl : Nat) (u3 : Value) (b1 : Value) (b2 : Value) (b3 : Value) (b4 : Value) (b5 : Value) (ca : Nat) (bc : Nat) (bb : Nat) (bs : Nat) (x : Int32) (y : Int32) (z : Int32) : Met l yX11_planned wq_q_planned ({ frames := 4, cells := 0, slots := 0, locals := 86 }) (va_Pc [.ref jh, .int x, .int y, .int z] (pP G [(jh, .inr (12, [.ref bk, .ref tp, .ref ps, .ref rl, u1, .ref bd, .ref fr, u2, .ref pn, .ref nl, u3])), (bd, .inr (1, [.ref bk, b1, b2, b3, b4, b5])), (bk, .inr (2, [.ref ca, .ref bc, .ref bb, .ref bs, .int 0, .int 0])), (ca, .inl (gI G, 2088, .inl bk0))])) (vp_Si (fun r : Int32 => r = (-1))) 0 0 (fun _ => False) := by
  refine Met.ofW (cc := cX11_planned) (maxL := 4) (ret := (some .int)) (by decide) rfl ?_
  intro p e s m args below meth c s₁ B hml hv
  obtain ⟨rfl, hP, hB⟩ := hv
  have hx := B.exec
  have hb := B.bytes
  have hr := B.returns
  have hts := atoms_spec (ws := wq_q_planned) B.pre
  have hown : s.vm.findClass RX11 = some m.cls := findClass_of_methodNamed B.named
  have hlocks := B.notSynchronized
  have hK := hB.1
  have hP : va_P (gD G) vwCl [(jh, .inr (12, [.ref bk, .ref tp, .ref ps, .ref rl, u1, .ref bd, .ref fr, u2, .ref pn, .ref nl, u3])), (bd, .inr (1, [.ref bk, b1, b2, b3, b4, b5])), (bk, .inr (2, [.ref ca, .ref bc, .ref bb, .ref bs, .int 0, .int 0])), (ca, .inl (gI G, 2088, .inl bk0))] s.heap := hP
  have hl := lv_entry ([.ref jh, .int x, .int y, .int z]) (n := 4) (Nat.le_of_ble_eq_true rfl)
  rw [lg_entry_eq]
  generalize (lg_sl ([.ref jh, .int x, .int y, .int z]) ++ List.replicate (4 - (lg_sl ([.ref jh, .int x, .int y, .int z])).length) Slot.unset).toArray = ls at hl ⊢
  have hl : lv_has ls 4 [(0, .ref jh), (1, .int x), (2, .int y), (3, .int z)] := hl
  refine lv_aload_n hx hb dX11_planned_0 rfl (lv_at hl 0 rfl) ?_
  refine va_get (D := gD G) (ci := 12) (v := .ref bd) (C := RX11) (T := TX11) (N := 11) hx hb hts (fun _ h9 => (List.mem_cons_of_mem _ (List.mem_append_right _ (List.mem_append_left _ h9)))) hown hK hP 0 rfl rfl 5 (by decide) (hts (.fieldLink RX11 51 "JudoHall" "board" "LJudoHall$Board;") (List.mem_cons_of_mem _ (List.mem_append_left _ (List.mem_of_getElem? (i := 0) rfl)))) (fun _ h9 => h9) rfl dX11_planned_1 ?_
  refine lv_iload_n hx hb dX11_planned_4 rfl (lv_at hl 1 rfl) ?_
  refine lv_iload_n hx hb dX11_planned_5 rfl (lv_at hl 2 rfl) ?_
  refine vp_callSi (va_Run.run (va_runV (As := [.int x, .int y]) (rest := []) ⟨hx, hb, hml, hown, hts⟩ (c_Board_has l G bd bk b1 b2 b3 b4 b5 ca (.ref bc) (.ref bb) (.ref bs) (.int 0) (.int 0) x y) (cwV 2 hts (gdV (List.mem_cons_of_mem _ (List.mem_append_left _ (List.mem_of_getElem? (i := 1) rfl))) (List.mem_cons_of_mem _ (List.mem_append_left _ (List.mem_of_getElem? (i := 2) rfl))) (List.mem_cons_of_mem _ (List.mem_append_left _ (List.mem_of_getElem? (i := 3) rfl))) (List.mem_cons_of_mem _ (List.mem_append_left _ (List.mem_of_getElem? (i := 4) rfl))) (fun w9 h9 => ⟨(List.mem_cons_of_mem _ (List.mem_append_right _ (List.mem_append_right _ (List.mem_append_left _ h9)))), gd_c_Board_has w9 h9⟩)) rfl rfl rfl kVX0_has ⟨Nat.le_of_ble_eq_true rfl, Nat.le_of_ble_eq_true rfl⟩) (preV_p (As := [.int x, .int y]) (hP.sub (ws' := [(bd, .inr (1, [.ref bk, b1, b2, b3, b4, b5])), (bk, .inr (2, [.ref ca, .ref bc, .ref bb, .ref bs, .int 0, .int 0])), (ca, .inl (gI G, 2088, .inl bk0))]) [1, 2, 3] rfl) hB rfl rfl) rfl rfl hl.1 rfl (lv_room (Nat.le_of_ble_eq_true rfl)) dX11_planned_6 ⟨Nat.le_of_ble_eq_true rfl, Nat.le_of_ble_eq_true rfl⟩)) (fun r_1 hr_1 => ?_)
  subst hr_1
  refine lv_if_ne (tgt := 14) hx hb dX11_planned_9 (by decide) (fun c9 => absurd (by decide) c9) (fun _ => ?_)
  refine lv_iconst (v := (-1)) hx hb dX11_planned_12 (by decide) ?_
  exact W.iret (v := (-1)) hx hb hr (fun t ht hW => ⟨_, rfl, rfl, ht⟩) (fun q h => absurd h List.not_mem_nil) dX11_planned_13

def wo_q_undo : List Cond := [.fieldLink RX11 10 "JudoHall" "book" "LJudoHall$Book;"]
def wq_q_undo : List Cond := .code yX11_undo cX11_undo 2 (some .int) :: (wo_q_undo ++ (wsX110 ++ (wsX10 ++ [])))
theorem gd_q_undo : ∀ w ∈ wq_q_undo, Gd w := List.forall_mem_cons.mpr ⟨Or.inl rfl, List.forall_mem_append.mpr ⟨gdl wo_q_undo (by decide +kernel), (List.forall_mem_append.mpr ⟨gd_wsX110, (List.forall_mem_append.mpr ⟨gd_wsX10, (fun _ h => absurd h List.not_mem_nil)⟩)⟩)⟩⟩
theorem in_q_undo : ∀ w ∈ wq_q_undo, w ∈ lw_tbl := List.forall_mem_cons.mpr ⟨List.mem_of_getElem? (i := 1536) (by decide +kernel), List.forall_mem_append.mpr ⟨inT wo_q_undo [555] (by decide +kernel), (List.forall_mem_append.mpr ⟨in_wsX110, (List.forall_mem_append.mpr ⟨in_wsX10, (fun _ h => absurd h List.not_mem_nil)⟩)⟩)⟩⟩
set_option maxHeartbeats 4000000 in
set_option maxRecDepth 100000 in
theorem q_undo (l : Launch) (G : gG) (jh : Nat) (bk : Nat) (tp : Nat) (ps : Nat) (rl : Nat) (u1 : Value) (bd : Nat) (fr : Nat) (u2 : Value) (pn : Nat) (nl : Nat) (u3 : Value) (ca : Nat) (bc : Nat) (bb : Nat) (bs : Nat) : Met l yX11_undo wq_q_undo ({ frames := 0, cells := 0, slots := 0, locals := 0 }) (va_Pc [.ref jh] (pP G [(jh, .inr (12, [.ref bk, .ref tp, .ref ps, .ref rl, u1, .ref bd, .ref fr, u2, .ref pn, .ref nl, u3])), (bk, .inr (2, [.ref ca, .ref bc, .ref bb, .ref bs, .int 0, .int 0]))])) (vp_Si (fun r : Int32 => r = (-1))) 0 0 (fun _ => False) := by
  refine Met.ofW (cc := cX11_undo) (maxL := 2) (ret := (some .int)) (by decide) rfl ?_
  intro p e s m args below meth c s₁ B hml hv
  obtain ⟨rfl, hP, hB⟩ := hv
  have hx := B.exec
  have hb := B.bytes
  have hr := B.returns
  have hts := atoms_spec (ws := wq_q_undo) B.pre
  have hown : s.vm.findClass RX11 = some m.cls := findClass_of_methodNamed B.named
  have hlocks := B.notSynchronized
  have hK := hB.1
  have hP : va_P (gD G) vwCl [(jh, .inr (12, [.ref bk, .ref tp, .ref ps, .ref rl, u1, .ref bd, .ref fr, u2, .ref pn, .ref nl, u3])), (bk, .inr (2, [.ref ca, .ref bc, .ref bb, .ref bs, .int 0, .int 0]))] s.heap := hP
  have hl := lv_entry ([.ref jh]) (n := 2) (Nat.le_of_ble_eq_true rfl)
  rw [lg_entry_eq]
  generalize (lg_sl ([.ref jh]) ++ List.replicate (2 - (lg_sl ([.ref jh])).length) Slot.unset).toArray = ls at hl ⊢
  have hl : lv_has ls 2 [(0, .ref jh)] := hl
  refine lv_aload_n hx hb dX11_undo_0 rfl (lv_at hl 0 rfl) ?_
  refine va_get (D := gD G) (ci := 12) (v := .ref bk) (C := RX11) (T := TX11) (N := 11) hx hb hts (fun _ h9 => (List.mem_cons_of_mem _ (List.mem_append_right _ (List.mem_append_left _ h9)))) hown hK hP 0 rfl rfl 0 (by decide) (hts (.fieldLink RX11 10 "JudoHall" "book" "LJudoHall$Book;") (List.mem_cons_of_mem _ (List.mem_append_left _ (List.mem_of_getElem? (i := 0) rfl)))) (fun _ h9 => h9) rfl dX11_undo_1 ?_
  refine va_getN (D := gD G) (ci := 2) (v := .int 0) (C := RX1) (T := TX1) (N := 6) hx hb hts (fun _ h9 => (List.mem_cons_of_mem _ (List.mem_append_right _ (List.mem_append_right _ (List.mem_append_left _ h9))))) hown hK hP 1 rfl rfl 5 (by decide) (hB.nf 6 rfl) (fun _ h9 => h9) rfl dX11_undo_4 ?_
  refine lv_if_ne (tgt := 12) hx hb dX11_undo_7 (by decide) (fun c9 => absurd (by decide) c9) (fun _ => ?_)
  refine lv_iconst (v := (-1)) hx hb dX11_undo_10 (by decide) ?_
  exact W.iret (v := (-1)) hx hb hr (fun t ht hW => ⟨_, rfl, rfl, ht⟩) (fun q h => absurd h List.not_mem_nil) dX11_undo_11

def wo_q_count : List Cond := [.fieldLink RX11 37 "JudoHall" "roll" "LJudoHall$Roll;", .methodLink RX11 174 yX8_people, .instanceMethod yX8_people, .selects RX8 yX8_people yX8_people, .initialized RX8, .fieldLink RX11 10 "JudoHall" "book" "LJudoHall$Book;", .methodLink RX11 134 yX1_at, .instanceMethod yX1_at, .selects RX1 yX1_at yX1_at, .initialized RX1, .methodLink RX11 122 yX11_lawsNow, .instanceMethod yX11_lawsNow, .selects RX11 yX11_lawsNow yX11_lawsNow, .initialized RX11, .fieldLink RX11 60 "JudoHall" "floor" "LJudoHall$Floor;", .methodLink RX11 100 yX3_openFights, .instanceMethod yX3_openFights, .selects RX3 yX3_openFights yX3_openFights, .initialized RX3, .fieldLink RX11 19 "JudoHall" "tape" "LJudoHall$Tape;"]
def wq_q_count : List Cond := .code yX11_count cX11_count 2 (some .int) :: (wo_q_count ++ (wsX110 ++ (wq_c_people ++ (wq_c_Book_at ++ (wq_c_lawsNow ++ (wsX40 ++ (wq_c_openFights ++ (wsX10 ++ (wsX100 ++ [])))))))))
theorem gd_q_count : ∀ w ∈ wq_q_count, Gd w := List.forall_mem_cons.mpr ⟨Or.inl rfl, List.forall_mem_append.mpr ⟨gdl wo_q_count (by decide +kernel), (List.forall_mem_append.mpr ⟨gd_wsX110, (List.forall_mem_append.mpr ⟨gd_c_people, (List.forall_mem_append.mpr ⟨gd_c_Book_at, (List.forall_mem_append.mpr ⟨gd_c_lawsNow, (List.forall_mem_append.mpr ⟨gd_wsX40, (List.forall_mem_append.mpr ⟨gd_c_openFights, (List.forall_mem_append.mpr ⟨gd_wsX10, (List.forall_mem_append.mpr ⟨gd_wsX100, (fun _ h => absurd h List.not_mem_nil)⟩)⟩)⟩)⟩)⟩)⟩)⟩)⟩)⟩⟩
theorem in_q_count : ∀ w ∈ wq_q_count, w ∈ lw_tbl := List.forall_mem_cons.mpr ⟨List.mem_of_getElem? (i := 1546) (by decide +kernel), List.forall_mem_append.mpr ⟨inT wo_q_count [558, 1017, 1001, 1002, 162, 555, 866, 623, 624, 155, 962, 964, 34, 154, 561, 609, 610, 611, 165, 556] (by decide +kernel), (List.forall_mem_append.mpr ⟨in_wsX110, (List.forall_mem_append.mpr ⟨in_c_people, (List.forall_mem_append.mpr ⟨in_c_Book_at, (List.forall_mem_append.mpr ⟨in_c_lawsNow, (List.forall_mem_append.mpr ⟨in_wsX40, (List.forall_mem_append.mpr ⟨in_c_openFights, (List.forall_mem_append.mpr ⟨in_wsX10, (List.forall_mem_append.mpr ⟨in_wsX100, (fun _ h => absurd h List.not_mem_nil)⟩)⟩)⟩)⟩)⟩)⟩)⟩)⟩)⟩⟩
set_option maxHeartbeats 4000000 in
set_option maxRecDepth 100000 in
theorem q_count (l : Launch) (G : gG) (jh : Nat) (bk : Nat) (tp : Nat) (ps : Nat) (rl : Nat) (u1 : Value) (bd : Nat) (fr : Nat) (u2 : Value) (pn : Nat) (nl : Nat) (u3 : Value) (f1 : Value) (ty : Nat) (l1 : Value) (l2 : Value) (l3 : Value) (ca : Nat) (bc : Nat) (bb : Nat) (bs : Nat) (x : Int32) : Met l yX11_count wq_q_count ({ frames := 4, cells := 0, slots := 0, locals := 86 }) (va_Pc [.ref jh, .int x] (pP G [(jh, .inr (12, [.ref bk, .ref tp, .ref ps, .ref rl, u1, .ref bd, .ref fr, u2, .ref pn, .ref nl, u3])), (rl, .inr (9, [.ref bk])), (fr, .inr (4, [.ref bk, .ref bd, f1, .int 0])), (tp, .inr (11, [.ref ty, .int 0, .int 0, .int 0, .int 0, .int 0])), (nl, .inr (5, [.int 0, .int 0, .int 0, .int 0, .int 0, .int 0, l1, l2, l3])), (bk, .inr (2, [.ref ca, .ref bc, .ref bb, .ref bs, .int 0, .int 0])), (ca, .inl (gI G, 2088, .inl bk0))])) (vp_Si (fun r : Int32 => r = if x < 0 ∨ 9 ≤ x then (-1) else if x = 2 then 10 else 0)) 0 0 (fun _ => False) := by
  refine Met.ofW (cc := cX11_count) (maxL := 2) (ret := (some .int)) (by decide) rfl ?_
  intro p e s m args below meth c s₁ B hml hv
  obtain ⟨rfl, hP, hB⟩ := hv
  have hx := B.exec
  have hb := B.bytes
  have hr := B.returns
  have hts := atoms_spec (ws := wq_q_count) B.pre
  have hown : s.vm.findClass RX11 = some m.cls := findClass_of_methodNamed B.named
  have hlocks := B.notSynchronized
  have hK := hB.1
  have hP : va_P (gD G) vwCl [(jh, .inr (12, [.ref bk, .ref tp, .ref ps, .ref rl, u1, .ref bd, .ref fr, u2, .ref pn, .ref nl, u3])), (rl, .inr (9, [.ref bk])), (fr, .inr (4, [.ref bk, .ref bd, f1, .int 0])), (tp, .inr (11, [.ref ty, .int 0, .int 0, .int 0, .int 0, .int 0])), (nl, .inr (5, [.int 0, .int 0, .int 0, .int 0, .int 0, .int 0, l1, l2, l3])), (bk, .inr (2, [.ref ca, .ref bc, .ref bb, .ref bs, .int 0, .int 0])), (ca, .inl (gI G, 2088, .inl bk0))] s.heap := hP
  have hl := lv_entry ([.ref jh, .int x]) (n := 2) (Nat.le_of_ble_eq_true rfl)
  rw [lg_entry_eq]
  generalize (lg_sl ([.ref jh, .int x]) ++ List.replicate (2 - (lg_sl ([.ref jh, .int x])).length) Slot.unset).toArray = ls at hl ⊢
  have hl : lv_has ls 2 [(0, .ref jh), (1, .int x)] := hl
  refine lv_iload_n hx hb dX11_count_0 rfl (lv_at hl 1 rfl) ?_
  by_cases c_1 : x < 0
  · refine lv_tableOut (tgt := 126) hx hb dX11_count_1 (Or.inl (gx_n0 c_1)) (by decide) ?_
    refine lv_iconst (v := (-1)) hx hb dX11_count_126 (by decide) ?_
    exact W.iret (v := (-1)) hx hb hr (fun t ht hW => ⟨_, rfl, by rw [if_pos (show x < 0 ∨ 9 ≤ x from (Or.inl c_1))], ht⟩) (fun q h => absurd h List.not_mem_nil) dX11_count_127
  by_cases c_2 : 9 ≤ x
  · refine lv_tableOut (tgt := 126) hx hb dX11_count_1 (Or.inr (gx_nh (k := 9) (by decide) c_2)) (by decide) ?_
    refine lv_iconst (v := (-1)) hx hb dX11_count_126 (by decide) ?_
    exact W.iret (v := (-1)) hx hb hr (fun t ht hW => ⟨_, rfl, by rw [if_pos (show x < 0 ∨ 9 ≤ x from (Or.inr c_2))], ht⟩) (fun q h => absurd h List.not_mem_nil) dX11_count_127
  rcases gx_c9 c_1 c_2 with c_3 | c_4 | c_5 | c_6 | c_7 | c_8 | c_9 | c_10 | c_11
  · refine lv_tableIn (off := 51) (tgt := 52) hx hb dX11_count_1 (by rw [c_3]; decide) (by rw [c_3]; decide) (by rw [c_3]; rfl) (by decide) ?_
    refine lv_aload_n hx hb dX11_count_52 rfl (lv_at hl 0 rfl) ?_
    refine va_get (D := gD G) (ci := 12) (v := .ref rl) (C := RX11) (T := TX11) (N := 11) hx hb hts (fun _ h9 => (List.mem_cons_of_mem _ (List.mem_append_right _ (List.mem_append_left _ h9)))) hown hK hP 0 rfl rfl 3 (by decide) (hts (.fieldLink RX11 37 "JudoHall" "roll" "LJudoHall$Roll;") (List.mem_cons_of_mem _ (List.mem_append_left _ (List.mem_of_getElem? (i := 0) rfl)))) (fun _ h9 => h9) rfl dX11_count_53 ?_
    refine vp_callSi (va_Run.run (va_runV (As := []) (rest := []) ⟨hx, hb, hml, hown, hts⟩ (c_people l G rl bk ca (.ref bc) (.ref bb) (.ref bs) (.int 0) (.int 0)) (cwV 0 hts (gdV (List.mem_cons_of_mem _ (List.mem_append_left _ (List.mem_of_getElem? (i := 1) rfl))) (List.mem_cons_of_mem _ (List.mem_append_left _ (List.mem_of_getElem? (i := 2) rfl))) (List.mem_cons_of_mem _ (List.mem_append_left _ (List.mem_of_getElem? (i := 3) rfl))) (List.mem_cons_of_mem _ (List.mem_append_left _ (List.mem_of_getElem? (i := 4) rfl))) (fun w9 h9 => ⟨(List.mem_cons_of_mem _ (List.mem_append_right _ (List.mem_append_right _ (List.mem_append_left _ h9)))), gd_c_people w9 h9⟩)) rfl rfl rfl kVX8_people ⟨Nat.le_of_ble_eq_true rfl, Nat.le_of_ble_eq_true rfl⟩) (preV_p (As := []) (hP.sub (ws' := [(rl, .inr (9, [.ref bk])), (bk, .inr (2, [.ref ca, .ref bc, .ref bb, .ref bs, .int 0, .int 0])), (ca, .inl (gI G, 2088, .inl bk0))]) [1, 5, 6] rfl) hB rfl rfl) rfl rfl hl.1 rfl (lv_room (Nat.le_of_ble_eq_true rfl)) dX11_count_56 ⟨Nat.le_of_ble_eq_true rfl, Nat.le_of_ble_eq_true rfl⟩)) (fun r_12 hr_12 => ?_)
    subst hr_12
    exact W.iret (v := 0) hx hb hr (fun t ht hW => ⟨_, rfl, by rw [if_neg (show ¬ (x < 0 ∨ 9 ≤ x) from (not_or.mpr ⟨c_1, c_2⟩)), if_neg (show ¬ (x = 2) from (by rw [c_3]; decide))], ht⟩) (fun q h => absurd h List.not_mem_nil) dX11_count_59
  · refine lv_tableIn (off := 59) (tgt := 60) hx hb dX11_count_1 (by rw [c_4]; decide) (by rw [c_4]; decide) (by rw [c_4]; rfl) (by decide) ?_
    refine lv_aload_n hx hb dX11_count_60 rfl (lv_at hl 0 rfl) ?_
    refine va_get (D := gD G) (ci := 12) (v := .ref bk) (C := RX11) (T := TX11) (N := 11) hx hb hts (fun _ h9 => (List.mem_cons_of_mem _ (List.mem_append_right _ (List.mem_append_left _ h9)))) hown hK hP 0 rfl rfl 0 (by decide) (hts (.fieldLink RX11 10 "JudoHall" "book" "LJudoHall$Book;") (List.mem_cons_of_mem _ (List.mem_append_left _ (List.mem_of_getElem? (i := 5) rfl)))) (fun _ h9 => h9) rfl dX11_count_61 ?_
    refine lv_iconst (v := 0) hx hb dX11_count_64 (by decide) ?_
    refine vp_callSi (va_Run.run (va_runV (As := [.int 0]) (rest := []) ⟨hx, hb, hml, hown, hts⟩ (c_Book_at l G bk ca 2088 bk0 (.ref bc) (.ref bb) (.ref bs) (.int 0) (.int 0) 0 (by decide)) (cwV 1 hts (gdV (List.mem_cons_of_mem _ (List.mem_append_left _ (List.mem_of_getElem? (i := 6) rfl))) (List.mem_cons_of_mem _ (List.mem_append_left _ (List.mem_of_getElem? (i := 7) rfl))) (List.mem_cons_of_mem _ (List.mem_append_left _ (List.mem_of_getElem? (i := 8) rfl))) (List.mem_cons_of_mem _ (List.mem_append_left _ (List.mem_of_getElem? (i := 9) rfl))) (fun w9 h9 => ⟨(List.mem_cons_of_mem _ (List.mem_append_right _ (List.mem_append_right _ (List.mem_append_right _ (List.mem_append_left _ h9))))), gd_c_Book_at w9 h9⟩)) rfl rfl rfl kVX1_at ⟨Nat.le_of_ble_eq_true rfl, Nat.le_of_ble_eq_true rfl⟩) (preV_p (As := [.int 0]) (hP.sub (ws' := [(bk, .inr (2, [.ref ca, .ref bc, .ref bb, .ref bs, .int 0, .int 0])), (ca, .inl (gI G, 2088, .inl bk0))]) [5, 6] rfl) hB rfl rfl) rfl rfl hl.1 rfl (lv_room (Nat.le_of_ble_eq_true rfl)) dX11_count_65 ⟨Nat.le_of_ble_eq_true rfl, Nat.le_of_ble_eq_true rfl⟩)) (fun r_13 hr_13 => ?_)
    have hr_13 : r_13 = 0 := hr_13.trans (by decide +kernel)
    subst hr_13
    exact W.iret (v := 0) hx hb hr (fun t ht hW => ⟨_, rfl, by rw [if_neg (show ¬ (x < 0 ∨ 9 ≤ x) from (not_or.mpr ⟨c_1, c_2⟩)), if_neg (show ¬ (x = 2) from (by rw [c_4]; decide))], ht⟩) (fun q h => absurd h List.not_mem_nil) dX11_count_68
  · refine lv_tableIn (off := 68) (tgt := 69) hx hb dX11_count_1 (by rw [c_5]; decide) (by rw [c_5]; decide) (by rw [c_5]; rfl) (by decide) ?_
    refine lv_aload_n hx hb dX11_count_69 rfl (lv_at hl 0 rfl) ?_
    refine va_get (D := gD G) (ci := 12) (v := .ref bk) (C := RX11) (T := TX11) (N := 11) hx hb hts (fun _ h9 => (List.mem_cons_of_mem _ (List.mem_append_right _ (List.mem_append_left _ h9)))) hown hK hP 0 rfl rfl 0 (by decide) (hts (.fieldLink RX11 10 "JudoHall" "book" "LJudoHall$Book;") (List.mem_cons_of_mem _ (List.mem_append_left _ (List.mem_of_getElem? (i := 5) rfl)))) (fun _ h9 => h9) rfl dX11_count_70 ?_
    refine lv_iconst (v := 1) hx hb dX11_count_73 (by decide) ?_
    refine vp_callSi (va_Run.run (va_runV (As := [.int 1]) (rest := []) ⟨hx, hb, hml, hown, hts⟩ (c_Book_at l G bk ca 2088 bk0 (.ref bc) (.ref bb) (.ref bs) (.int 0) (.int 0) 1 (by decide)) (cwV 1 hts (gdV (List.mem_cons_of_mem _ (List.mem_append_left _ (List.mem_of_getElem? (i := 6) rfl))) (List.mem_cons_of_mem _ (List.mem_append_left _ (List.mem_of_getElem? (i := 7) rfl))) (List.mem_cons_of_mem _ (List.mem_append_left _ (List.mem_of_getElem? (i := 8) rfl))) (List.mem_cons_of_mem _ (List.mem_append_left _ (List.mem_of_getElem? (i := 9) rfl))) (fun w9 h9 => ⟨(List.mem_cons_of_mem _ (List.mem_append_right _ (List.mem_append_right _ (List.mem_append_right _ (List.mem_append_left _ h9))))), gd_c_Book_at w9 h9⟩)) rfl rfl rfl kVX1_at ⟨Nat.le_of_ble_eq_true rfl, Nat.le_of_ble_eq_true rfl⟩) (preV_p (As := [.int 1]) (hP.sub (ws' := [(bk, .inr (2, [.ref ca, .ref bc, .ref bb, .ref bs, .int 0, .int 0])), (ca, .inl (gI G, 2088, .inl bk0))]) [5, 6] rfl) hB rfl rfl) rfl rfl hl.1 rfl (lv_room (Nat.le_of_ble_eq_true rfl)) dX11_count_74 ⟨Nat.le_of_ble_eq_true rfl, Nat.le_of_ble_eq_true rfl⟩)) (fun r_14 hr_14 => ?_)
    have hr_14 : r_14 = 10 := hr_14.trans (by decide +kernel)
    subst hr_14
    exact W.iret (v := 10) hx hb hr (fun t ht hW => ⟨_, rfl, by rw [if_neg (show ¬ (x < 0 ∨ 9 ≤ x) from (not_or.mpr ⟨c_1, c_2⟩)), if_pos (show x = 2 from c_5)], ht⟩) (fun q h => absurd h List.not_mem_nil) dX11_count_77
  · refine lv_tableIn (off := 77) (tgt := 78) hx hb dX11_count_1 (by rw [c_6]; decide) (by rw [c_6]; decide) (by rw [c_6]; rfl) (by decide) ?_
    refine lv_aload_n hx hb dX11_count_78 rfl (lv_at hl 0 rfl) ?_
    refine va_csr (va_Run.run (va_runV (As := []) (rest := []) ⟨hx, hb, hml, hown, hts⟩ (c_lawsNow l G jh bk tp ps rl u1 bd fr u2 pn nl u3 ca bc bb bs l1 l2 l3) (cwV 0 hts (gdV (List.mem_cons_of_mem _ (List.mem_append_left _ (List.mem_of_getElem? (i := 10) rfl))) (List.mem_cons_of_mem _ (List.mem_append_left _ (List.mem_of_getElem? (i := 11) rfl))) (List.mem_cons_of_mem _ (List.mem_append_left _ (List.mem_of_getElem? (i := 12) rfl))) (List.mem_cons_of_mem _ (List.mem_append_left _ (List.mem_of_getElem? (i := 13) rfl))) (fun w9 h9 => ⟨(List.mem_cons_of_mem _ (List.mem_append_right _ (List.mem_append_right _ (List.mem_append_right _ (List.mem_append_right _ (List.mem_append_left _ h9)))))), gd_c_lawsNow w9 h9⟩)) rfl rfl rfl kVX11_lawsNow ⟨Nat.le_of_ble_eq_true rfl, Nat.le_of_ble_eq_true rfl⟩) (preV_p (As := []) (hP.sub (ws' := [(jh, .inr (12, [.ref bk, .ref tp, .ref ps, .ref rl, u1, .ref bd, .ref fr, u2, .ref pn, .ref nl, u3])), (bk, .inr (2, [.ref ca, .ref bc, .ref bb, .ref bs, .int 0, .int 0])), (ca, .inl (gI G, 2088, .inl bk0)), (nl, .inr (5, [.int 0, .int 0, .int 0, .int 0, .int 0, .int 0, l1, l2, l3]))]) [0, 5, 6, 4] rfl) hB rfl rfl) rfl rfl hl.1 rfl (lv_room (Nat.le_of_ble_eq_true rfl)) dX11_count_79 ⟨Nat.le_of_ble_eq_true rfl, Nat.le_of_ble_eq_true rfl⟩)) (fun _ _ => ?_)
    refine W.eq (g2 := F0 m 82 ls [.ref nl]) rfl ?_
    refine va_getN (D := gD G) (ci := 5) (v := .int 0) (C := RX4) (T := TX4) (N := 9) hx hb hts (fun _ h9 => (List.mem_cons_of_mem _ (List.mem_append_right _ (List.mem_append_right _ (List.mem_append_right _ (List.mem_append_right _ (List.mem_append_right _ (List.mem_append_left _ h9)))))))) hown hK hP 4 rfl rfl 2 (by decide) (hB.nf 5 rfl) (fun _ h9 => h9) rfl dX11_count_82 ?_
    exact W.iret (v := 0) hx hb hr (fun t ht hW => ⟨_, rfl, by rw [if_neg (show ¬ (x < 0 ∨ 9 ≤ x) from (not_or.mpr ⟨c_1, c_2⟩)), if_neg (show ¬ (x = 2) from (by rw [c_6]; decide))], ht⟩) (fun q h => absurd h List.not_mem_nil) dX11_count_85
  · refine lv_tableIn (off := 85) (tgt := 86) hx hb dX11_count_1 (by rw [c_7]; decide) (by rw [c_7]; decide) (by rw [c_7]; rfl) (by decide) ?_
    refine lv_aload_n hx hb dX11_count_86 rfl (lv_at hl 0 rfl) ?_
    refine va_csr (va_Run.run (va_runV (As := []) (rest := []) ⟨hx, hb, hml, hown, hts⟩ (c_lawsNow l G jh bk tp ps rl u1 bd fr u2 pn nl u3 ca bc bb bs l1 l2 l3) (cwV 0 hts (gdV (List.mem_cons_of_mem _ (List.mem_append_left _ (List.mem_of_getElem? (i := 10) rfl))) (List.mem_cons_of_mem _ (List.mem_append_left _ (List.mem_of_getElem? (i := 11) rfl))) (List.mem_cons_of_mem _ (List.mem_append_left _ (List.mem_of_getElem? (i := 12) rfl))) (List.mem_cons_of_mem _ (List.mem_append_left _ (List.mem_of_getElem? (i := 13) rfl))) (fun w9 h9 => ⟨(List.mem_cons_of_mem _ (List.mem_append_right _ (List.mem_append_right _ (List.mem_append_right _ (List.mem_append_right _ (List.mem_append_left _ h9)))))), gd_c_lawsNow w9 h9⟩)) rfl rfl rfl kVX11_lawsNow ⟨Nat.le_of_ble_eq_true rfl, Nat.le_of_ble_eq_true rfl⟩) (preV_p (As := []) (hP.sub (ws' := [(jh, .inr (12, [.ref bk, .ref tp, .ref ps, .ref rl, u1, .ref bd, .ref fr, u2, .ref pn, .ref nl, u3])), (bk, .inr (2, [.ref ca, .ref bc, .ref bb, .ref bs, .int 0, .int 0])), (ca, .inl (gI G, 2088, .inl bk0)), (nl, .inr (5, [.int 0, .int 0, .int 0, .int 0, .int 0, .int 0, l1, l2, l3]))]) [0, 5, 6, 4] rfl) hB rfl rfl) rfl rfl hl.1 rfl (lv_room (Nat.le_of_ble_eq_true rfl)) dX11_count_87 ⟨Nat.le_of_ble_eq_true rfl, Nat.le_of_ble_eq_true rfl⟩)) (fun _ _ => ?_)
    refine W.eq (g2 := F0 m 90 ls [.ref nl]) rfl ?_
    refine va_getN (D := gD G) (ci := 5) (v := .int 0) (C := RX4) (T := TX4) (N := 9) hx hb hts (fun _ h9 => (List.mem_cons_of_mem _ (List.mem_append_right _ (List.mem_append_right _ (List.mem_append_right _ (List.mem_append_right _ (List.mem_append_right _ (List.mem_append_left _ h9)))))))) hown hK hP 4 rfl rfl 3 (by decide) (hB.nf 1 rfl) (fun _ h9 => h9) rfl dX11_count_90 ?_
    exact W.iret (v := 0) hx hb hr (fun t ht hW => ⟨_, rfl, by rw [if_neg (show ¬ (x < 0 ∨ 9 ≤ x) from (not_or.mpr ⟨c_1, c_2⟩)), if_neg (show ¬ (x = 2) from (by rw [c_7]; decide))], ht⟩) (fun q h => absurd h List.not_mem_nil) dX11_count_93
  · refine lv_tableIn (off := 93) (tgt := 94) hx hb dX11_count_1 (by rw [c_8]; decide) (by rw [c_8]; decide) (by rw [c_8]; rfl) (by decide) ?_
    refine lv_aload_n hx hb dX11_count_94 rfl (lv_at hl 0 rfl) ?_
    refine va_csr (va_Run.run (va_runV (As := []) (rest := []) ⟨hx, hb, hml, hown, hts⟩ (c_lawsNow l G jh bk tp ps rl u1 bd fr u2 pn nl u3 ca bc bb bs l1 l2 l3) (cwV 0 hts (gdV (List.mem_cons_of_mem _ (List.mem_append_left _ (List.mem_of_getElem? (i := 10) rfl))) (List.mem_cons_of_mem _ (List.mem_append_left _ (List.mem_of_getElem? (i := 11) rfl))) (List.mem_cons_of_mem _ (List.mem_append_left _ (List.mem_of_getElem? (i := 12) rfl))) (List.mem_cons_of_mem _ (List.mem_append_left _ (List.mem_of_getElem? (i := 13) rfl))) (fun w9 h9 => ⟨(List.mem_cons_of_mem _ (List.mem_append_right _ (List.mem_append_right _ (List.mem_append_right _ (List.mem_append_right _ (List.mem_append_left _ h9)))))), gd_c_lawsNow w9 h9⟩)) rfl rfl rfl kVX11_lawsNow ⟨Nat.le_of_ble_eq_true rfl, Nat.le_of_ble_eq_true rfl⟩) (preV_p (As := []) (hP.sub (ws' := [(jh, .inr (12, [.ref bk, .ref tp, .ref ps, .ref rl, u1, .ref bd, .ref fr, u2, .ref pn, .ref nl, u3])), (bk, .inr (2, [.ref ca, .ref bc, .ref bb, .ref bs, .int 0, .int 0])), (ca, .inl (gI G, 2088, .inl bk0)), (nl, .inr (5, [.int 0, .int 0, .int 0, .int 0, .int 0, .int 0, l1, l2, l3]))]) [0, 5, 6, 4] rfl) hB rfl rfl) rfl rfl hl.1 rfl (lv_room (Nat.le_of_ble_eq_true rfl)) dX11_count_95 ⟨Nat.le_of_ble_eq_true rfl, Nat.le_of_ble_eq_true rfl⟩)) (fun _ _ => ?_)
    refine W.eq (g2 := F0 m 98 ls [.ref nl]) rfl ?_
    refine va_getN (D := gD G) (ci := 5) (v := .int 0) (C := RX4) (T := TX4) (N := 9) hx hb hts (fun _ h9 => (List.mem_cons_of_mem _ (List.mem_append_right _ (List.mem_append_right _ (List.mem_append_right _ (List.mem_append_right _ (List.mem_append_right _ (List.mem_append_left _ h9)))))))) hown hK hP 4 rfl rfl 4 (by decide) (hB.nf 7 rfl) (fun _ h9 => h9) rfl dX11_count_98 ?_
    exact W.iret (v := 0) hx hb hr (fun t ht hW => ⟨_, rfl, by rw [if_neg (show ¬ (x < 0 ∨ 9 ≤ x) from (not_or.mpr ⟨c_1, c_2⟩)), if_neg (show ¬ (x = 2) from (by rw [c_8]; decide))], ht⟩) (fun q h => absurd h List.not_mem_nil) dX11_count_101
  · refine lv_tableIn (off := 101) (tgt := 102) hx hb dX11_count_1 (by rw [c_9]; decide) (by rw [c_9]; decide) (by rw [c_9]; rfl) (by decide) ?_
    refine lv_aload_n hx hb dX11_count_102 rfl (lv_at hl 0 rfl) ?_
    refine va_get (D := gD G) (ci := 12) (v := .ref fr) (C := RX11) (T := TX11) (N := 11) hx hb hts (fun _ h9 => (List.mem_cons_of_mem _ (List.mem_append_right _ (List.mem_append_left _ h9)))) hown hK hP 0 rfl rfl 6 (by decide) (hts (.fieldLink RX11 60 "JudoHall" "floor" "LJudoHall$Floor;") (List.mem_cons_of_mem _ (List.mem_append_left _ (List.mem_of_getElem? (i := 14) rfl)))) (fun _ h9 => h9) rfl dX11_count_103 ?_
    refine vp_callSi (va_Run.run (va_runV (As := []) (rest := []) ⟨hx, hb, hml, hown, hts⟩ (c_openFights l G fr bk (.ref bd) f1 (.int 0) ca (.ref bc) (.ref bb) (.ref bs) (.int 0) (.int 0)) (cwV 0 hts (gdV (List.mem_cons_of_mem _ (List.mem_append_left _ (List.mem_of_getElem? (i := 15) rfl))) (List.mem_cons_of_mem _ (List.mem_append_left _ (List.mem_of_getElem? (i := 16) rfl))) (List.mem_cons_of_mem _ (List.mem_append_left _ (List.mem_of_getElem? (i := 17) rfl))) (List.mem_cons_of_mem _ (List.mem_append_left _ (List.mem_of_getElem? (i := 18) rfl))) (fun w9 h9 => ⟨(List.mem_cons_of_mem _ (List.mem_append_right _ (List.mem_append_right _ (List.mem_append_right _ (List.mem_append_right _ (List.mem_append_right _ (List.mem_append_right _ (List.mem_append_left _ h9)))))))), gd_c_openFights w9 h9⟩)) rfl rfl rfl kVX3_openFights ⟨Nat.le_of_ble_eq_true rfl, Nat.le_of_ble_eq_true rfl⟩) (preV_p (As := []) (hP.sub (ws' := [(fr, .inr (4, [.ref bk, .ref bd, f1, .int 0])), (bk, .inr (2, [.ref ca, .ref bc, .ref bb, .ref bs, .int 0, .int 0])), (ca, .inl (gI G, 2088, .inl bk0))]) [2, 5, 6] rfl) hB rfl rfl) rfl rfl hl.1 rfl (lv_room (Nat.le_of_ble_eq_true rfl)) dX11_count_106 ⟨Nat.le_of_ble_eq_true rfl, Nat.le_of_ble_eq_true rfl⟩)) (fun r_18 hr_18 => ?_)
    subst hr_18
    exact W.iret (v := 0) hx hb hr (fun t ht hW => ⟨_, rfl, by rw [if_neg (show ¬ (x < 0 ∨ 9 ≤ x) from (not_or.mpr ⟨c_1, c_2⟩)), if_neg (show ¬ (x = 2) from (by rw [c_9]; decide))], ht⟩) (fun q h => absurd h List.not_mem_nil) dX11_count_109
  · refine lv_tableIn (off := 109) (tgt := 110) hx hb dX11_count_1 (by rw [c_10]; decide) (by rw [c_10]; decide) (by rw [c_10]; rfl) (by decide) ?_
    refine lv_aload_n hx hb dX11_count_110 rfl (lv_at hl 0 rfl) ?_
    refine va_get (D := gD G) (ci := 12) (v := .ref bk) (C := RX11) (T := TX11) (N := 11) hx hb hts (fun _ h9 => (List.mem_cons_of_mem _ (List.mem_append_right _ (List.mem_append_left _ h9)))) hown hK hP 0 rfl rfl 0 (by decide) (hts (.fieldLink RX11 10 "JudoHall" "book" "LJudoHall$Book;") (List.mem_cons_of_mem _ (List.mem_append_left _ (List.mem_of_getElem? (i := 5) rfl)))) (fun _ h9 => h9) rfl dX11_count_111 ?_
    refine va_getN (D := gD G) (ci := 2) (v := .int 0) (C := RX1) (T := TX1) (N := 6) hx hb hts (fun _ h9 => (List.mem_cons_of_mem _ (List.mem_append_right _ (List.mem_append_right _ (List.mem_append_right _ (List.mem_append_right _ (List.mem_append_right _ (List.mem_append_right _ (List.mem_append_right _ (List.mem_append_left _ h9)))))))))) hown hK hP 5 rfl rfl 5 (by decide) (hB.nf 6 rfl) (fun _ h9 => h9) rfl dX11_count_114 ?_
    exact W.iret (v := 0) hx hb hr (fun t ht hW => ⟨_, rfl, by rw [if_neg (show ¬ (x < 0 ∨ 9 ≤ x) from (not_or.mpr ⟨c_1, c_2⟩)), if_neg (show ¬ (x = 2) from (by rw [c_10]; decide))], ht⟩) (fun q h => absurd h List.not_mem_nil) dX11_count_117
  · refine lv_tableIn (off := 117) (tgt := 118) hx hb dX11_count_1 (by rw [c_11]; decide) (by rw [c_11]; decide) (by rw [c_11]; rfl) (by decide) ?_
    refine lv_aload_n hx hb dX11_count_118 rfl (lv_at hl 0 rfl) ?_
    refine va_get (D := gD G) (ci := 12) (v := .ref tp) (C := RX11) (T := TX11) (N := 11) hx hb hts (fun _ h9 => (List.mem_cons_of_mem _ (List.mem_append_right _ (List.mem_append_left _ h9)))) hown hK hP 0 rfl rfl 1 (by decide) (hts (.fieldLink RX11 19 "JudoHall" "tape" "LJudoHall$Tape;") (List.mem_cons_of_mem _ (List.mem_append_left _ (List.mem_of_getElem? (i := 19) rfl)))) (fun _ h9 => h9) rfl dX11_count_119 ?_
    refine va_getN (D := gD G) (ci := 11) (v := .int 0) (C := RX10) (T := TX10) (N := 6) hx hb hts (fun _ h9 => (List.mem_cons_of_mem _ (List.mem_append_right _ (List.mem_append_right _ (List.mem_append_right _ (List.mem_append_right _ (List.mem_append_right _ (List.mem_append_right _ (List.mem_append_right _ (List.mem_append_right _ (List.mem_append_left _ h9))))))))))) hown hK hP 3 rfl rfl 1 (by decide) (hB.nf 0 rfl) (fun _ h9 => h9) rfl dX11_count_122 ?_
    exact W.iret (v := 0) hx hb hr (fun t ht hW => ⟨_, rfl, by rw [if_neg (show ¬ (x < 0 ∨ 9 ≤ x) from (not_or.mpr ⟨c_1, c_2⟩)), if_neg (show ¬ (x = 2) from (by rw [c_11]; decide))], ht⟩) (fun q h => absurd h List.not_mem_nil) dX11_count_125
