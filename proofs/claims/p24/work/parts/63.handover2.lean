set_option maxHeartbeats 4000000 in
set_option maxRecDepth 100000 in
theorem n_X5_handOver (l : Launch) (G : gG) (Z : gC) (Q : Nat → Nat) (D : Nat × Nat) (T : va_W) (u : MS) (sz : Nat) : Met l yX5_handOver (Cond.code yX5_handOver cX5_handOver 2 (some (.object "JudoHall$Laws")) :: wKN) { frames := 3, cells := 7, slots := 352, locals := 65 } (va_Pc [.ref (Q 3)] (cPM G Z Q D T u sz)) (va_Qr (fun _ : Unit => True) (fun (_ : Unit) (a : Nat) (t : State) => a = Q 10 ∧ ∃ q hc ac he ae ho ao : Nat, va_P (gD G) vwCl (cW G (Qn Q q hc ac he ae ho ao) D (opk G Q D u ++ T) (dnew u)) t.heap ∧ va_D (va_A (cW G Q D T u) sz) (cW G (Qn Q q hc ac he ae ho ao) D (opk G Q D u ++ T) (dnew u))) (va_A (cW G Q D T u) sz)) 7 352 (va_A (cW G Q D T u) sz) := by
  refine Met.ofW (cc := cX5_handOver) (maxL := 2) (ret := (some (.object "JudoHall$Laws"))) (by decide) rfl ?_
  intro p e s m args below meth c s₁ B hml hv
  obtain ⟨rfl, rfl, hP, hB, hD0, hE⟩ := hv
  have hr := B.returns
  have hlocks := B.notSynchronized
  have hts0 := atoms_spec (ws := Cond.code yX5_handOver cX5_handOver 2 (some (.object "JudoHall$Laws")) :: wKN) B.pre
  have htsN : ∀ w ∈ wKN, w.before _ s = true := fun w h => hts0 w (List.mem_cons_of_mem _ h)
  have hts : ∀ w ∈ wK, w.before _ s = true := fun w h => htsN w (List.mem_append_left _ h)
  have hD := hD0.self (sz := s.heap.size)
  have hA : ∀ q : Nat, s.heap.size ≤ q → va_A (cW G Q D T u) s.heap.size q := fun q h => Or.inr h
  generalize va_A (cW G Q D T u) s.heap.size = A at hD hA hE ⊢
  have hC : cX p c cX5_handOver 2 s m _ RX5 G Z A := ⟨B.exec, B.bytes, hml, findClass_of_methodNamed B.named, hts, hB, hE, hA⟩
  have hx := hC.1
  have hb := hC.2.1
  have hown := hC.2.2.2.1
  have hK := hB.1
  have hS : va_S A s.heap s.heap [] := va_S.rf
  have hH : cH G Q D T A u s s.heap [] := ⟨hP, hD, hS⟩
  have hl := lv_entry ([.ref (Q 3)]) (n := 2) (Nat.le_of_ble_eq_true rfl)
  rw [lg_entry_eq]
  generalize (lg_sl ([.ref (Q 3)]) ++ List.replicate (2 - (lg_sl ([.ref (Q 3)])).length) Slot.unset).toArray = ls at hl ⊢
  have hl : lv_has ls 2 [(0, .ref (Q 3))] := hl
  refine lv_aload_n hx hb dX5_handOver_0 rfl (lv_at hl 0 rfl) ?_
  refine cg_X5_33 hC hH dX5_handOver_1 ?_
  refine lv_astore_n (lv' := [(1, .ref (Q 10)), (0, .ref (Q 3))]) hx hb dX5_handOver_4 rfl hl (by decide) rfl (fun ls hl => ?_)
  refine lv_aload_n hx hb dX5_handOver_5 rfl (lv_at hl 1 rfl) ?_
  refine va_new (D := gD G) (ci := 5) (fs := [.int 0, .int 0, .int 0, .int 0, .int 0, .int 0, .null, .null, .null]) (C := RX4) (T := TX4) (N := 9) hx hb hts wKin_X4 tyX4 tyX4_ok hown (hts _ wka36) (htsN _ wn0) (hts _ wka748) hK hP hD hS hA rfl dvX4 (Nat.le_of_ble_eq_true rfl) (Nat.le_of_ble_eq_true rfl) dX5_handOver_6 (fun q H hP hD hS => ?_)
  refine lv_dup hx hb dX5_handOver_9 rfl ?_
  have hxn : ((cW G Q D T u) ++ [(q, .inr (5, [.int 0, .int 0, .int 0, .int 0, .int 0, .int 0, .null, .null, .null]))])[(cW G Q D T u).length]? = some (q, .inr (5, [.int 0, .int 0, .int 0, .int 0, .int 0, .int 0, .null, .null, .null])) := by rw [List.getElem?_append_right (Nat.le_refl _), Nat.sub_self]; rfl
  have hPc : va_P (gD G) vwCl [(q, .inr (5, [.int 0, .int 0, .int 0, .int 0, .int 0, .int 0, .null, .null, .null]))] H := fun k x hk => match k, hk with | 0, hk => by cases Option.some.inj hk; exact hP _ _ hxn
  have hDc : va_D A [(q, .inr (5, [.int 0, .int 0, .int 0, .int 0, .int 0, .int 0, .null, .null, .null]))] := ⟨fun a b x y ha hb _ => match a, b, ha, hb with | 0, 0, _, _ => rfl, fun k x hk => match k, hk with | 0, hk => by cases Option.some.inj hk; exact hD.2 _ _ hxn⟩
  have hFc : ∀ z, va_A [(q, .inr (5, [.int 0, .int 0, .int 0, .int 0, .int 0, .int 0, .null, .null, .null]))] H.size z → A z := fun z hz => by
    rcases hz with ⟨k, y, hz⟩ | hz
    · exact hDc.2 k (z, y) hz
    · exact hA z (Nat.le_trans hS.1 hz)
  refine va_callv (va_runI (As := []) (rest := [.ref q, .ref (Q 3)]) ⟨hx, hb, hml, hown, htsN⟩ (k_Laws_init l G q H.size) (cwI 0 htsN (fun w9 h9 => ⟨List.mem_append_right _ (List.mem_append_right _ h9), gd_k_Laws_init w9 h9⟩) rfl rfl rfl (hts _ wka748) (htsN _ wn1) (htsN _ wn2) rfl kSX4_init ⟨Nat.le_of_ble_eq_true rfl, Nat.le_of_ble_eq_true rfl⟩) (preS_m (As := [.ref q]) hPc hB hDc) rfl rfl hl.1 rfl (lv_room (Nat.le_of_ble_eq_true rfl)) dX5_handOver_10 ⟨Nat.le_of_ble_eq_true rfl, Nat.le_of_ble_eq_true rfl⟩) hS (fun z _ h => hFc z h) hFc (fun u2 t H1 locs ht hvm hw hB1 hz1 hk1 hS => ?_)
  obtain ⟨hc, ac, he, ae, ho, ao, hP1, hD1⟩ := hB1
  rw [ht] at hP1
  obtain ⟨hP, hD⟩ := c_join hP hD hk1 hFc hP1 hD1
  refine W.eq (g2 := F0 m 13 ls [.ref q, .ref (Q 3)]) rfl ?_
  refine va_put (D := gD G) (ci := 6) (v := .ref q) (ty := tyX5 4) (C := RX5) (T := TX5) (N := 14) hx hb hts wKin_X5 tyX5 tyX5_ok nmX5 hown hK hP hD hS 3 rfl rfl 4 (by decide) (hts _ wka54) (fun _ h9 => h9) rfl (tyX5_ok 4 (by decide)) rfl rfl (Nat.le_of_ble_eq_true rfl) dX5_handOver_13 (fun H locs hP hD hS => ?_)
  obtain ⟨hP, hD⟩ := ho_idx (q := q) (hc := hc) (ac := ac) (he := he) (ae := ae) (ho := ho) (ao := ao) hP hD
  refine lv_aload_n hx hb dX5_handOver_16 rfl (lv_at hl 0 rfl) ?_
  refine W.widen (k := 7) (n := 352) (Nat.le_of_ble_eq_true rfl) (Nat.le_of_ble_eq_true rfl) ?_
  exact W.aret (v := .ref (Q 10)) hx hb hr (Or.inl ⟨_, rfl⟩) (Or.inr ⟨_, rfl⟩) (fun t ht hW => ⟨⟨(), _, rfl, trivial, rfl, q, hc, ac, he, ae, ho, ao, by rw [ht]; exact hP, hD⟩, hS.F ht⟩) hS.2.2 dX5_handOver_17

