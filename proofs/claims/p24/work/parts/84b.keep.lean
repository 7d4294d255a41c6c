def wA1 : List Cond := [.instanceMethod yJx4a65c_add_9ea2d, .selects RJx4a65c yJx4a65c_add_9ea2d yJx4a65c_add_9ea2d]
def wKA : List Cond := wK ++ (wA1 ++ (wq_a_add1 ++ (wq_a_add1g ++ (wq_a_add1z ++ wS))))
theorem gd_wKA : ∀ w ∈ wKA, Gd w := List.forall_mem_append.mpr ⟨gd_wK, List.forall_mem_append.mpr ⟨gdl wA1 (by decide +kernel), List.forall_mem_append.mpr ⟨gd_a_add1, List.forall_mem_append.mpr ⟨gd_a_add1g, List.forall_mem_append.mpr ⟨gd_a_add1z, gd_wS⟩⟩⟩⟩⟩
theorem in_wKA : ∀ w ∈ wKA, w ∈ lw_tbl := List.forall_mem_append.mpr ⟨in_wK, List.forall_mem_append.mpr ⟨inT wA1 [884, 885] (by decide +kernel), List.forall_mem_append.mpr ⟨in_a_add1, List.forall_mem_append.mpr ⟨in_a_add1g, List.forall_mem_append.mpr ⟨in_a_add1z, in_wS⟩⟩⟩⟩⟩
theorem wKA0 : ∀ w ∈ wK, w ∈ wKA := fun _ h => List.mem_append_left _ h
theorem wKA1 : ∀ w ∈ wA1, w ∈ wKA := fun _ h => List.mem_append_right _ (List.mem_append_left _ h)
theorem wKA2 : ∀ w ∈ wq_a_add1, w ∈ wKA := fun _ h => List.mem_append_right _ (List.mem_append_right _ (List.mem_append_left _ h))
theorem wKA3 : ∀ w ∈ wq_a_add1g, w ∈ wKA := fun _ h => List.mem_append_right _ (List.mem_append_right _ (List.mem_append_right _ (List.mem_append_left _ h)))
theorem wKA4 : ∀ w ∈ wq_a_add1z, w ∈ wKA := fun _ h => List.mem_append_right _ (List.mem_append_right _ (List.mem_append_right _ (List.mem_append_right _ (List.mem_append_left _ h))))
theorem wKA5 : ∀ w ∈ wS, w ∈ wKA := fun _ h => List.mem_append_right _ (List.mem_append_right _ (List.mem_append_right _ (List.mem_append_right _ (List.mem_append_right _ h))))
def cPL (G : gG) (Z : gC) (mi : Nat) (Q : Nat → Nat) (D : Nat × Nat) (T : va_W) (u : MS) (sz : Nat) (U : State) : Prop := cPM G Z Q D T u sz U ∧ lE mi Z (va_A (cW G Q D T u) sz) U U.heap
theorem cPL.blind {G : gG} {Z : gC} {mi : Nat} {Q : Nat → Nat} {D : Nat × Nat} {T : va_W} {u : MS} {sz : Nat} {av : List Value} : FrameBlind (va_Pc av (cPL G Z mi Q D T u sz)) := fun a U j mk q => ⟨q.1, (cPM.blind (av := av) a U j mk ⟨q.1, q.2.1⟩).2, q.2.2.calling j mk _⟩
set_option maxHeartbeats 4000000 in
set_option maxRecDepth 100000 in
theorem n_X11_keepA (l : Launch) (G : gG) (Z : gC) (mi : Nat) (Q : Nat → Nat) (D : Nat × Nat) (T0 : va_W) (u u1 : MS) (r x mc : Int32) (C1 C2 v sz : Nat) (vs : List Value) (t0 cap n : Nat) (f : Nat → Option Nat) (hxe : rg (u.2 0) 2088 3 = x)  (hel : ∀ i y : Nat, i < cap → f i = some y → ∃ vs : List Value, (y, .inr (5, vs)) ∈ T0) (hn : n < cap) (hcp : cap < 2 ^ 31) (hge : ¬ x < 0 → nI n ≤ x) (hF : x_X1_put 3 (x + 1) u = some (r, u1, C1, C2)) : Met l yX11_keepLaws (Cond.code yX11_keepLaws cX11_keepLaws 3 none :: wKA) { frames := 4, cells := C1, slots := C2, locals := 109 } (va_Pc [.ref (Q 0), .ref v] (cPL G Z mi Q D ([(Q 13, .inr (0, [.int mc, .ref t0, .int (nI n)])), (t0, .inl (Z.1.1 1000, cap, .inr (.inr (.inr (.inr (f)))))), (v, .inr (5, vs))] ++ T0) u sz)) (va_Qv (fun _ : Unit => True) (fun (_ : Unit) (t : State) => ∃ (q : Nat) (D1 : Nat × Nat), va_P (gD G) vwCl (cW G Q D1 ([(Q 13, .inr (0, [.int (mc + 1), .ref t0, .int (nI (n + 1))])), (t0, .inl (Z.1.1 1000, cap, .inr (.inr (.inr (.inr (va_up f n (some v))))))), (v, .inr (5, vs))] ++ T0) u1) t.heap ∧ va_D (va_A (cW G Q D ([(Q 13, .inr (0, [.int mc, .ref t0, .int (nI n)])), (t0, .inl (Z.1.1 1000, cap, .inr (.inr (.inr (.inr (f)))))), (v, .inr (5, vs))] ++ T0) u) sz) (cW G Q D1 ([(Q 13, .inr (0, [.int (mc + 1), .ref t0, .int (nI (n + 1))])), (t0, .inl (Z.1.1 1000, cap, .inr (.inr (.inr (.inr (va_up f n (some v))))))), (v, .inr (5, vs))] ++ T0) u1)) (va_A (cW G Q D ([(Q 13, .inr (0, [.int mc, .ref t0, .int (nI n)])), (t0, .inl (Z.1.1 1000, cap, .inr (.inr (.inr (.inr (f)))))), (v, .inr (5, vs))] ++ T0) u) sz)) (C1) (C2) (va_A (cW G Q D ([(Q 13, .inr (0, [.int mc, .ref t0, .int (nI n)])), (t0, .inl (Z.1.1 1000, cap, .inr (.inr (.inr (.inr (f)))))), (v, .inr (5, vs))] ++ T0) u) sz) := by
  refine Met.ofW (cc := cX11_keepLaws) (maxL := 3) (ret := none) (by decide) rfl ?_
  intro p e s m args below meth c s₁ B hml hv
  obtain ⟨rfl, ⟨rfl, hP, hB, hD0, hE⟩, hL⟩ := hv
  have hr := B.returns
  have hlocks := B.notSynchronized
  have hts0 := atoms_spec (ws := Cond.code yX11_keepLaws cX11_keepLaws 3 none :: wKA) B.pre
  have hTs : ∀ w ∈ wKA, w.before _ s = true := fun w h => hts0 w (List.mem_cons_of_mem _ h)
  have htk : ∀ w ∈ wK, w.before _ s = true := fun w h => hTs w (wKA0 w h)
  have hD := hD0.self (sz := s.heap.size)
  have hA : ∀ q : Nat, s.heap.size ≤ q → va_A (cW G Q D ([(Q 13, .inr (0, [.int mc, .ref t0, .int (nI n)])), (t0, .inl (Z.1.1 1000, cap, .inr (.inr (.inr (.inr (f)))))), (v, .inr (5, vs))] ++ T0) u) s.heap.size q := fun q h => Or.inr h
  generalize va_A (cW G Q D ([(Q 13, .inr (0, [.int mc, .ref t0, .int (nI n)])), (t0, .inl (Z.1.1 1000, cap, .inr (.inr (.inr (.inr (f)))))), (v, .inr (5, vs))] ++ T0) u) s.heap.size = A at hD hA hE hL ⊢
  have hC : cX p c cX11_keepLaws 3 s m _ RX11 G Z A := ⟨B.exec, B.bytes, hml, findClass_of_methodNamed B.named, htk, hB, hE, hA⟩
  have hx := hC.1
  have hb := hC.2.1
  have hown := hC.2.2.2.1
  have hH : cH G Q D ([(Q 13, .inr (0, [.int mc, .ref t0, .int (nI n)])), (t0, .inl (Z.1.1 1000, cap, .inr (.inr (.inr (.inr (f)))))), (v, .inr (5, vs))] ++ T0) A u s s.heap [] := ⟨hP, hD, va_S.rf⟩
  have hl := lv_entry ([.ref (Q 0), .ref v]) (n := 3) (Nat.le_of_ble_eq_true rfl)
  rw [lg_entry_eq]
  generalize (lg_sl ([.ref (Q 0), .ref v]) ++ List.replicate (3 - (lg_sl ([.ref (Q 0), .ref v])).length) Slot.unset).toArray = ls at hl ⊢
  have hl : lv_has ls 3 [(0, .ref (Q 0)), (1, .ref v)] := hl
  refine lv_aload_n hx hb dX11_keepLaws_0 rfl (lv_at hl 0 rfl) ?_
  refine cg_X11_10 hC hH dX11_keepLaws_1 ?_
  refine lv_iconst (v := 3) hx hb dX11_keepLaws_4 (by decide) ?_
  refine bat (i := 1) (j := 11) hC hH rfl rfl (by decide) wka197 ⟨Nat.le_of_ble_eq_true rfl, Nat.le_of_ble_eq_true rfl⟩ hl.1 (Nat.le_of_ble_eq_true rfl) ⟨Nat.zero_le _, Nat.zero_le _⟩ dX11_keepLaws_5 ?_
  refine gx_ti hxe ?_
  refine lv_istore_n (lv' := [(2, .int x), (0, .ref (Q 0)), (1, .ref v)]) hx hb dX11_keepLaws_8 rfl hl (by decide) rfl (fun ls hl => ?_)
  refine lv_iload_n hx hb dX11_keepLaws_9 rfl (lv_at hl 0 rfl) ?_
  refine lv_if_lt (tgt := 37) hx hb dX11_keepLaws_10 (by decide) (fun c1 => ?_) (fun c1 => ?_)
  · refine lv_aload_n hx hb dX11_keepLaws_37 rfl (lv_at hl 1 rfl) ?_
    refine cg_X11_88 hC hH dX11_keepLaws_38 ?_
    refine lv_aload_n hx hb dX11_keepLaws_41 rfl (lv_at hl 2 rfl) ?_
    refine ccAdd (f := f) hC hL hH hel hn hcp hTs (wKA0 _ wka200) (wKA1 _ (List.mem_of_getElem? (i := 0) rfl)) (wKA1 _ (List.mem_of_getElem? (i := 1) rfl)) (wKA0 _ (wLK _ wl13)) wKA2 ⟨Nat.le_of_ble_eq_true rfl, Nat.le_of_ble_eq_true rfl⟩ hl.1 (Nat.le_of_ble_eq_true rfl) ⟨by show _ ≤ C1; omega, by show _ ≤ C2; omega⟩ dX11_keepLaws_42 (fun H locs  hH => ?_)
    refine lv_pop hx hb dX11_keepLaws_45 rfl ?_
    refine lv_aload_n hx hb dX11_keepLaws_46 rfl (lv_at hl 1 rfl) ?_
    refine cg_X11_10 hC hH dX11_keepLaws_47 ?_
    refine lv_iconst (v := 3) hx hb dX11_keepLaws_50 (by decide) ?_
    refine lv_iload_n hx hb dX11_keepLaws_51 rfl (lv_at hl 0 rfl) ?_
    refine lv_iconst (v := 1) hx hb dX11_keepLaws_52 (by decide) ?_
    refine lv_iadd hx hb dX11_keepLaws_53 ?_
    refine ccV_vA (q0 := 1) (As := [.int 3, .int (x + 1)]) (rest := []) hC hH (n_X1_put l G Z Q _ _ u u1 r C1 C2 3 (x + 1) _ hF) rfl rfl ⟨wkc_X1_put, wka201, wka439, wka440, wka745⟩ kVX1_put ⟨Nat.le_of_ble_eq_true rfl, Nat.le_of_ble_eq_true rfl⟩ ⟨by show _ ≤ C1; omega, by show _ ≤ C2; omega⟩ rfl hl.1 rfl (Nat.le_of_ble_eq_true rfl) dX11_keepLaws_54 (fun D1 H locs hH => ?_)
    refine W.widen (k := C1) (n := C2) (by omega) (by omega) ?_
    exact W.vret hx hb hr (fun t ht hW => ⟨⟨(), rfl, trivial, 0, D1, by rw [ht]; exact hH.1, hH.2.1⟩, hH.2.2.F ht⟩) hH.2.2.2.2 dX11_keepLaws_57
  · refine lv_iload_n hx hb dX11_keepLaws_13 rfl (lv_at hl 0 rfl) ?_
    refine lv_aload_n hx hb dX11_keepLaws_14 rfl (lv_at hl 1 rfl) ?_
    refine cg_X11_88 hC hH dX11_keepLaws_15 ?_
    have hP1 : va_P (gD G) vwCl [(Q 13, .inr (0, [.int mc, .ref t0, .int (nI n)]))] s.heap := fun k q hk => match k, hk with | 0, hk => by cases Option.some.inj hk; exact hP 70 _ rfl
    refine vp_callSi (va_Run.run (va_runV (As := []) (rest := [.int x]) (C := RJx4a65c) ⟨hx, hb, hml, hown, htk⟩ (a_size l G Z.1 (Z.1.1 1000) A (Q 13) mc (.ref t0) (nI n)) (cwV 0 htk (gdV wka198 (wLK _ wl14) (wLK _ wl15) (wLK _ wl13) (fun w hw => ⟨wLK _ (alL _ _ _ _ wl16 w hw).1, (alL _ _ _ _ wl16 w hw).2⟩)) rfl rfl rfl kVJx4a65c_size_8abf5 ⟨Nat.le_of_ble_eq_true rfl, Nat.le_of_ble_eq_true rfl⟩) ⟨aP.blind, va_recv hB.1 hP1 (ci := 0) (q0 := 0) rfl rfl, fun U hU hW => ⟨rfl, by rw [hU]; exact hP1, hB.moved hW, by rw [hU]; exact hE.1.moved hW, hE.2.2.moved hW.alike⟩⟩ rfl rfl hl.1 rfl (lv_room (Nat.le_of_ble_eq_true rfl)) dX11_keepLaws_18 ⟨Nat.zero_le _, Nat.zero_le _⟩)) (fun y hy => ?_)
    rw [hy]
    refine lv_icmp_ge (tgt := 37) hx hb dX11_keepLaws_21 (by decide) (fun c2 => ?_) (fun c2 => ?_)
    · refine lv_aload_n hx hb dX11_keepLaws_37 rfl (lv_at hl 1 rfl) ?_
      refine cg_X11_88 hC hH dX11_keepLaws_38 ?_
      refine lv_aload_n hx hb dX11_keepLaws_41 rfl (lv_at hl 2 rfl) ?_
      refine ccAdd (f := f) hC hL hH hel hn hcp hTs (wKA0 _ wka200) (wKA1 _ (List.mem_of_getElem? (i := 0) rfl)) (wKA1 _ (List.mem_of_getElem? (i := 1) rfl)) (wKA0 _ (wLK _ wl13)) wKA2 ⟨Nat.le_of_ble_eq_true rfl, Nat.le_of_ble_eq_true rfl⟩ hl.1 (Nat.le_of_ble_eq_true rfl) ⟨by show _ ≤ C1; omega, by show _ ≤ C2; omega⟩ dX11_keepLaws_42 (fun H locs  hH => ?_)
      refine lv_pop hx hb dX11_keepLaws_45 rfl ?_
      refine lv_aload_n hx hb dX11_keepLaws_46 rfl (lv_at hl 1 rfl) ?_
      refine cg_X11_10 hC hH dX11_keepLaws_47 ?_
      refine lv_iconst (v := 3) hx hb dX11_keepLaws_50 (by decide) ?_
      refine lv_iload_n hx hb dX11_keepLaws_51 rfl (lv_at hl 0 rfl) ?_
      refine lv_iconst (v := 1) hx hb dX11_keepLaws_52 (by decide) ?_
      refine lv_iadd hx hb dX11_keepLaws_53 ?_
      refine ccV_vA (q0 := 1) (As := [.int 3, .int (x + 1)]) (rest := []) hC hH (n_X1_put l G Z Q _ _ u u1 r C1 C2 3 (x + 1) _ hF) rfl rfl ⟨wkc_X1_put, wka201, wka439, wka440, wka745⟩ kVX1_put ⟨Nat.le_of_ble_eq_true rfl, Nat.le_of_ble_eq_true rfl⟩ ⟨by show _ ≤ C1; omega, by show _ ≤ C2; omega⟩ rfl hl.1 rfl (Nat.le_of_ble_eq_true rfl) dX11_keepLaws_54 (fun D1 H locs hH => ?_)
      refine W.widen (k := C1) (n := C2) (by omega) (by omega) ?_
      exact W.vret hx hb hr (fun t ht hW => ⟨⟨(), rfl, trivial, 0, D1, by rw [ht]; exact hH.1, hH.2.1⟩, hH.2.2.F ht⟩) hH.2.2.2.2 dX11_keepLaws_57
    · exact absurd (hge c1) c2
set_option maxHeartbeats 4000000 in
set_option maxRecDepth 100000 in
theorem n_X11_keepG (l : Launch) (G : gG) (Z : gC) (mi : Nat) (Q : Nat → Nat) (D : Nat × Nat) (T0 : va_W) (u u1 : MS) (r x mc : Int32) (C1 C2 v sz : Nat) (vs : List Value) (t0 cap k : Nat) (f : Nat → Option Nat) (hxe : rg (u.2 0) 2088 3 = x)  (hel : ∀ i y : Nat, i < cap → f i = some y → ∃ vs : List Value, (y, .inr (5, vs)) ∈ T0) (hc : 0 < cap) (hck : cap < k) (hk : k ≤ 16777216) (he : nI cap + (if (1 : Int32) < nI cap >>> (1 &&& 31) then nI cap >>> (1 &&& 31) else 1) = nI k) (hge : ¬ x < 0 → nI cap ≤ x) (hF : x_X1_put 3 (x + 1) u = some (r, u1, C1, C2)) : Met l yX11_keepLaws (Cond.code yX11_keepLaws cX11_keepLaws 3 none :: wKA) { frames := 7, cells := 1 + C1, slots := k + C2, locals := 171 } (va_Pc [.ref (Q 0), .ref v] (cPL G Z mi Q D ([(Q 13, .inr (0, [.int mc, .ref t0, .int (nI cap)])), (t0, .inl (Z.1.1 1000, cap, .inr (.inr (.inr (.inr (f)))))), (v, .inr (5, vs))] ++ T0) u sz)) (va_Qv (fun _ : Unit => True) (fun (_ : Unit) (t : State) => ∃ (q : Nat) (D1 : Nat × Nat), va_P (gD G) vwCl (cW G Q D1 ([(Q 13, .inr (0, [.int (mc + 1), .ref q, .int (nI (cap + 1))])), (q, .inl (Z.1.1 1000, k, .inr (.inr (.inr (.inr (va_up (va_cpy f (fun _ => none) 0 0 cap) cap (some v))))))), (v, .inr (5, vs))] ++ T0) u1) t.heap ∧ va_D (va_A (cW G Q D ([(Q 13, .inr (0, [.int mc, .ref t0, .int (nI cap)])), (t0, .inl (Z.1.1 1000, cap, .inr (.inr (.inr (.inr (f)))))), (v, .inr (5, vs))] ++ T0) u) sz) (cW G Q D1 ([(Q 13, .inr (0, [.int (mc + 1), .ref q, .int (nI (cap + 1))])), (q, .inl (Z.1.1 1000, k, .inr (.inr (.inr (.inr (va_up (va_cpy f (fun _ => none) 0 0 cap) cap (some v))))))), (v, .inr (5, vs))] ++ T0) u1)) (va_A (cW G Q D ([(Q 13, .inr (0, [.int mc, .ref t0, .int (nI cap)])), (t0, .inl (Z.1.1 1000, cap, .inr (.inr (.inr (.inr (f)))))), (v, .inr (5, vs))] ++ T0) u) sz)) (1 + C1) (k + C2) (va_A (cW G Q D ([(Q 13, .inr (0, [.int mc, .ref t0, .int (nI cap)])), (t0, .inl (Z.1.1 1000, cap, .inr (.inr (.inr (.inr (f)))))), (v, .inr (5, vs))] ++ T0) u) sz) := by
  refine Met.ofW (cc := cX11_keepLaws) (maxL := 3) (ret := none) (by decide) rfl ?_
  intro p e s m args below meth c s₁ B hml hv
  obtain ⟨rfl, ⟨rfl, hP, hB, hD0, hE⟩, hL⟩ := hv
  have hr := B.returns
  have hlocks := B.notSynchronized
  have hts0 := atoms_spec (ws := Cond.code yX11_keepLaws cX11_keepLaws 3 none :: wKA) B.pre
  have hTs : ∀ w ∈ wKA, w.before _ s = true := fun w h => hts0 w (List.mem_cons_of_mem _ h)
  have htk : ∀ w ∈ wK, w.before _ s = true := fun w h => hTs w (wKA0 w h)
  have hD := hD0.self (sz := s.heap.size)
  have hA : ∀ q : Nat, s.heap.size ≤ q → va_A (cW G Q D ([(Q 13, .inr (0, [.int mc, .ref t0, .int (nI cap)])), (t0, .inl (Z.1.1 1000, cap, .inr (.inr (.inr (.inr (f)))))), (v, .inr (5, vs))] ++ T0) u) s.heap.size q := fun q h => Or.inr h
  generalize va_A (cW G Q D ([(Q 13, .inr (0, [.int mc, .ref t0, .int (nI cap)])), (t0, .inl (Z.1.1 1000, cap, .inr (.inr (.inr (.inr (f)))))), (v, .inr (5, vs))] ++ T0) u) s.heap.size = A at hD hA hE hL ⊢
  have hC : cX p c cX11_keepLaws 3 s m _ RX11 G Z A := ⟨B.exec, B.bytes, hml, findClass_of_methodNamed B.named, htk, hB, hE, hA⟩
  have hx := hC.1
  have hb := hC.2.1
  have hown := hC.2.2.2.1
  have hH : cH G Q D ([(Q 13, .inr (0, [.int mc, .ref t0, .int (nI cap)])), (t0, .inl (Z.1.1 1000, cap, .inr (.inr (.inr (.inr (f)))))), (v, .inr (5, vs))] ++ T0) A u s s.heap [] := ⟨hP, hD, va_S.rf⟩
  have hl := lv_entry ([.ref (Q 0), .ref v]) (n := 3) (Nat.le_of_ble_eq_true rfl)
  rw [lg_entry_eq]
  generalize (lg_sl ([.ref (Q 0), .ref v]) ++ List.replicate (3 - (lg_sl ([.ref (Q 0), .ref v])).length) Slot.unset).toArray = ls at hl ⊢
  have hl : lv_has ls 3 [(0, .ref (Q 0)), (1, .ref v)] := hl
  refine lv_aload_n hx hb dX11_keepLaws_0 rfl (lv_at hl 0 rfl) ?_
  refine cg_X11_10 hC hH dX11_keepLaws_1 ?_
  refine lv_iconst (v := 3) hx hb dX11_keepLaws_4 (by decide) ?_
  refine bat (i := 1) (j := 11) hC hH rfl rfl (by decide) wka197 ⟨Nat.le_of_ble_eq_true rfl, Nat.le_of_ble_eq_true rfl⟩ hl.1 (Nat.le_of_ble_eq_true rfl) ⟨Nat.zero_le _, Nat.zero_le _⟩ dX11_keepLaws_5 ?_
  refine gx_ti hxe ?_
  refine lv_istore_n (lv' := [(2, .int x), (0, .ref (Q 0)), (1, .ref v)]) hx hb dX11_keepLaws_8 rfl hl (by decide) rfl (fun ls hl => ?_)
  refine lv_iload_n hx hb dX11_keepLaws_9 rfl (lv_at hl 0 rfl) ?_
  refine lv_if_lt (tgt := 37) hx hb dX11_keepLaws_10 (by decide) (fun c1 => ?_) (fun c1 => ?_)
  · refine lv_aload_n hx hb dX11_keepLaws_37 rfl (lv_at hl 1 rfl) ?_
    refine cg_X11_88 hC hH dX11_keepLaws_38 ?_
    refine lv_aload_n hx hb dX11_keepLaws_41 rfl (lv_at hl 2 rfl) ?_
    refine ccAddG (f := f) hC hL hH hel hc hck hk he hTs (wKA0 _ wka200) (wKA1 _ (List.mem_of_getElem? (i := 0) rfl)) (wKA1 _ (List.mem_of_getElem? (i := 1) rfl)) (wKA0 _ (wLK _ wl13)) wKA3 ⟨Nat.le_of_ble_eq_true rfl, Nat.le_of_ble_eq_true rfl⟩ hl.1 (Nat.le_of_ble_eq_true rfl) ⟨by show _ ≤ 1 + C1; omega, by show _ ≤ k + C2; omega⟩ dX11_keepLaws_42 (fun H locs q hH => ?_)
    refine lv_pop hx hb dX11_keepLaws_45 rfl ?_
    refine lv_aload_n hx hb dX11_keepLaws_46 rfl (lv_at hl 1 rfl) ?_
    refine cg_X11_10 hC hH dX11_keepLaws_47 ?_
    refine lv_iconst (v := 3) hx hb dX11_keepLaws_50 (by decide) ?_
    refine lv_iload_n hx hb dX11_keepLaws_51 rfl (lv_at hl 0 rfl) ?_
    refine lv_iconst (v := 1) hx hb dX11_keepLaws_52 (by decide) ?_
    refine lv_iadd hx hb dX11_keepLaws_53 ?_
    refine ccV_vA (q0 := 1) (As := [.int 3, .int (x + 1)]) (rest := []) hC hH (n_X1_put l G Z Q _ _ u u1 r C1 C2 3 (x + 1) _ hF) rfl rfl ⟨wkc_X1_put, wka201, wka439, wka440, wka745⟩ kVX1_put ⟨Nat.le_of_ble_eq_true rfl, Nat.le_of_ble_eq_true rfl⟩ ⟨by show _ ≤ 1 + C1; omega, by show _ ≤ k + C2; omega⟩ rfl hl.1 rfl (Nat.le_of_ble_eq_true rfl) dX11_keepLaws_54 (fun D1 H locs hH => ?_)
    refine W.widen (k := 1 + C1) (n := k + C2) (by omega) (by omega) ?_
    exact W.vret hx hb hr (fun t ht hW => ⟨⟨(), rfl, trivial, q, D1, by rw [ht]; exact hH.1, hH.2.1⟩, hH.2.2.F ht⟩) hH.2.2.2.2 dX11_keepLaws_57
  · refine lv_iload_n hx hb dX11_keepLaws_13 rfl (lv_at hl 0 rfl) ?_
    refine lv_aload_n hx hb dX11_keepLaws_14 rfl (lv_at hl 1 rfl) ?_
    refine cg_X11_88 hC hH dX11_keepLaws_15 ?_
    have hP1 : va_P (gD G) vwCl [(Q 13, .inr (0, [.int mc, .ref t0, .int (nI cap)]))] s.heap := fun k q hk => match k, hk with | 0, hk => by cases Option.some.inj hk; exact hP 70 _ rfl
    refine vp_callSi (va_Run.run (va_runV (As := []) (rest := [.int x]) (C := RJx4a65c) ⟨hx, hb, hml, hown, htk⟩ (a_size l G Z.1 (Z.1.1 1000) A (Q 13) mc (.ref t0) (nI cap)) (cwV 0 htk (gdV wka198 (wLK _ wl14) (wLK _ wl15) (wLK _ wl13) (fun w hw => ⟨wLK _ (alL _ _ _ _ wl16 w hw).1, (alL _ _ _ _ wl16 w hw).2⟩)) rfl rfl rfl kVJx4a65c_size_8abf5 ⟨Nat.le_of_ble_eq_true rfl, Nat.le_of_ble_eq_true rfl⟩) ⟨aP.blind, va_recv hB.1 hP1 (ci := 0) (q0 := 0) rfl rfl, fun U hU hW => ⟨rfl, by rw [hU]; exact hP1, hB.moved hW, by rw [hU]; exact hE.1.moved hW, hE.2.2.moved hW.alike⟩⟩ rfl rfl hl.1 rfl (lv_room (Nat.le_of_ble_eq_true rfl)) dX11_keepLaws_18 ⟨Nat.zero_le _, Nat.zero_le _⟩)) (fun y hy => ?_)
    rw [hy]
    refine lv_icmp_ge (tgt := 37) hx hb dX11_keepLaws_21 (by decide) (fun c2 => ?_) (fun c2 => ?_)
    · refine lv_aload_n hx hb dX11_keepLaws_37 rfl (lv_at hl 1 rfl) ?_
      refine cg_X11_88 hC hH dX11_keepLaws_38 ?_
      refine lv_aload_n hx hb dX11_keepLaws_41 rfl (lv_at hl 2 rfl) ?_
      refine ccAddG (f := f) hC hL hH hel hc hck hk he hTs (wKA0 _ wka200) (wKA1 _ (List.mem_of_getElem? (i := 0) rfl)) (wKA1 _ (List.mem_of_getElem? (i := 1) rfl)) (wKA0 _ (wLK _ wl13)) wKA3 ⟨Nat.le_of_ble_eq_true rfl, Nat.le_of_ble_eq_true rfl⟩ hl.1 (Nat.le_of_ble_eq_true rfl) ⟨by show _ ≤ 1 + C1; omega, by show _ ≤ k + C2; omega⟩ dX11_keepLaws_42 (fun H locs q hH => ?_)
      refine lv_pop hx hb dX11_keepLaws_45 rfl ?_
      refine lv_aload_n hx hb dX11_keepLaws_46 rfl (lv_at hl 1 rfl) ?_
      refine cg_X11_10 hC hH dX11_keepLaws_47 ?_
      refine lv_iconst (v := 3) hx hb dX11_keepLaws_50 (by decide) ?_
      refine lv_iload_n hx hb dX11_keepLaws_51 rfl (lv_at hl 0 rfl) ?_
      refine lv_iconst (v := 1) hx hb dX11_keepLaws_52 (by decide) ?_
      refine lv_iadd hx hb dX11_keepLaws_53 ?_
      refine ccV_vA (q0 := 1) (As := [.int 3, .int (x + 1)]) (rest := []) hC hH (n_X1_put l G Z Q _ _ u u1 r C1 C2 3 (x + 1) _ hF) rfl rfl ⟨wkc_X1_put, wka201, wka439, wka440, wka745⟩ kVX1_put ⟨Nat.le_of_ble_eq_true rfl, Nat.le_of_ble_eq_true rfl⟩ ⟨by show _ ≤ 1 + C1; omega, by show _ ≤ k + C2; omega⟩ rfl hl.1 rfl (Nat.le_of_ble_eq_true rfl) dX11_keepLaws_54 (fun D1 H locs hH => ?_)
      refine W.widen (k := 1 + C1) (n := k + C2) (by omega) (by omega) ?_
      exact W.vret hx hb hr (fun t ht hW => ⟨⟨(), rfl, trivial, q, D1, by rw [ht]; exact hH.1, hH.2.1⟩, hH.2.2.F ht⟩) hH.2.2.2.2 dX11_keepLaws_57
    · exact absurd (hge c1) c2
set_option maxHeartbeats 4000000 in
set_option maxRecDepth 100000 in
theorem n_X11_keepZ (l : Launch) (G : gG) (Z : gC) (mi : Nat) (Q : Nat → Nat) (D : Nat × Nat) (T0 : va_W) (u u1 : MS) (r x mc : Int32) (C1 C2 v sz : Nat) (vs : List Value)  (hxe : rg (u.2 0) 2088 3 = x)  (hge : ¬ x < 0 → (0 : Int32) ≤ x) (hF : x_X1_put 3 (x + 1) u = some (r, u1, C1, C2)) : Met l yX11_keepLaws (Cond.code yX11_keepLaws cX11_keepLaws 3 none :: wKA) { frames := 5, cells := 1 + C1, slots := 10 + C2, locals := 109 } (va_Pc [.ref (Q 0), .ref v] (cPL G Z mi Q D ([(Q 13, .inr (0, [.int mc, .ref Z.2.1, .int 0])), (v, .inr (5, vs))] ++ T0) u sz)) (va_Qv (fun _ : Unit => True) (fun (_ : Unit) (t : State) => ∃ (q : Nat) (D1 : Nat × Nat), va_P (gD G) vwCl (cW G Q D1 ([(Q 13, .inr (0, [.int (mc + 1), .ref q, .int 1])), (q, .inl (Z.1.1 1000, 10, .inr (.inr (.inr (.inr (va_up (fun _ => none) 0 (some v))))))), (v, .inr (5, vs))] ++ T0) u1) t.heap ∧ va_D (va_A (cW G Q D ([(Q 13, .inr (0, [.int mc, .ref Z.2.1, .int 0])), (v, .inr (5, vs))] ++ T0) u) sz) (cW G Q D1 ([(Q 13, .inr (0, [.int (mc + 1), .ref q, .int 1])), (q, .inl (Z.1.1 1000, 10, .inr (.inr (.inr (.inr (va_up (fun _ => none) 0 (some v))))))), (v, .inr (5, vs))] ++ T0) u1)) (va_A (cW G Q D ([(Q 13, .inr (0, [.int mc, .ref Z.2.1, .int 0])), (v, .inr (5, vs))] ++ T0) u) sz)) (1 + C1) (10 + C2) (va_A (cW G Q D ([(Q 13, .inr (0, [.int mc, .ref Z.2.1, .int 0])), (v, .inr (5, vs))] ++ T0) u) sz) := by
  refine Met.ofW (cc := cX11_keepLaws) (maxL := 3) (ret := none) (by decide) rfl ?_
  intro p e s m args below meth c s₁ B hml hv
  obtain ⟨rfl, ⟨rfl, hP, hB, hD0, hE⟩, hL⟩ := hv
  have hr := B.returns
  have hlocks := B.notSynchronized
  have hts0 := atoms_spec (ws := Cond.code yX11_keepLaws cX11_keepLaws 3 none :: wKA) B.pre
  have hTs : ∀ w ∈ wKA, w.before _ s = true := fun w h => hts0 w (List.mem_cons_of_mem _ h)
  have htk : ∀ w ∈ wK, w.before _ s = true := fun w h => hTs w (wKA0 w h)
  have hD := hD0.self (sz := s.heap.size)
  have hA : ∀ q : Nat, s.heap.size ≤ q → va_A (cW G Q D ([(Q 13, .inr (0, [.int mc, .ref Z.2.1, .int 0])), (v, .inr (5, vs))] ++ T0) u) s.heap.size q := fun q h => Or.inr h
  generalize va_A (cW G Q D ([(Q 13, .inr (0, [.int mc, .ref Z.2.1, .int 0])), (v, .inr (5, vs))] ++ T0) u) s.heap.size = A at hD hA hE hL ⊢
  have hC : cX p c cX11_keepLaws 3 s m _ RX11 G Z A := ⟨B.exec, B.bytes, hml, findClass_of_methodNamed B.named, htk, hB, hE, hA⟩
  have hx := hC.1
  have hb := hC.2.1
  have hown := hC.2.2.2.1
  have hH : cH G Q D ([(Q 13, .inr (0, [.int mc, .ref Z.2.1, .int 0])), (v, .inr (5, vs))] ++ T0) A u s s.heap [] := ⟨hP, hD, va_S.rf⟩
  have hl := lv_entry ([.ref (Q 0), .ref v]) (n := 3) (Nat.le_of_ble_eq_true rfl)
  rw [lg_entry_eq]
  generalize (lg_sl ([.ref (Q 0), .ref v]) ++ List.replicate (3 - (lg_sl ([.ref (Q 0), .ref v])).length) Slot.unset).toArray = ls at hl ⊢
  have hl : lv_has ls 3 [(0, .ref (Q 0)), (1, .ref v)] := hl
  refine lv_aload_n hx hb dX11_keepLaws_0 rfl (lv_at hl 0 rfl) ?_
  refine cg_X11_10 hC hH dX11_keepLaws_1 ?_
  refine lv_iconst (v := 3) hx hb dX11_keepLaws_4 (by decide) ?_
  refine bat (i := 1) (j := 11) hC hH rfl rfl (by decide) wka197 ⟨Nat.le_of_ble_eq_true rfl, Nat.le_of_ble_eq_true rfl⟩ hl.1 (Nat.le_of_ble_eq_true rfl) ⟨Nat.zero_le _, Nat.zero_le _⟩ dX11_keepLaws_5 ?_
  refine gx_ti hxe ?_
  refine lv_istore_n (lv' := [(2, .int x), (0, .ref (Q 0)), (1, .ref v)]) hx hb dX11_keepLaws_8 rfl hl (by decide) rfl (fun ls hl => ?_)
  refine lv_iload_n hx hb dX11_keepLaws_9 rfl (lv_at hl 0 rfl) ?_
  refine lv_if_lt (tgt := 37) hx hb dX11_keepLaws_10 (by decide) (fun c1 => ?_) (fun c1 => ?_)
  · refine lv_aload_n hx hb dX11_keepLaws_37 rfl (lv_at hl 1 rfl) ?_
    refine cg_X11_88 hC hH dX11_keepLaws_38 ?_
    refine lv_aload_n hx hb dX11_keepLaws_41 rfl (lv_at hl 2 rfl) ?_
    refine ccAddZ hC hL hH hTs (wKA0 _ wka200) (wKA1 _ (List.mem_of_getElem? (i := 0) rfl)) (wKA1 _ (List.mem_of_getElem? (i := 1) rfl)) (wKA0 _ (wLK _ wl13)) wKA4 ⟨Nat.le_of_ble_eq_true rfl, Nat.le_of_ble_eq_true rfl⟩ hl.1 (Nat.le_of_ble_eq_true rfl) ⟨by show _ ≤ 1 + C1; omega, by show _ ≤ 10 + C2; omega⟩ dX11_keepLaws_42 (fun H locs q hH => ?_)
    refine lv_pop hx hb dX11_keepLaws_45 rfl ?_
    refine lv_aload_n hx hb dX11_keepLaws_46 rfl (lv_at hl 1 rfl) ?_
    refine cg_X11_10 hC hH dX11_keepLaws_47 ?_
    refine lv_iconst (v := 3) hx hb dX11_keepLaws_50 (by decide) ?_
    refine lv_iload_n hx hb dX11_keepLaws_51 rfl (lv_at hl 0 rfl) ?_
    refine lv_iconst (v := 1) hx hb dX11_keepLaws_52 (by decide) ?_
    refine lv_iadd hx hb dX11_keepLaws_53 ?_
    refine ccV_vA (q0 := 1) (As := [.int 3, .int (x + 1)]) (rest := []) hC hH (n_X1_put l G Z Q _ _ u u1 r C1 C2 3 (x + 1) _ hF) rfl rfl ⟨wkc_X1_put, wka201, wka439, wka440, wka745⟩ kVX1_put ⟨Nat.le_of_ble_eq_true rfl, Nat.le_of_ble_eq_true rfl⟩ ⟨by show _ ≤ 1 + C1; omega, by show _ ≤ 10 + C2; omega⟩ rfl hl.1 rfl (Nat.le_of_ble_eq_true rfl) dX11_keepLaws_54 (fun D1 H locs hH => ?_)
    refine W.widen (k := 1 + C1) (n := 10 + C2) (by omega) (by omega) ?_
    exact W.vret hx hb hr (fun t ht hW => ⟨⟨(), rfl, trivial, q, D1, by rw [ht]; exact hH.1, hH.2.1⟩, hH.2.2.F ht⟩) hH.2.2.2.2 dX11_keepLaws_57
  · refine lv_iload_n hx hb dX11_keepLaws_13 rfl (lv_at hl 0 rfl) ?_
    refine lv_aload_n hx hb dX11_keepLaws_14 rfl (lv_at hl 1 rfl) ?_
    refine cg_X11_88 hC hH dX11_keepLaws_15 ?_
    have hP1 : va_P (gD G) vwCl [(Q 13, .inr (0, [.int mc, .ref Z.2.1, .int 0]))] s.heap := fun k q hk => match k, hk with | 0, hk => by cases Option.some.inj hk; exact hP 70 _ rfl
    refine vp_callSi (va_Run.run (va_runV (As := []) (rest := [.int x]) (C := RJx4a65c) ⟨hx, hb, hml, hown, htk⟩ (a_size l G Z.1 (Z.1.1 1000) A (Q 13) mc (.ref Z.2.1) 0) (cwV 0 htk (gdV wka198 (wLK _ wl14) (wLK _ wl15) (wLK _ wl13) (fun w hw => ⟨wLK _ (alL _ _ _ _ wl16 w hw).1, (alL _ _ _ _ wl16 w hw).2⟩)) rfl rfl rfl kVJx4a65c_size_8abf5 ⟨Nat.le_of_ble_eq_true rfl, Nat.le_of_ble_eq_true rfl⟩) ⟨aP.blind, va_recv hB.1 hP1 (ci := 0) (q0 := 0) rfl rfl, fun U hU hW => ⟨rfl, by rw [hU]; exact hP1, hB.moved hW, by rw [hU]; exact hE.1.moved hW, hE.2.2.moved hW.alike⟩⟩ rfl rfl hl.1 rfl (lv_room (Nat.le_of_ble_eq_true rfl)) dX11_keepLaws_18 ⟨Nat.zero_le _, Nat.zero_le _⟩)) (fun y hy => ?_)
    rw [hy]
    refine lv_icmp_ge (tgt := 37) hx hb dX11_keepLaws_21 (by decide) (fun c2 => ?_) (fun c2 => ?_)
    · refine lv_aload_n hx hb dX11_keepLaws_37 rfl (lv_at hl 1 rfl) ?_
      refine cg_X11_88 hC hH dX11_keepLaws_38 ?_
      refine lv_aload_n hx hb dX11_keepLaws_41 rfl (lv_at hl 2 rfl) ?_
      refine ccAddZ hC hL hH hTs (wKA0 _ wka200) (wKA1 _ (List.mem_of_getElem? (i := 0) rfl)) (wKA1 _ (List.mem_of_getElem? (i := 1) rfl)) (wKA0 _ (wLK _ wl13)) wKA4 ⟨Nat.le_of_ble_eq_true rfl, Nat.le_of_ble_eq_true rfl⟩ hl.1 (Nat.le_of_ble_eq_true rfl) ⟨by show _ ≤ 1 + C1; omega, by show _ ≤ 10 + C2; omega⟩ dX11_keepLaws_42 (fun H locs q hH => ?_)
      refine lv_pop hx hb dX11_keepLaws_45 rfl ?_
      refine lv_aload_n hx hb dX11_keepLaws_46 rfl (lv_at hl 1 rfl) ?_
      refine cg_X11_10 hC hH dX11_keepLaws_47 ?_
      refine lv_iconst (v := 3) hx hb dX11_keepLaws_50 (by decide) ?_
      refine lv_iload_n hx hb dX11_keepLaws_51 rfl (lv_at hl 0 rfl) ?_
      refine lv_iconst (v := 1) hx hb dX11_keepLaws_52 (by decide) ?_
      refine lv_iadd hx hb dX11_keepLaws_53 ?_
      refine ccV_vA (q0 := 1) (As := [.int 3, .int (x + 1)]) (rest := []) hC hH (n_X1_put l G Z Q _ _ u u1 r C1 C2 3 (x + 1) _ hF) rfl rfl ⟨wkc_X1_put, wka201, wka439, wka440, wka745⟩ kVX1_put ⟨Nat.le_of_ble_eq_true rfl, Nat.le_of_ble_eq_true rfl⟩ ⟨by show _ ≤ 1 + C1; omega, by show _ ≤ 10 + C2; omega⟩ rfl hl.1 rfl (Nat.le_of_ble_eq_true rfl) dX11_keepLaws_54 (fun D1 H locs hH => ?_)
      refine W.widen (k := 1 + C1) (n := 10 + C2) (by omega) (by omega) ?_
      exact W.vret hx hb hr (fun t ht hW => ⟨⟨(), rfl, trivial, q, D1, by rw [ht]; exact hH.1, hH.2.1⟩, hH.2.2.F ht⟩) hH.2.2.2.2 dX11_keepLaws_57
    · exact absurd (hge c1) c2
set_option maxHeartbeats 4000000 in
set_option maxRecDepth 100000 in
theorem n_X11_keepS (l : Launch) (G : gG) (Z : gC) (mi : Nat) (Q : Nat → Nat) (D : Nat × Nat) (T0 : va_W) (u u1 : MS) (r x mc : Int32) (C1 C2 v sz : Nat) (vs : List Value) (t0 cap n a : Nat) (f : Nat → Option Nat) (hxe : rg (u.2 0) 2088 3 = x) (h0x : ¬ x < 0) (hge : ¬ nI n ≤ x) (hin : vp_in x cap) (hfi : f x.toNatClampNeg = some a) (hF : x_X1_put 3 (x + 1) u = some (r, u1, C1, C2)) : Met l yX11_keepLaws (Cond.code yX11_keepLaws cX11_keepLaws 3 none :: wKA) { frames := 4, cells := C1, slots := C2, locals := 109 } (va_Pc [.ref (Q 0), .ref v] (cPL G Z mi Q D ([(Q 13, .inr (0, [.int mc, .ref t0, .int (nI n)])), (t0, .inl (Z.1.1 1000, cap, .inr (.inr (.inr (.inr (f)))))), (v, .inr (5, vs))] ++ T0) u sz)) (va_Qv (fun _ : Unit => True) (fun (_ : Unit) (t : State) => ∃ (q : Nat) (D1 : Nat × Nat), va_P (gD G) vwCl (cW G Q D1 ([(Q 13, .inr (0, [.int mc, .ref t0, .int (nI n)])), (t0, .inl (Z.1.1 1000, cap, .inr (.inr (.inr (.inr (va_up f x.toNatClampNeg (some v))))))), (v, .inr (5, vs))] ++ T0) u1) t.heap ∧ va_D (va_A (cW G Q D ([(Q 13, .inr (0, [.int mc, .ref t0, .int (nI n)])), (t0, .inl (Z.1.1 1000, cap, .inr (.inr (.inr (.inr (f)))))), (v, .inr (5, vs))] ++ T0) u) sz) (cW G Q D1 ([(Q 13, .inr (0, [.int mc, .ref t0, .int (nI n)])), (t0, .inl (Z.1.1 1000, cap, .inr (.inr (.inr (.inr (va_up f x.toNatClampNeg (some v))))))), (v, .inr (5, vs))] ++ T0) u1)) (va_A (cW G Q D ([(Q 13, .inr (0, [.int mc, .ref t0, .int (nI n)])), (t0, .inl (Z.1.1 1000, cap, .inr (.inr (.inr (.inr (f)))))), (v, .inr (5, vs))] ++ T0) u) sz)) (C1) (C2) (va_A (cW G Q D ([(Q 13, .inr (0, [.int mc, .ref t0, .int (nI n)])), (t0, .inl (Z.1.1 1000, cap, .inr (.inr (.inr (.inr (f)))))), (v, .inr (5, vs))] ++ T0) u) sz) := by
  refine Met.ofW (cc := cX11_keepLaws) (maxL := 3) (ret := none) (by decide) rfl ?_
  intro p e s m args below meth c s₁ B hml hv
  obtain ⟨rfl, ⟨rfl, hP, hB, hD0, hE⟩, hL⟩ := hv
  have hr := B.returns
  have hlocks := B.notSynchronized
  have hts0 := atoms_spec (ws := Cond.code yX11_keepLaws cX11_keepLaws 3 none :: wKA) B.pre
  have hTs : ∀ w ∈ wKA, w.before _ s = true := fun w h => hts0 w (List.mem_cons_of_mem _ h)
  have htk : ∀ w ∈ wK, w.before _ s = true := fun w h => hTs w (wKA0 w h)
  have hD := hD0.self (sz := s.heap.size)
  have hA : ∀ q : Nat, s.heap.size ≤ q → va_A (cW G Q D ([(Q 13, .inr (0, [.int mc, .ref t0, .int (nI n)])), (t0, .inl (Z.1.1 1000, cap, .inr (.inr (.inr (.inr (f)))))), (v, .inr (5, vs))] ++ T0) u) s.heap.size q := fun q h => Or.inr h
  generalize va_A (cW G Q D ([(Q 13, .inr (0, [.int mc, .ref t0, .int (nI n)])), (t0, .inl (Z.1.1 1000, cap, .inr (.inr (.inr (.inr (f)))))), (v, .inr (5, vs))] ++ T0) u) s.heap.size = A at hD hA hE hL ⊢
  have hC : cX p c cX11_keepLaws 3 s m _ RX11 G Z A := ⟨B.exec, B.bytes, hml, findClass_of_methodNamed B.named, htk, hB, hE, hA⟩
  have hx := hC.1
  have hb := hC.2.1
  have hown := hC.2.2.2.1
  have hH : cH G Q D ([(Q 13, .inr (0, [.int mc, .ref t0, .int (nI n)])), (t0, .inl (Z.1.1 1000, cap, .inr (.inr (.inr (.inr (f)))))), (v, .inr (5, vs))] ++ T0) A u s s.heap [] := ⟨hP, hD, va_S.rf⟩
  have hl := lv_entry ([.ref (Q 0), .ref v]) (n := 3) (Nat.le_of_ble_eq_true rfl)
  rw [lg_entry_eq]
  generalize (lg_sl ([.ref (Q 0), .ref v]) ++ List.replicate (3 - (lg_sl ([.ref (Q 0), .ref v])).length) Slot.unset).toArray = ls at hl ⊢
  have hl : lv_has ls 3 [(0, .ref (Q 0)), (1, .ref v)] := hl
  refine lv_aload_n hx hb dX11_keepLaws_0 rfl (lv_at hl 0 rfl) ?_
  refine cg_X11_10 hC hH dX11_keepLaws_1 ?_
  refine lv_iconst (v := 3) hx hb dX11_keepLaws_4 (by decide) ?_
  refine bat (i := 1) (j := 11) hC hH rfl rfl (by decide) wka197 ⟨Nat.le_of_ble_eq_true rfl, Nat.le_of_ble_eq_true rfl⟩ hl.1 (Nat.le_of_ble_eq_true rfl) ⟨Nat.zero_le _, Nat.zero_le _⟩ dX11_keepLaws_5 ?_
  refine gx_ti hxe ?_
  refine lv_istore_n (lv' := [(2, .int x), (0, .ref (Q 0)), (1, .ref v)]) hx hb dX11_keepLaws_8 rfl hl (by decide) rfl (fun ls hl => ?_)
  refine lv_iload_n hx hb dX11_keepLaws_9 rfl (lv_at hl 0 rfl) ?_
  refine lv_if_lt (tgt := 37) hx hb dX11_keepLaws_10 (by decide) (fun c1 => absurd c1 h0x) (fun _ => ?_)
  refine lv_iload_n hx hb dX11_keepLaws_13 rfl (lv_at hl 0 rfl) ?_
  refine lv_aload_n hx hb dX11_keepLaws_14 rfl (lv_at hl 1 rfl) ?_
  refine cg_X11_88 hC hH dX11_keepLaws_15 ?_
  have hP1 : va_P (gD G) vwCl [(Q 13, .inr (0, [.int mc, .ref t0, .int (nI n)]))] s.heap := fun k q hk => match k, hk with | 0, hk => by cases Option.some.inj hk; exact hP 70 _ rfl
  refine vp_callSi (va_Run.run (va_runV (As := []) (rest := [.int x]) (C := RJx4a65c) ⟨hx, hb, hml, hown, htk⟩ (a_size l G Z.1 (Z.1.1 1000) A (Q 13) mc (.ref t0) (nI n)) (cwV 0 htk (gdV wka198 (wLK _ wl14) (wLK _ wl15) (wLK _ wl13) (fun w hw => ⟨wLK _ (alL _ _ _ _ wl16 w hw).1, (alL _ _ _ _ wl16 w hw).2⟩)) rfl rfl rfl kVJx4a65c_size_8abf5 ⟨Nat.le_of_ble_eq_true rfl, Nat.le_of_ble_eq_true rfl⟩) ⟨aP.blind, va_recv hB.1 hP1 (ci := 0) (q0 := 0) rfl rfl, fun U hU hW => ⟨rfl, by rw [hU]; exact hP1, hB.moved hW, by rw [hU]; exact hE.1.moved hW, hE.2.2.moved hW.alike⟩⟩ rfl rfl hl.1 rfl (lv_room (Nat.le_of_ble_eq_true rfl)) dX11_keepLaws_18 ⟨Nat.zero_le _, Nat.zero_le _⟩)) (fun y hy => ?_)
  rw [hy]
  refine lv_icmp_ge (tgt := 37) hx hb dX11_keepLaws_21 (by decide) (fun c2 => ?_) (fun c2 => ?_)
  · exact absurd c2 hge
  · refine lv_aload_n hx hb dX11_keepLaws_24 rfl (lv_at hl 1 rfl) ?_
    refine cg_X11_88 hC hH dX11_keepLaws_25 ?_
    refine lv_iload_n hx hb dX11_keepLaws_28 rfl (lv_at hl 0 rfl) ?_
    refine lv_aload_n hx hb dX11_keepLaws_29 rfl (lv_at hl 2 rfl) ?_
    refine ccSet (f := f) hC hL hH h0x (Int32.not_le.mp hge) hin hfi hTs (wKA0 _ wka199) (wKA0 _ (wLK _ wl13)) wKA5 ⟨Nat.le_of_ble_eq_true rfl, Nat.le_of_ble_eq_true rfl⟩ hl.1 (Nat.le_of_ble_eq_true rfl) ⟨by show _ ≤ C1; omega, by show _ ≤ C2; omega⟩ dX11_keepLaws_30 (fun H locs hH => ?_)
    refine lv_pop hx hb dX11_keepLaws_33 rfl ?_
    refine lv_goto (tgt := 46) hx hb dX11_keepLaws_34 (by decide) ?_
    refine lv_aload_n hx hb dX11_keepLaws_46 rfl (lv_at hl 1 rfl) ?_
    refine cg_X11_10 hC hH dX11_keepLaws_47 ?_
    refine lv_iconst (v := 3) hx hb dX11_keepLaws_50 (by decide) ?_
    refine lv_iload_n hx hb dX11_keepLaws_51 rfl (lv_at hl 0 rfl) ?_
    refine lv_iconst (v := 1) hx hb dX11_keepLaws_52 (by decide) ?_
    refine lv_iadd hx hb dX11_keepLaws_53 ?_
    refine ccV_vA (q0 := 1) (As := [.int 3, .int (x + 1)]) (rest := []) hC hH (n_X1_put l G Z Q _ _ u u1 r C1 C2 3 (x + 1) _ hF) rfl rfl ⟨wkc_X1_put, wka201, wka439, wka440, wka745⟩ kVX1_put ⟨Nat.le_of_ble_eq_true rfl, Nat.le_of_ble_eq_true rfl⟩ ⟨by show _ ≤ C1; omega, by show _ ≤ C2; omega⟩ rfl hl.1 rfl (Nat.le_of_ble_eq_true rfl) dX11_keepLaws_54 (fun D1 H locs hH => ?_)
    refine W.widen (k := C1) (n := C2) (by omega) (by omega) ?_
    exact W.vret hx hb hr (fun t ht hW => ⟨⟨(), rfl, trivial, 0, D1, by rw [ht]; exact hH.1, hH.2.1⟩, hH.2.2.F ht⟩) hH.2.2.2.2 dX11_keepLaws_57

