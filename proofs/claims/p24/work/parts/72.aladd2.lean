def wo_a_add3g : List Cond := [.fieldLink RJx4a65c 48 "java/util/ArrayList" "size" "I", .methodLink RJx4a65c 129 yJx4a65c_grow_d5877, .instanceMethod yJx4a65c_grow_d5877, .selects RJx4a65c yJx4a65c_grow_d5877 yJx4a65c_grow_d5877, .initialized RJx4a65c]
def wq_a_add3g : List Cond := .code yJx4a65c_add_72be8 cJx4a65c_add_72be8 4 none :: (wo_a_add3g ++ (wq_a_grow0 ++ (wsJx4a65c0 ++ [])))
theorem gd_a_add3g : ∀ w ∈ wq_a_add3g, Gd w := List.forall_mem_cons.mpr ⟨Or.inl rfl, List.forall_mem_append.mpr ⟨gdl wo_a_add3g (by decide +kernel), (List.forall_mem_append.mpr ⟨gd_a_grow0, (List.forall_mem_append.mpr ⟨gd_wsJx4a65c0, (fun _ h => absurd h List.not_mem_nil)⟩)⟩)⟩⟩
theorem in_a_add3g : ∀ w ∈ wq_a_add3g, w ∈ lw_tbl := List.forall_mem_cons.mpr ⟨List.mem_of_getElem? (i := 890) (by decide +kernel), List.forall_mem_append.mpr ⟨inT wo_a_add3g [544, 891, 893, 32, 170] (by decide +kernel), (List.forall_mem_append.mpr ⟨in_a_grow0, (List.forall_mem_append.mpr ⟨in_wsJx4a65c0, (fun _ h => absurd h List.not_mem_nil)⟩)⟩)⟩⟩
set_option maxHeartbeats 4000000 in
theorem a_add3g (l : Launch) (G : gG) (g : ClassId) (mi h0 ta cap v : Nat) (mc : Int32) (vs : List Value) (f : Nat → Option Nat) (k sz : Nat) (hc : 0 < cap) (hck : cap < k) (hk : k ≤ 16777216) (he : nI cap + (if (1 : Int32) < nI cap >>> (1 &&& 31) then nI cap >>> (1 &&& 31) else 1) = nI k) : Met l yJx4a65c_add_72be8 wq_a_add3g { frames := 5, cells := 1, slots := k, locals := 127 } (va_Pc [.ref h0, .ref v, .ref ta, .int (nI cap)] (oP G g mi f cap [(h0, .inr (0, [.int mc, .ref ta, .int (nI cap)])), (ta, .inl (g, cap, .inr (.inr (.inr (.inr f))))), (v, .inr (5, vs))] sz)) (va_Qv (fun _ : Unit => True) (fun (_ : Unit) (t : State) => ∃ q : Nat, va_P (gD G) vwCl [(h0, .inr (0, [.int mc, .ref q, .int (nI (cap + 1))])), (q, .inl (g, k, .inr (.inr (.inr (.inr (va_up (va_cpy f (fun _ => none) 0 0 cap) cap (some v))))))), (v, .inr (5, vs))] t.heap ∧ va_D (va_A [(h0, .inr (0, [.int mc, .ref ta, .int (nI cap)])), (ta, .inl (g, cap, .inr (.inr (.inr (.inr f))))), (v, .inr (5, vs))] sz) [(h0, .inr (0, [.int mc, .ref q, .int (nI (cap + 1))])), (q, .inl (g, k, .inr (.inr (.inr (.inr (va_up (va_cpy f (fun _ => none) 0 0 cap) cap (some v))))))), (v, .inr (5, vs))]) (va_A [(h0, .inr (0, [.int mc, .ref ta, .int (nI cap)])), (ta, .inl (g, cap, .inr (.inr (.inr (.inr f))))), (v, .inr (5, vs))] sz)) 1 k (va_A [(h0, .inr (0, [.int mc, .ref ta, .int (nI cap)])), (ta, .inl (g, cap, .inr (.inr (.inr (.inr f))))), (v, .inr (5, vs))] sz) := by
  refine Met.ofW (cc := cJx4a65c_add_72be8) (maxL := 4) (ret := none) (by decide) rfl ?_
  intro p e s m args below meth c s₁ B hml hv
  obtain ⟨rfl, rfl, hP, hB, hD0, hO⟩ := hv
  have hx := B.exec
  have hb := B.bytes
  have hr := B.returns
  have hlocks := B.notSynchronized
  have hts := atoms_spec (ws := wq_a_add3g) B.pre
  have hin : ∀ w ∈ wsJx4a65c0, w ∈ wq_a_add3g := fun _ h9 => (List.mem_cons_of_mem _ (List.mem_append_right _ (List.mem_append_right _ (List.mem_append_left _ h9))))
  have hown : s.vm.findClass RJx4a65c = some m.cls := findClass_of_methodNamed B.named
  have hD := hD0.self (sz := s.heap.size)
  have hA : ∀ q : Nat, s.heap.size ≤ q → va_A [(h0, .inr (0, [.int mc, .ref ta, .int (nI cap)])), (ta, .inl (g, cap, .inr (.inr (.inr (.inr f))))), (v, .inr (5, vs))] s.heap.size q := fun q h => Or.inr h
  generalize va_A [(h0, .inr (0, [.int mc, .ref ta, .int (nI cap)])), (ta, .inl (g, cap, .inr (.inr (.inr (.inr f))))), (v, .inr (5, vs))] s.heap.size = A at hD hA hO ⊢
  have hS : va_S A s.heap s.heap [] := va_S.rf
  have hK := hO.1.K hB
  have hl := lv_entry ([.ref h0, .ref v, .ref ta, .int (nI cap)]) (n := 4) (Nat.le_of_ble_eq_true rfl)
  rw [lg_entry_eq]
  generalize (lg_sl ([.ref h0, .ref v, .ref ta, .int (nI cap)]) ++ List.replicate (4 - (lg_sl ([.ref h0, .ref v, .ref ta, .int (nI cap)])).length) Slot.unset).toArray = ls at hl ⊢
  have hl : lv_has ls 4 [(0, .ref h0), (1, .ref v), (2, .ref ta), (3, .int (nI cap))] := hl
  refine lv_iload_n hx hb dJx4a65c_add_72be8_0 rfl (lv_at hl 3 rfl) ?_
  refine lv_aload_n hx hb dJx4a65c_add_72be8_1 rfl (lv_at hl 2 rfl) ?_
  refine va_alen (D := gD G) (v := nI cap) hx hb hK hP 1 0 rfl rfl rfl dJx4a65c_add_72be8_2 ?_
  refine lv_icmp_ne (tgt := 11) hx hb dJx4a65c_add_72be8_3 (by decide) (fun c9 => absurd rfl c9) (fun _ => ?_)
  refine lv_aload_n hx hb dJx4a65c_add_72be8_6 rfl (lv_at hl 0 rfl) ?_
  have hPc := hP.sub (ws' := [(h0, .inr (0, [.int mc, .ref ta, .int (nI cap)])), (ta, .inl (g, cap, .inr (.inr (.inr (.inr f)))))]) [0, 1] rfl
  have hDc := hD.sub (ws' := [(h0, .inr (0, [.int mc, .ref ta, .int (nI cap)])), (ta, .inl (g, cap, .inr (.inr (.inr (.inr f)))))]) [0, 1] (by decide) rfl
  have hFc := va_free (wc := [(h0, .inr (0, [.int mc, .ref ta, .int (nI cap)])), (ta, .inl (g, cap, .inr (.inr (.inr (.inr f)))))]) hD hS hA [0, 1] rfl
  refine va_callr (va_runV (As := []) (rest := []) (C := RJx4a65c) ⟨hx, hb, hml, hown, hts⟩ (a_grow0 l G g mi h0 ta cap mc f k s.heap.size hc hck hk he) (cwV 0 hts (gdV (List.mem_cons_of_mem _ (List.mem_append_left _ (List.mem_of_getElem? (i := 1) rfl))) (List.mem_cons_of_mem _ (List.mem_append_left _ (List.mem_of_getElem? (i := 2) rfl))) (List.mem_cons_of_mem _ (List.mem_append_left _ (List.mem_of_getElem? (i := 3) rfl))) (List.mem_cons_of_mem _ (List.mem_append_left _ (List.mem_of_getElem? (i := 4) rfl))) (fun w9 h9 => ⟨(List.mem_cons_of_mem _ (List.mem_append_right _ (List.mem_append_left _ h9))), gd_a_grow0 w9 h9⟩)) rfl rfl rfl kVJx4a65c_grow_d5877 ⟨Nat.le_of_ble_eq_true rfl, Nat.le_of_ble_eq_true rfl⟩) ⟨oP.blind, va_recv hB.1 hP (ci := 0) (q0 := 0) rfl rfl, fun U hU hW => ⟨rfl, by rw [hU], by rw [hU]; exact hPc, hB.moved hW, hDc.weaken (fun _ _ _ _ => trivial), by rw [hU]; exact (hO.narrow (fun q _ h => hFc q h)).moved hW⟩⟩ rfl rfl hl.1 rfl (lv_room (Nat.le_of_ble_eq_true rfl)) dJx4a65c_add_72be8_7 ⟨Nat.le_of_ble_eq_true rfl, by show 0 + k ≤ k; omega⟩) hS (fun z _ h => hFc z h) hFc (fun u2 q t H1 locs ht hvm hw hB1 hz1 hk1 hS => ?_)
  obtain ⟨hP1, hD1⟩ := hB1
  rw [ht] at hP1
  obtain ⟨hP, hD⟩ := va_join (wr := [(v, .inr (5, vs))]) (w1 := [(h0, .inr (0, [.int mc, .ref q, .int (nI cap)])), (q, .inl (g, k, .inr (.inr (.inr (.inr (va_cpy f (fun _ => none) 0 0 cap))))))]) hP hD [0, 1] [2] rfl rfl (by decide) (by decide) hk1 hFc hP1 hD1
  refine W.eq (g2 := F0 m 10 ls [.ref q]) rfl ?_
  refine lv_astore_n (lv' := [(2, .ref q), (0, .ref h0), (1, .ref v), (3, .int (nI cap))]) hx hb dJx4a65c_add_72be8_10 rfl hl (by decide) rfl (fun ls hl => ?_)
  refine lv_aload_n hx hb dJx4a65c_add_72be8_11 rfl (lv_at hl 0 rfl) ?_
  refine lv_iload_n hx hb dJx4a65c_add_72be8_12 rfl (lv_at hl 3 rfl) ?_
  refine lv_aload_n hx hb dJx4a65c_add_72be8_13 rfl (lv_at hl 2 rfl) ?_
  refine va_astqO (D := gD G) hx hb hK hP hD hS 2 0 0 5 rfl rfl hO.2.2.2.1 rfl rfl (fun z => z.elim (fun a => nI_pos (by omega) a) (fun b => by rw [nI_clamp (by omega)] at b; omega)) dJx4a65c_add_72be8_14 (fun H locs hP hD hS => ?_)
  rw [nI_clamp (show cap < 2 ^ 31 by omega)] at hP hD
  refine lv_aload_n hx hb dJx4a65c_add_72be8_15 rfl (lv_at hl 1 rfl) ?_
  refine lv_iload_n hx hb dJx4a65c_add_72be8_16 rfl (lv_at hl 3 rfl) ?_
  refine lv_iconst (v := 1) hx hb dJx4a65c_add_72be8_17 (by decide) ?_
  refine lv_iadd hx hb dJx4a65c_add_72be8_18 ?_
  refine gx_ti (ngr_one cap) ?_
  refine va_put (D := gD G) (ci := 0) (v := .int (nI (cap + 1))) (ty := tyJx4a65c 2) (C := RJx4a65c) (T := TJx4a65c) (N := 3) hx hb hts hin tyJx4a65c tyJx4a65c_ok nmJx4a65c hown hB.1 hP hD hS 1 rfl rfl 2 (by decide) (hts _ (List.mem_cons_of_mem _ (List.mem_append_left _ (List.mem_of_getElem? (i := 0) rfl)))) (fun _ h9 => h9) rfl (tyJx4a65c_ok 2 (by decide)) rfl rfl (Nat.le_of_ble_eq_true rfl) dJx4a65c_add_72be8_19 (fun H locs hP hD hS => ?_)
  have hP9 := hP.sub (ws' := [(h0, .inr (0, [.int mc, .ref q, .int (nI (cap + 1))])), (q, .inl (g, k, .inr (.inr (.inr (.inr (va_up (va_cpy f (fun _ => none) 0 0 cap) cap (some v))))))), (v, .inr (5, vs))]) [1, 2, 0] rfl
  have hD9 := hD.sub (ws' := [(h0, .inr (0, [.int mc, .ref q, .int (nI (cap + 1))])), (q, .inl (g, k, .inr (.inr (.inr (.inr (va_up (va_cpy f (fun _ => none) 0 0 cap) cap (some v))))))), (v, .inr (5, vs))]) [1, 2, 0] (by decide) rfl
  refine W.widen (k := 1) (n := k) (Nat.le_of_ble_eq_true rfl) (by show 0 + k ≤ k; omega) ?_
  exact W.vret hx hb hr (fun t ht hW => ⟨⟨(), rfl, trivial, q, by rw [ht]; exact hP9, hD9⟩, hS.F ht⟩) hS.2.2 dJx4a65c_add_72be8_22

