/-- laws() where it refuses: open fights, text that does not read, a full book -/
def x_lawsNo : NG Int32 := ncl x_X3_openFights (fun k => if k ≤ 0 then ncl x_X5_readLaws (fun b => ncl (nWF 2 0) (fun _ => if b = 0 then nrt (-1) else ncl x_X1_isFull (fun z => if z = 0 then (fun _ => none) else nrt (-4)))) else ncl (nWF 2 0) (fun _ => nrt (-3)))
set_option maxHeartbeats 4000000 in
set_option maxRecDepth 100000 in
theorem n_X11_lawsNo (l : Launch) (G : gG) (Z : gC) (Q : Nat → Nat) (D : Nat × Nat) (T : va_W) (u u1 : MS) (r : Int32) (sz : Nat) (hF : x_lawsNo u = some (r, u1)) : Met l yX11_laws (Cond.code yX11_laws cX11_laws 2 (some .int) :: wK) { frames := 9, cells := 0, slots := 0, locals := 189 } (va_Pc [.ref (Q 0)] (cPM G Z Q D T u sz)) (cQi G Q T u1 r (va_A (cW G Q D T u) sz)) 0 0 (va_A (cW G Q D T u) sz) := by
  refine Met.ofW (cc := cX11_laws) (maxL := 2) (ret := (some .int)) (by decide) rfl ?_
  intro p e s m args below meth c s₁ B hml hv
  obtain ⟨rfl, rfl, hP, hB, hD0, hE⟩ := hv
  have hr := B.returns
  have hlocks := B.notSynchronized
  have hts := atoms_spec (ws := Cond.code yX11_laws cX11_laws 2 (some .int) :: wK) B.pre
  have hD := hD0.self (sz := s.heap.size)
  have hA : ∀ q : Nat, s.heap.size ≤ q → va_A (cW G Q D T u) s.heap.size q := fun q h => Or.inr h
  generalize va_A (cW G Q D T u) s.heap.size = A at hD hA hE ⊢
  have hC : cX p c cX11_laws 2 s m _ RX11 G Z A := ⟨B.exec, B.bytes, hml, findClass_of_methodNamed B.named, fun w h => hts w (List.mem_cons_of_mem _ h), hB, hE, hA⟩
  have hx := hC.1
  have hb := hC.2.1
  have hH : cH G Q D T A u s s.heap [] := ⟨hP, hD, va_S.rf⟩
  have hl := lv_entry ([.ref (Q 0)]) (n := 2) (Nat.le_of_ble_eq_true rfl)
  rw [lg_entry_eq]
  generalize (lg_sl ([.ref (Q 0)]) ++ List.replicate (2 - (lg_sl ([.ref (Q 0)])).length) Slot.unset).toArray = ls at hl ⊢
  have hl : lv_has ls 2 [(0, .ref (Q 0))] := hl
  unfold x_lawsNo at hF
  refine lv_aload_n hx hb dX11_laws_0 rfl (lv_at hl 0 rfl) ?_
  refine cg_X11_60 hC hH dX11_laws_1 ?_
  obtain ⟨k1, u2, h3, hF⟩ := ncl_some hF
  refine ccV_i (q0 := 7) (As := []) (rest := []) hC hH (n_X3_openFights l G Z Q _ T u u2 k1 _ h3) rfl rfl ⟨wkc_X3_openFights, wka141, wka483, wka484, wka747⟩ kVX3_openFights ⟨Nat.le_of_ble_eq_true rfl, Nat.le_of_ble_eq_true rfl⟩ rfl hl.1 rfl (Nat.le_of_ble_eq_true rfl) dX11_laws_4 (fun D H locs hH => ?_)
  refine lv_if_le (tgt := 21) hx hb dX11_laws_7 (by decide) (fun c1 => ?_) (fun c1 => ?_)
  · rw [if_pos c1] at hF
    refine lv_aload_n hx hb dX11_laws_21 rfl (lv_at hl 0 rfl) ?_
    refine cg_X11_28 hC hH dX11_laws_22 ?_
    obtain ⟨b1, u3, h4, hF⟩ := ncl_some hF
    refine ccV_i (q0 := 3) (As := []) (rest := []) hC hH (n_X5_readLaws l G Z Q _ T u2 u3 b1 _ h4) rfl rfl ⟨wkc_X5_readLaws, wka146, wka530, wka531, wka749⟩ kVX5_readLaws ⟨Nat.le_of_ble_eq_true rfl, Nat.le_of_ble_eq_true rfl⟩ rfl hl.1 rfl (Nat.le_of_ble_eq_true rfl) dX11_laws_25 (fun D H locs hH => ?_)
    refine lv_istore_n (lv' := [(1, .int b1), (0, .ref (Q 0))]) hx hb dX11_laws_28 rfl hl (by decide) rfl (fun ls hl => ?_)
    refine lv_aload_n hx hb dX11_laws_29 rfl (lv_at hl 1 rfl) ?_
    refine cg_X11_19 hC hH dX11_laws_30 ?_
    refine lv_iconst (v := 0) hx hb dX11_laws_33 (by decide) ?_
    obtain ⟨y9, u4, h5, hF⟩ := ncl_some hF
    have e8 := nWF_eq h5
    refine cp_X11_92 hC hH e8 dX11_laws_34 (fun H locs hH => ?_)
    refine lv_iload_n hx hb dX11_laws_37 rfl (lv_at hl 0 rfl) ?_
    refine lv_if_ne (tgt := 43) hx hb dX11_laws_38 (by decide) (fun c2 => ?_) (fun c2 => ?_)
    · rw [if_neg c2] at hF
      refine lv_aload_n hx hb dX11_laws_43 rfl (lv_at hl 1 rfl) ?_
      refine cg_X11_10 hC hH dX11_laws_44 ?_
      obtain ⟨z1, u5, h6, hF⟩ := ncl_some hF
      refine ccV_i (q0 := 1) (As := []) (rest := []) hC hH (n_X1_isFull l G Z Q _ T u4 u5 z1 _ h6) rfl rfl ⟨wkc_X1_isFull, wka192, wka441, wka442, wka745⟩ kVX1_isFull ⟨Nat.le_of_ble_eq_true rfl, Nat.le_of_ble_eq_true rfl⟩ rfl hl.1 rfl (Nat.le_of_ble_eq_true rfl) dX11_laws_47 (fun D H locs hH => ?_)
      refine lv_if_eq (tgt := 56) hx hb dX11_laws_50 (by decide) (fun c3 => ?_) (fun c3 => ?_)
      · rw [if_pos c3] at hF
        exact absurd hF (fun z => by cases z)
      · rw [if_neg c3] at hF
        refine lv_bipush (v := (-4)) hx hb dX11_laws_53 (by decide) ?_
        exact cr_i hC hH hr (nrt_eq hF) dX11_laws_55 hlocks
    · rw [if_pos c2] at hF
      refine lv_iconst (v := (-1)) hx hb dX11_laws_41 (by decide) ?_
      exact cr_i hC hH hr (nrt_eq hF) dX11_laws_42 hlocks
  · rw [if_neg c1] at hF
    refine lv_aload_n hx hb dX11_laws_10 rfl (lv_at hl 0 rfl) ?_
    refine cg_X11_19 hC hH dX11_laws_11 ?_
    refine lv_iconst (v := 0) hx hb dX11_laws_14 (by decide) ?_
    obtain ⟨y9, u4, h5, hF⟩ := ncl_some hF
    have e8 := nWF_eq h5
    refine cp_X11_92 hC hH e8 dX11_laws_15 (fun H locs hH => ?_)
    refine lv_bipush (v := (-3)) hx hb dX11_laws_18 (by decide) ?_
    exact cr_i hC hH hr (nrt_eq hF) dX11_laws_20 hlocks

