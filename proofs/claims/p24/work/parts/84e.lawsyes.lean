def wKL : List Cond := wKA ++ (wN2 ++ wq_k_Laws_init)
theorem gd_wKL : ∀ w ∈ wKL, Gd w := List.forall_mem_append.mpr ⟨gd_wKA, List.forall_mem_append.mpr ⟨gdl wN2 (by decide +kernel), gd_k_Laws_init⟩⟩
theorem in_wKL : ∀ w ∈ wKL, w ∈ lw_tbl := List.forall_mem_append.mpr ⟨in_wKA, List.forall_mem_append.mpr ⟨inT wN2 [285, 286, 287] (by decide +kernel), in_k_Laws_init⟩⟩
theorem wKLA : ∀ w ∈ wKA, w ∈ wKL := fun _ h => List.mem_append_left _ h
theorem wKLN : ∀ w ∈ wKN, w ∈ wKL := fun _ h => (List.mem_append.mp h).elim (fun z => wKLA _ (wKA0 _ z)) (fun z => List.mem_append_right _ z)
theorem wKNK : ∀ w ∈ wK, w ∈ wKN := fun _ h => List.mem_append_left _ h
def opv (Q : Nat → Nat) (u : MS) : List Value := [.int (u.1 20), .int (u.1 21), .int (u.1 22), .int (u.1 23), .int (u.1 24), .int (u.1 25), .ref (Q 34), .ref (Q 36), .ref (Q 38)]
def opt (G : gG) (Q : Nat → Nat) (u : MS) : va_W := [(Q 34, .inr (10, [.ref (Q 35)])), (Q 35, .inl (gI G, 300, .inl (u.2 8))), (Q 36, .inr (10, [.ref (Q 37)])), (Q 37, .inl (gI G, 20, .inl (u.2 9))), (Q 38, .inr (10, [.ref (Q 39)])), (Q 39, .inl (gI G, 20, .inl (u.2 10)))]
section HAND
variable {p : Program} {l : Launch} {e : Env} {R : Room} {s : State} {m : MethodId} {args : Array Value} {below : List Frame} {meth : Method} {c : Code} {H : Heap} {locs : List Loc} {Q' : State → Prop} {cc : ByteArray} {nL pc cells slots : Nat} {ls : Array Slot} {rest : List Value} {G : gG} {Z : gC} {Q : Nat → Nat} {D : Nat × Nat} {T : va_W} {A : Nat → Prop} {u : MS} {Ts : List Cond}
theorem ccHand (hC : cX p c cc nL s m args RX11 G Z A) (hH : cH G Q D T A u s H locs) (hTs : ∀ w ∈ Ts, w.before args s = true) (hq : ∀ w ∈ wKN, w ∈ Ts) (hR : 3 + 1 ≤ R.frames ∧ 8 + (2 + 11) + 65 ≤ R.locals) (hls : ls.size = nL) (hcat : (rest.map fun v => v.category).sum ≤ 8) (hf : cells + 7 ≤ R.cells ∧ slots + 352 ≤ R.slots) (hdg : decode cc pc = .ok (.invokevirtual 114, 3)) (kk : ∀ (Q1 : Nat → Nat) (H1 : Heap) (locs1 : List Loc), Q1 0 = Q 0 → Q1 13 = Q 13 → Q1 14 = Q 14 → cH G Q1 D (opk G Q D u ++ T) A (dnew u) s H1 locs1 → W p l e R s m args below meth c H1 locs1 (cells + 7) (slots + 352) Q' (F0 m (pc + 3) ls (.ref (Q 10) :: rest))) : W p l e R s m args below meth c H locs cells slots Q' (F0 m pc ls (.ref (Q 3) :: rest)) := by
  have hle := cH.sub hC hH
  have hC2 := hC
  obtain ⟨hx, hb, hml, hown, hts, hB, hE, hA⟩ := hC
  refine va_callr (va_runV (As := []) (rest := rest) (C := RX5) ⟨hx, hb, hml, hown, hTs⟩ (n_X5_handOver l G Z Q D T u H.size) (cwV 0 hTs (gdV (hq _ (wKNK _ wka195)) (hq _ (wKNK _ wka528)) (hq _ (wKNK _ wka529)) (hq _ (wKNK _ wka749)) (fun w9 h9 => (List.mem_cons.mp h9).elim (fun z => ⟨z ▸ hq _ (wKNK _ wkc_X5_handOver), z ▸ gd_wK _ wkc_X5_handOver⟩) (fun z => ⟨hq _ z, gd_wKN _ z⟩))) rfl rfl rfl kVX5_handOver hR) ⟨cPM.blind, va_recv hB.1 hH.1 (ci := 6) (q0 := 3) rfl rfl, fun U hU hW => ⟨rfl, cH.pre hC2 hH U hU hW⟩⟩ rfl rfl hls rfl (lv_room hcat) hdg hf) hH.2.2 (fun q _ h => hle q h) hle (fun u2 a1 t H1 locs1 ht hvm hw hB1 hz1 hk1 hS => ?_)
  obtain ⟨rfl, q, hc, ac, he, ae, ho, ao, b1, b2⟩ := hB1
  rw [ht] at b1
  exact kk (Qn Q q hc ac he ae ho ao) H1 locs1 rfl rfl rfl ⟨b1, b2.weaken (fun _ _ _ h => hle _ h), hS⟩
end HAND
theorem cH.perm {s : State} {H : Heap} {locs : List Loc} {G : gG} {Q : Nat → Nat} {D : Nat × Nat} {T T2 : va_W} {A : Nat → Prop} {u : MS} (h : T2.Perm T) (hH : cH G Q D T A u s H locs) : cH G Q D T2 A u s H locs := by
  have e : ∀ X : va_W, cW G Q D X u = cW G Q D [] u ++ X := fun X => rfl
  have hp : (cW G Q D T2 u).Perm (cW G Q D T u) := by
    rw [e T2, e T]
    exact List.Perm.append_left _ h
  exact ⟨wP_of hH.1 (fun x hx => hp.mem_iff.mp hx), wD_perm hH.2.1 hp, hH.2.2⟩
/-- laws() where it keeps, up to what is handed over -/
def x_lawsYes : NG Int32 := ncl x_X3_openFights (fun k => if k ≤ 0 then ncl x_X5_readLaws (fun b => ncl (nWF 2 0) (fun _ => if b = 0 then (fun _ => none) else ncl x_X1_isFull (fun z => if z = 0 then ncl x_X1_openEntry (fun _ => nrt 0) else (fun _ => none)))) else (fun _ => none))
set_option maxHeartbeats 4000000 in
set_option maxRecDepth 100000 in
theorem n_X11_lawsYes (l : Launch) (G : gG) (Z : gC) (mi : Nat) (Q : Nat → Nat) (D : Nat × Nat) (T1 : va_W) (P : gLw) (LW : List gLw) (o : gOa) (mc : Int32) (u u5 u6 : MS) (r r6 : Int32) (C1 C2 sz : Nat) (hTd : toldC G Q T1 P LW o) (hn : LW.length < 512) (hF : x_lawsYes u = some (r, u5)) (hF2 : x_X1_put 3 (rg (u5.2 0) 2088 3 + 1) (dnew u5) = some (r6, u6, C1, C2)) : Met l yX11_laws (Cond.code yX11_laws cX11_laws 2 (some .int) :: wKL) { frames := 9, cells := 8 + C1, slots := 901 + C2, locals := 215 } (va_Pc [.ref (Q 0)] (cPL G Z mi Q D (tlC Z Q mc LW.length o ++ T1) u sz)) (va_Qi (fun (x : Int32) (_ : Unit) => x = (lnw P (kpL LW (rg (u5.2 0) 2088 3) (Q 10, dlq Q, dL u5)) u6).2.2.1 3) (fun (_ : Unit) (t : State) => ∃ (Q1 : Nat → Nat) (D1 : Nat × Nat) (mc1 : Int32) (o1 : gOa) (T2 : va_W), Q1 0 = Q 0 ∧ toldC G Q1 T2 P (kpL LW (rg (u5.2 0) 2088 3) (Q 10, dlq Q, dL u5)) o1 ∧ va_P (gD G) vwCl (cW G Q1 D1 (tlC Z Q1 mc1 (kpL LW (rg (u5.2 0) 2088 3) (Q 10, dlq Q, dL u5)).length o1 ++ T2) u6) t.heap ∧ va_D (va_A (cW G Q D (tlC Z Q mc LW.length o ++ T1) u) sz) (cW G Q1 D1 (tlC Z Q1 mc1 (kpL LW (rg (u5.2 0) 2088 3) (Q 10, dlq Q, dL u5)).length o1 ++ T2) u6)) (va_A (cW G Q D (tlC Z Q mc LW.length o ++ T1) u) sz)) (8 + C1) (901 + C2) (va_A (cW G Q D (tlC Z Q mc LW.length o ++ T1) u) sz) := by
  generalize hTe : tlC Z Q mc LW.length o ++ T1 = T
  refine Met.ofW (cc := cX11_laws) (maxL := 2) (ret := (some .int)) (by decide) rfl ?_
  intro p e s m args below meth c s₁ B hml hv
  obtain ⟨rfl, ⟨rfl, hP, hB, hD0, hE⟩, hL⟩ := hv
  have hr := B.returns
  have hlocks := B.notSynchronized
  have hts0 := atoms_spec (ws := Cond.code yX11_laws cX11_laws 2 (some .int) :: wKL) B.pre
  have hTs : ∀ w ∈ wKL, w.before _ s = true := fun w h => hts0 w (List.mem_cons_of_mem _ h)
  have htk : ∀ w ∈ wK, w.before _ s = true := fun w h => hTs w (wKLA _ (wKA0 w h))
  have hD := hD0.self (sz := s.heap.size)
  have hA : ∀ q : Nat, s.heap.size ≤ q → va_A (cW G Q D T u) s.heap.size q := fun q h => Or.inr h
  generalize va_A (cW G Q D T u) s.heap.size = A at hD hA hE hL ⊢
  have hC : cX p c cX11_laws 2 s m _ RX11 G Z A := ⟨B.exec, B.bytes, hml, findClass_of_methodNamed B.named, htk, hB, hE, hA⟩
  have hx := hC.1
  have hb := hC.2.1
  have hH : cH G Q D T A u s s.heap [] := ⟨hP, hD, va_S.rf⟩
  have hl := lv_entry ([.ref (Q 0)]) (n := 2) (Nat.le_of_ble_eq_true rfl)
  rw [lg_entry_eq]
  generalize (lg_sl ([.ref (Q 0)]) ++ List.replicate (2 - (lg_sl ([.ref (Q 0)])).length) Slot.unset).toArray = ls at hl ⊢
  have hl : lv_has ls 2 [(0, .ref (Q 0))] := hl
  unfold x_lawsYes at hF
  refine lv_aload_n hx hb dX11_laws_0 rfl (lv_at hl 0 rfl) ?_
  refine cg_X11_60 hC hH dX11_laws_1 ?_
  obtain ⟨k1, u2, h3, hF⟩ := ncl_some hF
  refine ccV_i (q0 := 7) (As := []) (rest := []) hC hH (n_X3_openFights l G Z Q _ T u u2 k1 _ h3) rfl rfl ⟨wkc_X3_openFights, wka141, wka483, wka484, wka747⟩ kVX3_openFights ⟨Nat.le_of_ble_eq_true rfl, Nat.le_of_ble_eq_true rfl⟩ rfl hl.1 rfl (Nat.le_of_ble_eq_true rfl) dX11_laws_4 (fun D H locs hH => ?_)
  refine lv_if_le (tgt := 21) hx hb dX11_laws_7 (by decide) (fun c1 => ?_) (fun c1 => ?_)
  · rw [if_pos c1] at hF
    refine lv_aload_n hx hb dX11_laws_21 rfl (lv_at hl 0 rfl) ?_
    refine cg_X11_28 hC hH dX11_laws_22 ?_
    obtain ⟨b1, u3, h4, hF⟩ := ncl_some hF
    refine ccV_i (q0 := 3) (As := []) (rest := []) hC hH (n_X5_readLaws l G Z Q _ T u2 u3 b1 _ h4) rfl rfl ⟨wkc_X5_readLaws, wka146, wka530, wka531, wka749⟩ kVX5_readLaws ⟨Nat.le_of_ble_eq_true rfl, Nat.le_of_ble_eq_true rfl⟩ rfl hl.1 rfl (Nat.le_of_ble_eq_true rfl) dX11_laws_25 (fun D H locs hH => ?_)
    refine lv_istore_n (lv' := [(1, .int b1), (0, .ref (Q 0))]) hx hb dX11_laws_28 rfl hl (by decide) rfl (fun ls hl => ?_)
    refine lv_aload_n hx hb dX11_laws_29 rfl (lv_at hl 1 rfl) ?_
    refine cg_X11_19 hC hH dX11_laws_30 ?_
    refine lv_iconst (v := 0) hx hb dX11_laws_33 (by decide) ?_
    obtain ⟨y9, u4, h5, hF⟩ := ncl_some hF
    have e8 := nWF_eq h5
    refine cp_X11_92 hC hH e8 dX11_laws_34 (fun H locs hH => ?_)
    refine lv_iload_n hx hb dX11_laws_37 rfl (lv_at hl 0 rfl) ?_
    refine lv_if_ne (tgt := 43) hx hb dX11_laws_38 (by decide) (fun c2 => ?_) (fun c2 => ?_)
    · rw [if_neg c2] at hF
      refine lv_aload_n hx hb dX11_laws_43 rfl (lv_at hl 1 rfl) ?_
      refine cg_X11_10 hC hH dX11_laws_44 ?_
      obtain ⟨z1, u9, h6, hF⟩ := ncl_some hF
      refine ccV_i (q0 := 1) (As := []) (rest := []) hC hH (n_X1_isFull l G Z Q _ T u4 u9 z1 _ h6) rfl rfl ⟨wkc_X1_isFull, wka192, wka441, wka442, wka745⟩ kVX1_isFull ⟨Nat.le_of_ble_eq_true rfl, Nat.le_of_ble_eq_true rfl⟩ rfl hl.1 rfl (Nat.le_of_ble_eq_true rfl) dX11_laws_47 (fun D H locs hH => ?_)
      refine lv_if_eq (tgt := 56) hx hb dX11_laws_50 (by decide) (fun c3 => ?_) (fun c3 => ?_)
      · rw [if_pos c3] at hF
        refine lv_aload_n hx hb dX11_laws_56 rfl (lv_at hl 1 rfl) ?_
        refine cg_X11_10 hC hH dX11_laws_57 ?_
        obtain ⟨z2, u8, h7, hF⟩ := ncl_some hF
        have e5 : u8 = u5 := by cases hF; rfl
        subst e5
        refine ccV_v (q0 := 1) (As := []) (rest := []) hC hH (n_X1_openEntry l G Z Q _ T u9 u8 z2 _ h7) rfl rfl ⟨wkc_X1_openEntry, wka193, wka443, wka444, wka745⟩ kVX1_openEntry ⟨Nat.le_of_ble_eq_true rfl, Nat.le_of_ble_eq_true rfl⟩ rfl hl.1 rfl (Nat.le_of_ble_eq_true rfl) dX11_laws_60 (fun D H locs hH => ?_)
        refine lv_aload_n hx hb dX11_laws_63 rfl (lv_at hl 1 rfl) ?_
        refine lv_aload_n hx hb dX11_laws_64 rfl (lv_at hl 1 rfl) ?_
        refine cg_X11_28 hC hH dX11_laws_65 ?_
        refine ccHand hC hH hTs wKLN ⟨Nat.le_of_ble_eq_true rfl, Nat.le_of_ble_eq_true rfl⟩ hl.1 (Nat.le_of_ble_eq_true rfl) ⟨by show 0 + 7 ≤ 8 + C1; omega, by show 0 + 352 ≤ 901 + C2; omega⟩ dX11_laws_68 (fun Q1 H locs q0 q13 q14 hH => ?_)
        have hH2 : cH G Q1 D (tlC Z Q1 mc LW.length o ++ ((Q 10, .inr (5, opv Q u8)) :: (opt G Q u8 ++ T1))) A (dnew u8) s H locs := by
          rw [← hTe] at hH
          rw [tlC_Q q13]
          refine cH.perm ?_ hH
          have e9 : opk G Q D u8 ++ (tlC Z Q mc LW.length o ++ T1) = ((Q 10, .inr (5, opv Q u8)) :: opt G Q u8) ++ (tlC Z Q mc LW.length o ++ T1) := rfl
          rw [e9]
          exact (List.perm_append_comm_assoc (tlC Z Q mc LW.length o) ((Q 10, .inr (5, opv Q u8)) :: opt G Q u8) T1)
        obtain ⟨t1, t2, t3, t4, t5⟩ := hTd
        refine W.eq (g2 := F0 m 71 ls [.ref (Q 10), .ref (Q1 0)]) (congrArg (fun a => F0 m 71 ls [.ref (Q 10), .ref a]) q0.symm) ?_
        refine ccKeep (w := (Q 10, dlq Q, dL u8)) hC hL hH2 rfl (t5.up (fun x hx => List.mem_append_right _ hx)) hn hF2 hTs wKLA ⟨Nat.le_of_ble_eq_true rfl, Nat.le_of_ble_eq_true rfl⟩ hl.1 (Nat.le_of_ble_eq_true rfl) ⟨by show 0 + 7 + (1 + C1) ≤ 8 + C1; omega, by show 0 + 352 + (549 + C2) ≤ 901 + C2; omega⟩ dX11_laws_71 (fun D H locs mc1 o1 hO1 hH => ?_)
        have hTd2 : toldC G Q1 ((Q 10, .inr (5, opv Q u8)) :: (opt G Q u8 ++ T1)) P (kpL LW (rg (u8.2 0) 2088 3) (Q 10, dlq Q, dL u8)) o1 := by
          refine ⟨t1.trans q14.symm, t2.pre (opk G Q D u8), fun x hx => ?_, ?_, hO1⟩
          · rcases kpL_mem hx with z | rfl
            · exact (t3 x z).pre (opk G Q D u8)
            · exact opk_law G Q D u8 T1
          · have := kpL_len LW (rg (u8.2 0) 2088 3) (Q 10, dlq Q, dL u8)
            omega
        have hH : cH G Q1 D (tlC Z Q1 mc1 (kpL LW (rg (u8.2 0) 2088 3) (Q 10, dlq Q, dL u8)).length o1 ++ ((Q 10, .inr (5, opv Q u8)) :: (opt G Q u8 ++ T1))) A u6 s H locs := hH
        refine lv_aload_n hx hb dX11_laws_74 rfl (lv_at hl 1 rfl) ?_
        refine W.eq (g2 := F0 m 75 ls [.ref (Q1 0)]) (congrArg (fun a => F0 m 75 ls [.ref a]) q0.symm) ?_
        refine ccLN hC hH (hTd2.at mc1) rfl wka205 ⟨Nat.le_of_ble_eq_true rfl, Nat.le_of_ble_eq_true rfl⟩ hl.1 (Nat.le_of_ble_eq_true rfl) ⟨by show 0 + 7 + (1 + C1) ≤ 8 + C1; omega, by show 0 + 352 + (549 + C2) ≤ 901 + C2; omega⟩ dX11_laws_75 (fun la lq hla => ?_)
        refine lg_X11_125 hC hH hla dX11_laws_78 ?_
        refine W.widen (k := 8 + C1) (n := 901 + C2) (by omega) (by omega) ?_
        exact W.iret hC.1 hC.2.1 hr (fun t ht hW => ⟨⟨_, (), rfl, rfl, Q1, D, mc1, o1, _, q0, hTd2, by rw [ht]; exact hH.1, hH.2.1⟩, hH.2.2.F ht⟩) hH.2.2.2.2 dX11_laws_81 hlocks
      · rw [if_neg c3] at hF
        exact absurd hF (fun z => by cases z)
    · rw [if_pos c2] at hF
      exact absurd hF (fun z => by cases z)
  · rw [if_neg c1] at hF
    exact absurd hF (fun z => by cases z)

