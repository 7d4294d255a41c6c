section
def lnw (P : Nat × (Nat → Nat) × MS) (LW : List (Nat × (Nat → Nat) × MS)) (u : MS) : Nat × (Nat → Nat) × MS := if rg (u.2 0) 2088 3 - 1 < 0 then P else if nI LW.length ≤ rg (u.2 0) 2088 3 - 1 then P else LW.getD (rg (u.2 0) 2088 3 - 1).toNatClampNeg P
/-- told and noLaws, in the tail -/
def toldAt (G : gG) (g : ClassId) (T : va_W) (Q : Nat → Nat) (P : Nat × (Nat → Nat) × MS) (LW : List (Nat × (Nat → Nat) × MS)) : Prop := P.1 = Q 14 ∧ lawAt G T P.1 P.2.1 P.2.2 ∧ (∀ (i : Nat) (x : Nat × (Nat → Nat) × MS), LW[i]? = some x → lawAt G T x.1 x.2.1 x.2.2) ∧ LW.length < 2 ^ 31 ∧ ∃ (j : Nat) (mc : Int32) (ta : Value), T[j]? = some (Q 13, .inr (0, [.int mc, ta, .int (nI LW.length)])) ∧ (LW = [] ∨ ∃ (j2 t cap : Nat) (f : Nat → Option Nat), ta = .ref t ∧ T[j2]? = some (t, .inl (g, cap, .inr (.inr (.inr (.inr f))))) ∧ LW.length ≤ cap ∧ cap < 2 ^ 31 ∧ ∀ (i : Nat) (x : Nat × (Nat → Nat) × MS), LW[i]? = some x → f i = some x.1)
theorem lnw_at {G : gG} {g : ClassId} {T : va_W} {Q : Nat → Nat} {P : Nat × (Nat → Nat) × MS} {LW : List (Nat × (Nat → Nat) × MS)} (h : toldAt G g T Q P LW) (u : MS) : lawAt G T (lnw P LW u).1 (lnw P LW u).2.1 (lnw P LW u).2.2 := by
  unfold lnw
  by_cases h1 : rg (u.2 0) 2088 3 - 1 < 0
  · rw [if_pos h1]; exact h.2.1
  · rw [if_neg h1]
    by_cases h2 : nI LW.length ≤ rg (u.2 0) 2088 3 - 1
    · rw [if_pos h2]; exact h.2.1
    · rw [if_neg h2, List.getD_eq_getElem?_getD]
      cases hx : LW[(rg (u.2 0) 2088 3 - 1).toNatClampNeg]? with
      | none => exact h.2.1
      | some x => exact h.2.2.1 _ x hx
def nLW (LN : MS → MS) : NG MS := fun u => some (LN u, u)
theorem nLW_eq {LN : MS → MS} {u v L : MS} (h : nLW LN u = some (L, v)) : LN u = L ∧ u = v := by cases h; exact ⟨rfl, rfl⟩
set_option maxHeartbeats 4000000 in
set_option maxRecDepth 100000 in
theorem n_X11_lawsNow (l : Launch) (G : gG) (Z : gC) (Q : Nat → Nat) (D : Nat × Nat) (T : va_W) (P : Nat × (Nat → Nat) × MS) (LW : List (Nat × (Nat → Nat) × MS)) (hTd : toldAt G (Z.1.1 1000) T Q P LW) (u : MS) (sz : Nat) : Met l yX11_lawsNow (Cond.code yX11_lawsNow cX11_lawsNow 2 (some (.object "JudoHall$Laws")) :: wK) { frames := 3, cells := 0, slots := 0, locals := 64 } (va_Pc [.ref (Q 0)] (cPM G Z Q D T u sz)) (va_Sr (fun _ => True) (fun _ => .ref (lnw P LW u).1)) 0 0 (fun _ => False) := by
  refine Met.ofW (cc := cX11_lawsNow) (maxL := 2) (ret := (some (.object "JudoHall$Laws"))) (by decide) rfl ?_
  intro p e s m args below meth c s₁ B hml hv
  obtain ⟨rfl, rfl, hP, hB, hD0, hE⟩ := hv
  have hr := B.returns
  have hlocks := B.notSynchronized
  have hts := atoms_spec (ws := Cond.code yX11_lawsNow cX11_lawsNow 2 (some (.object "JudoHall$Laws")) :: wK) B.pre
  have hD := hD0.self (sz := s.heap.size)
  have hA : ∀ q : Nat, s.heap.size ≤ q → va_A (cW G Q D T u) s.heap.size q := fun q h => Or.inr h
  generalize va_A (cW G Q D T u) s.heap.size = A at hD hA hE
  have hC : cX p c cX11_lawsNow 2 s m _ RX11 G Z A := ⟨B.exec, B.bytes, hml, findClass_of_methodNamed B.named, fun w h => hts w (List.mem_cons_of_mem _ h), hB, hE, hA⟩
  have hx := hC.1
  have hb := hC.2.1
  have hown := hC.2.2.2.1
  have htk := hC.2.2.2.2.1
  have hH : cH G Q D T A u s s.heap [] := ⟨hP, hD, va_S.rf⟩
  have hl := lv_entry ([.ref (Q 0)]) (n := 2) (Nat.le_of_ble_eq_true rfl)
  rw [lg_entry_eq]
  generalize (lg_sl ([.ref (Q 0)]) ++ List.replicate (2 - (lg_sl ([.ref (Q 0)])).length) Slot.unset).toArray = ls at hl ⊢
  have hl : lv_has ls 2 [(0, .ref (Q 0))] := hl
  refine lv_aload_n hx hb dX11_lawsNow_0 rfl (lv_at hl 0 rfl) ?_
  refine cg_X11_10 hC hH dX11_lawsNow_1 ?_
  refine lv_iconst (v := 3) hx hb dX11_lawsNow_4 (by decide) ?_
  refine bat (i := 1) (j := 11) hC hH rfl rfl (by decide) wka197 ⟨Nat.le_of_ble_eq_true rfl, Nat.le_of_ble_eq_true rfl⟩ hl.1 (Nat.le_of_ble_eq_true rfl) ⟨Nat.zero_le _, Nat.zero_le _⟩ dX11_lawsNow_5 ?_
  refine lv_iconst (v := 1) hx hb dX11_lawsNow_8 (by decide) ?_
  refine lv_isub hx hb dX11_lawsNow_9 ?_
  have hlw : ∀ (h1 : ¬ rg (u.2 0) 2088 3 - 1 < 0) (h2 : ¬ nI LW.length ≤ rg (u.2 0) 2088 3 - 1), lnw P LW u = LW.getD (rg (u.2 0) 2088 3 - 1).toNatClampNeg P := fun h1 h2 => by unfold lnw; rw [if_neg h1, if_neg h2]
  have hl0 : rg (u.2 0) 2088 3 - 1 < 0 → (lnw P LW u).1 = Q 14 := fun h1 => by unfold lnw; rw [if_pos h1]; exact hTd.1
  have hl2 : ¬ rg (u.2 0) 2088 3 - 1 < 0 → nI LW.length ≤ rg (u.2 0) 2088 3 - 1 → (lnw P LW u).1 = Q 14 := fun h1 h2 => by unfold lnw; rw [if_neg h1, if_pos h2]; exact hTd.1
  generalize rg (u.2 0) 2088 3 - 1 = x at hlw hl0 hl2 ⊢
  refine lv_istore_n (lv' := [(1, .int x), (0, .ref (Q 0))]) hx hb dX11_lawsNow_10 rfl hl (by decide) rfl (fun ls hl => ?_)
  refine lv_iload_n hx hb dX11_lawsNow_11 rfl (lv_at hl 0 rfl) ?_
  obtain ⟨-, -, hLW, hlen, j, mc, ta, hj, hor⟩ := hTd
  have hjW : (cW G Q D T u)[j + 70]? = some (Q 13, .inr (0, [.int mc, ta, .int (nI LW.length)])) := (cW_tail _).trans hj
  refine lv_if_lt (tgt := 40) hx hb dX11_lawsNow_12 (by decide) (fun c1 => ?_) (fun c1 => ?_)
  · refine lv_aload_n hx hb dX11_lawsNow_40 rfl (lv_at hl 1 rfl) ?_
    refine cg_X11_81 hC hH dX11_lawsNow_41 ?_
    exact W.aret (v := .ref (Q 14)) hx hb hr (Or.inl ⟨_, rfl⟩) (Or.inr ⟨_, rfl⟩) (fun t ht hW => ⟨0, by rw [hl0 c1], trivial, ht⟩) (fun q h => absurd h List.not_mem_nil) dX11_lawsNow_44
  · refine lv_iload_n hx hb dX11_lawsNow_15 rfl (lv_at hl 0 rfl) ?_
    refine lv_aload_n hx hb dX11_lawsNow_16 rfl (lv_at hl 1 rfl) ?_
    refine cg_X11_88 hC hH dX11_lawsNow_17 ?_
    have hP1 : va_P (gD G) vwCl [(Q 13, .inr (0, [.int mc, ta, .int (nI LW.length)]))] s.heap := fun k q hk => match k, hk with | 0, hk => by cases Option.some.inj hk; exact hP _ _ hjW
    refine vp_callSi (va_Run.run (va_runV (As := []) (rest := [.int x]) (C := RJx4a65c) ⟨hx, hb, hml, hown, htk⟩ (a_size l G Z.1 (Z.1.1 1000) A (Q 13) mc ta (nI LW.length)) (cwV 0 htk (gdV wka198 (wLK _ wl14) (wLK _ wl15) (wLK _ wl13) (fun w hw => ⟨wLK _ (alL _ _ _ _ wl16 w hw).1, (alL _ _ _ _ wl16 w hw).2⟩)) rfl rfl rfl kVJx4a65c_size_8abf5 ⟨Nat.le_of_ble_eq_true rfl, Nat.le_of_ble_eq_true rfl⟩) ⟨aP.blind, va_recv hB.1 hP1 (ci := 0) (q0 := 0) rfl rfl, fun U hU hW => ⟨rfl, by rw [hU]; exact hP1, hB.moved hW, by rw [hU]; exact hE.1.moved hW, hE.2.2.moved hW.alike⟩⟩ rfl rfl hl.1 rfl (lv_room (Nat.le_of_ble_eq_true rfl)) dX11_lawsNow_20 ⟨Nat.zero_le _, Nat.zero_le _⟩)) (fun y hy => ?_)
    rw [hy]
    refine lv_icmp_ge (tgt := 40) hx hb dX11_lawsNow_23 (by decide) (fun c2 => ?_) (fun c2 => ?_)
    · refine lv_aload_n hx hb dX11_lawsNow_40 rfl (lv_at hl 1 rfl) ?_
      refine cg_X11_81 hC hH dX11_lawsNow_41 ?_
      exact W.aret (v := .ref (Q 14)) hx hb hr (Or.inl ⟨_, rfl⟩) (Or.inr ⟨_, rfl⟩) (fun t ht hW => ⟨0, by rw [hl2 c1 c2], trivial, ht⟩) (fun q h => absurd h List.not_mem_nil) dX11_lawsNow_44
    · obtain ⟨i, hi31, hxi⟩ := nI_of c1
      have hclamp : x.toNatClampNeg = i := by rw [hxi]; exact nI_clamp hi31
      have hil : i < LW.length := Nat.not_le.mp (fun z => c2 (by rw [hxi]; exact nI_le z hi31))
      rcases hor with hnil | ⟨j2, t2, cap, f, hta, hj2, hcap, hcap31, hf⟩
      · rw [hnil] at hil; exact absurd hil (Nat.not_lt_zero _)
      · rw [hta] at hjW
        have hgi : LW[i]? = some LW[i] := List.getElem?_eq_getElem hil
        have hlaw : (lnw P LW u) = LW[i] := by rw [hlw c1 c2, hclamp, List.getD_eq_getElem?_getD, hgi]; rfl
        have hat := hLW i _ hgi
        have hjA : (cW G Q D T u)[j2 + 70]? = some (t2, .inl (Z.1.1 1000, cap, .inr (.inr (.inr (.inr f))))) := (cW_tail _).trans hj2
        have hP2 : va_P (gD G) vwCl [(Q 13, .inr (0, [.int mc, .ref t2, .int (nI LW.length)])), (t2, .inl (Z.1.1 1000, cap, .inr (.inr (.inr (.inr f)))))] s.heap := fun k q hk => match k, hk with | 0, hk => by cases Option.some.inj hk; exact hP _ _ hjW | 1, hk => by cases Option.some.inj hk; exact hP _ _ hjA
        refine lv_aload_n hx hb dX11_lawsNow_26 rfl (lv_at hl 1 rfl) ?_
        refine cg_X11_88 hC hH dX11_lawsNow_27 ?_
        refine lv_iload_n hx hb dX11_lawsNow_30 rfl (lv_at hl 0 rfl) ?_
        refine va_csr (va_Run.run (va_runV (As := [.int x]) (rest := []) (C := RJx4a65c) ⟨hx, hb, hml, hown, htk⟩ (a_get l G Z.1 (Z.1.1 1000) A (Q 13) t2 cap LW[i].1 mc (nI LW.length) x f c1 (Int32.not_le.mp c2) (by rw [hxi]; exact vp_in_nI (by omega) hcap31) (by rw [hclamp]; exact hf i _ hgi)) (cwV 1 htk (gdV wka206 (wLK _ wl17) (wLK _ wl18) (wLK _ wl13) (fun w hw => ⟨wLK _ (alL _ _ _ _ wl19 w hw).1, (alL _ _ _ _ wl19 w hw).2⟩)) rfl rfl rfl kVJx4a65c_get_915e3 ⟨Nat.le_of_ble_eq_true rfl, Nat.le_of_ble_eq_true rfl⟩) ⟨aP.blind, va_recv hB.1 hP2 (ci := 0) (q0 := 0) rfl rfl, fun U hU hW => ⟨rfl, by rw [hU]; exact hP2, hB.moved hW, by rw [hU]; exact hE.1.moved hW, hE.2.2.moved hW.alike⟩⟩ rfl rfl hl.1 rfl (lv_room (Nat.le_of_ble_eq_true rfl)) dX11_lawsNow_31 ⟨Nat.zero_le _, Nat.zero_le _⟩)) (fun _ _ => ?_)
        refine va_castE hx hb hown (htk _ wka124) (va_recv hB.1 hP rfl hat.he0) dX11_lawsNow_34 ?_
        refine lv_goto (tgt := 44) hx hb dX11_lawsNow_37 (by decide) ?_
        exact W.aret (v := .ref LW[i].1) hx hb hr (Or.inl ⟨_, rfl⟩) (Or.inr ⟨_, rfl⟩) (fun t ht hW => ⟨0, by rw [hlaw], trivial, ht⟩) (fun q h => absurd h List.not_mem_nil) dX11_lawsNow_44
section CLN
variable {p : Program} {l : Launch} {e : Env} {R : Room} {s : State} {m : MethodId} {args : Array Value} {below : List Frame} {meth : Method} {c : Code} {H : Heap} {locs : List Loc} {Q' : State → Prop} {cc : ByteArray} {nL pc cells slots : Nat} {ls : Array Slot} {rest : List Value} {G : gG} {Z : gC} {Q : Nat → Nat} {D : Nat × Nat} {T : va_W} {A : Nat → Prop} {u L : MS} {P : Nat × (Nat → Nat) × MS} {LW : List (Nat × (Nat → Nat) × MS)}
theorem ccLN {index : Nat} (hC : cX p c cc nL s m args RX11 G Z A) (hH : cH G Q D T A u s H locs) (hTd : toldAt G (Z.1.1 1000) T Q P LW) (hLe : (lnw P LW u).2.2 = L) (hlk : Cond.methodLink RX11 index yX11_lawsNow ∈ wK) (hR : 4 ≤ R.frames ∧ 85 ≤ R.locals) (hls : ls.size = nL) (hcat : (rest.map fun v => v.category).sum ≤ 8) (hf : cells ≤ R.cells ∧ slots ≤ R.slots) (hdg : decode cc pc = .ok (.invokevirtual index, 3)) (kk : ∀ (la : Nat) (lq : Nat → Nat), lawAt G T la lq L → W p l e R s m args below meth c H locs cells slots Q' (F0 m (pc + 3) ls (.ref la :: rest))) : W p l e R s m args below meth c H locs cells slots Q' (F0 m pc ls (.ref (Q 0) :: rest)) := by
  have hC2 := hC
  obtain ⟨hx, hb, hml, hown, hts, hB, hE, hA⟩ := hC
  refine va_csr (va_Run.run (va_runV (As := []) (rest := rest) (C := RX11) ⟨hx, hb, hml, hown, hts⟩ (n_X11_lawsNow l G Z Q D T P LW hTd u H.size) (cwV 0 hts (gdV hlk wka682 wka683 wka755 (cgood wkc_X11_lawsNow)) rfl rfl rfl kVX11_lawsNow hR) ⟨cPM.blind, va_recv hB.1 hH.1 (ci := 12) (q0 := 0) rfl rfl, fun U hU hW => ⟨rfl, cH.pre hC2 hH U hU hW⟩⟩ rfl rfl hls rfl (lv_room hcat) hdg hf)) (fun _ _ => ?_)
  exact kk _ _ (hLe ▸ lnw_at hTd u)
end CLN
def x_X11_signsOn (LN : MS → MS) (a0 : Int32) (a1 : Int32) : NG Int32 := (if 20 ≤ a1 then nli ((a1 - 10) - ((10 : Int32) * 1)) (fun x_2 => (if a1 < 10 then nrt (-1) else ncl (nLW LN) (fun L_4 => (if (L_4.1 2) ≤ x_2 then nrt (-1) else ncl (x_X3_signsOf a0 1 x_2) (fun r_10 => nrt r_10))))) else nli ((a1 - 10) - ((10 : Int32) * 0)) (fun x_13 => (if a1 < 10 then nrt (-1) else ncl (nLW LN) (fun L_15 => (if (L_15.1 2) ≤ x_13 then nrt (-1) else ncl (x_X3_signsOf a0 0 x_13) (fun r_21 => nrt r_21))))))
set_option maxHeartbeats 4000000 in
set_option maxRecDepth 100000 in
theorem n_X11_signsOn (l : Launch) (G : gG) (Z : gC) (Q : Nat → Nat) (D : Nat × Nat) (T : va_W) (P : Nat × (Nat → Nat) × MS) (LW : List (Nat × (Nat → Nat) × MS)) (hTd : toldAt G (Z.1.1 1000) T Q P LW) (u u1 : MS) (r : Int32) (a0 : Int32) (a1 : Int32) (sz : Nat) (hF : x_X11_signsOn (fun u => (lnw P LW u).2.2) a0 a1 u = some (r, u1)) : Met l yX11_signsOn (Cond.code yX11_signsOn cX11_signsOn 5 (some .int) :: wK) { frames := 4, cells := 0, slots := 0, locals := 85 } (va_Pc [.ref (Q 0), .int a0, .int a1] (cPM G Z Q D T u sz)) (cQi G Q T u1 r (va_A (cW G Q D T u) sz)) 0 0 (va_A (cW G Q D T u) sz) := by
  refine Met.ofW (cc := cX11_signsOn) (maxL := 5) (ret := (some .int)) (by decide) rfl ?_
  intro p e s m args below meth c s₁ B hml hv
  obtain ⟨rfl, rfl, hP, hB, hD0, hE⟩ := hv
  have hr := B.returns
  have hlocks := B.notSynchronized
  have hts := atoms_spec (ws := Cond.code yX11_signsOn cX11_signsOn 5 (some .int) :: wK) B.pre
  have hD := hD0.self (sz := s.heap.size)
  have hA : ∀ q : Nat, s.heap.size ≤ q → va_A (cW G Q D T u) s.heap.size q := fun q h => Or.inr h
  generalize va_A (cW G Q D T u) s.heap.size = A at hD hA hE ⊢
  have hC : cX p c cX11_signsOn 5 s m _ RX11 G Z A := ⟨B.exec, B.bytes, hml, findClass_of_methodNamed B.named, fun w h => hts w (List.mem_cons_of_mem _ h), hB, hE, hA⟩
  have hx := hC.1
  have hb := hC.2.1
  have hH : cH G Q D T A u s s.heap [] := ⟨hP, hD, va_S.rf⟩
  have hl := lv_entry ([.ref (Q 0), .int a0, .int a1]) (n := 5) (Nat.le_of_ble_eq_true rfl)
  rw [lg_entry_eq]
  generalize (lg_sl ([.ref (Q 0), .int a0, .int a1]) ++ List.replicate (5 - (lg_sl ([.ref (Q 0), .int a0, .int a1])).length) Slot.unset).toArray = ls at hl ⊢
  have hl : lv_has ls 5 [(0, .ref (Q 0)), (1, .int a0), (2, .int a1)] := hl
  unfold x_X11_signsOn at hF
  generalize hLN : (fun u => (lnw P LW u).2.2) = LN at hF
  refine lv_iload_n hx hb dX11_signsOn_0 rfl (lv_at hl 2 rfl) ?_
  refine lv_bipush (v := 20) hx hb dX11_signsOn_1 (by decide) ?_
  refine lv_icmp_ge (tgt := 10) hx hb dX11_signsOn_3 (by decide) (fun c_1 => ?_) (fun c_1 => ?_)
  · rw [if_pos c_1] at hF
    refine lv_iconst (v := 1) hx hb dX11_signsOn_10 (by decide) ?_
    refine lv_istore_n (lv' := [(3, .int 1), (0, .ref (Q 0)), (1, .int a0), (2, .int a1)]) hx hb dX11_signsOn_11 rfl hl (by decide) rfl (fun ls hl => ?_)
    refine lv_iload_n hx hb dX11_signsOn_12 rfl (lv_at hl 3 rfl) ?_
    refine lv_bipush (v := 10) hx hb dX11_signsOn_13 (by decide) ?_
    refine lv_isub hx hb dX11_signsOn_15 ?_
    refine lv_bipush (v := 10) hx hb dX11_signsOn_16 (by decide) ?_
    refine lv_iload_n hx hb dX11_signsOn_18 rfl (lv_at hl 0 rfl) ?_
    refine lv_imul hx hb dX11_signsOn_19 ?_
    refine lv_isub hx hb dX11_signsOn_20 ?_
    obtain ⟨x_2, e_3, hF⟩ := nli_some hF
    refine gx_ti e_3 ?_
    refine lv_istore (lv' := [(4, .int x_2), (3, .int 1), (0, .ref (Q 0)), (1, .int a0), (2, .int a1)]) hx hb dX11_signsOn_21 hl (by decide) rfl (fun ls hl => ?_)
    refine lv_iload_n hx hb dX11_signsOn_23 rfl (lv_at hl 4 rfl) ?_
    refine lv_bipush (v := 10) hx hb dX11_signsOn_24 (by decide) ?_
    refine lv_icmp_lt (tgt := 55) hx hb dX11_signsOn_26 (by decide) (fun c_4 => ?_) (fun c_4 => ?_)
    · rw [if_pos c_4] at hF
      refine lv_iconst (v := (-1)) hx hb dX11_signsOn_55 (by decide) ?_
      exact cr_i hC hH hr (nrt_eq hF) dX11_signsOn_56 hlocks
    · rw [if_neg c_4] at hF
      refine lv_iload hx hb dX11_signsOn_29 (lv_at hl 0 rfl) ?_
      refine lv_aload_n hx hb dX11_signsOn_31 rfl (lv_at hl 2 rfl) ?_
      obtain ⟨L_4, u_6, h_7, hF⟩ := ncl_some hF
      obtain ⟨e_8, rfl⟩ := nLW_eq h_7
      refine ccLN (rest := [.int x_2]) hC hH hTd ((congrFun hLN _).trans e_8) wka205 ⟨Nat.le_of_ble_eq_true rfl, Nat.le_of_ble_eq_true rfl⟩ hl.1 (Nat.le_of_ble_eq_true rfl) ⟨Nat.zero_le _, Nat.zero_le _⟩ dX11_signsOn_32 (fun la_4 lq_4 hL_4 => ?_)
      refine lg_X11_263 hC hH hL_4 dX11_signsOn_35 ?_
      refine lv_icmp_ge (tgt := 55) hx hb dX11_signsOn_38 (by decide) (fun c_9 => ?_) (fun c_9 => ?_)
      · rw [if_pos c_9] at hF
        refine lv_iconst (v := (-1)) hx hb dX11_signsOn_55 (by decide) ?_
        exact cr_i hC hH hr (nrt_eq hF) dX11_signsOn_56 hlocks
      · rw [if_neg c_9] at hF
        refine lv_aload_n hx hb dX11_signsOn_41 rfl (lv_at hl 2 rfl) ?_
        refine cg_X11_60 hC hH dX11_signsOn_42 ?_
        refine lv_iload_n hx hb dX11_signsOn_45 rfl (lv_at hl 3 rfl) ?_
        refine lv_iload_n hx hb dX11_signsOn_46 rfl (lv_at hl 1 rfl) ?_
        refine lv_iload hx hb dX11_signsOn_47 (lv_at hl 0 rfl) ?_
        obtain ⟨r_10, u_11, h_12, hF⟩ := ncl_some hF
        refine ccV_i (q0 := 7) (As := [.int a0, .int 1, .int x_2]) (rest := []) hC hH (n_X3_signsOf l G Z Q _ T u u_11 r_10 a0 1 x_2 _ h_12) rfl rfl ⟨wkc_X3_signsOf, wka323, wka481, wka482, wka747⟩ kVX3_signsOf ⟨Nat.le_of_ble_eq_true rfl, Nat.le_of_ble_eq_true rfl⟩ rfl hl.1 rfl (Nat.le_of_ble_eq_true rfl) dX11_signsOn_49 (fun D H locs hH => ?_)
        refine lv_goto (tgt := 56) hx hb dX11_signsOn_52 (by decide) ?_
        exact cr_i hC hH hr (nrt_eq hF) dX11_signsOn_56 hlocks
  · rw [if_neg c_1] at hF
    refine lv_iconst (v := 0) hx hb dX11_signsOn_6 (by decide) ?_
    refine lv_goto (tgt := 11) hx hb dX11_signsOn_7 (by decide) ?_
    refine lv_istore_n (lv' := [(3, .int 0), (0, .ref (Q 0)), (1, .int a0), (2, .int a1)]) hx hb dX11_signsOn_11 rfl hl (by decide) rfl (fun ls hl => ?_)
    refine lv_iload_n hx hb dX11_signsOn_12 rfl (lv_at hl 3 rfl) ?_
    refine lv_bipush (v := 10) hx hb dX11_signsOn_13 (by decide) ?_
    refine lv_isub hx hb dX11_signsOn_15 ?_
    refine lv_bipush (v := 10) hx hb dX11_signsOn_16 (by decide) ?_
    refine lv_iload_n hx hb dX11_signsOn_18 rfl (lv_at hl 0 rfl) ?_
    refine lv_imul hx hb dX11_signsOn_19 ?_
    refine lv_isub hx hb dX11_signsOn_20 ?_
    obtain ⟨x_13, e_14, hF⟩ := nli_some hF
    refine gx_ti e_14 ?_
    refine lv_istore (lv' := [(4, .int x_13), (3, .int 0), (0, .ref (Q 0)), (1, .int a0), (2, .int a1)]) hx hb dX11_signsOn_21 hl (by decide) rfl (fun ls hl => ?_)
    refine lv_iload_n hx hb dX11_signsOn_23 rfl (lv_at hl 4 rfl) ?_
    refine lv_bipush (v := 10) hx hb dX11_signsOn_24 (by decide) ?_
    refine lv_icmp_lt (tgt := 55) hx hb dX11_signsOn_26 (by decide) (fun c_15 => ?_) (fun c_15 => ?_)
    · rw [if_pos c_15] at hF
      refine lv_iconst (v := (-1)) hx hb dX11_signsOn_55 (by decide) ?_
      exact cr_i hC hH hr (nrt_eq hF) dX11_signsOn_56 hlocks
    · rw [if_neg c_15] at hF
      refine lv_iload hx hb dX11_signsOn_29 (lv_at hl 0 rfl) ?_
      refine lv_aload_n hx hb dX11_signsOn_31 rfl (lv_at hl 2 rfl) ?_
      obtain ⟨L_15, u_17, h_18, hF⟩ := ncl_some hF
      obtain ⟨e_19, rfl⟩ := nLW_eq h_18
      refine ccLN (rest := [.int x_13]) hC hH hTd ((congrFun hLN _).trans e_19) wka205 ⟨Nat.le_of_ble_eq_true rfl, Nat.le_of_ble_eq_true rfl⟩ hl.1 (Nat.le_of_ble_eq_true rfl) ⟨Nat.zero_le _, Nat.zero_le _⟩ dX11_signsOn_32 (fun la_15 lq_15 hL_15 => ?_)
      refine lg_X11_263 hC hH hL_15 dX11_signsOn_35 ?_
      refine lv_icmp_ge (tgt := 55) hx hb dX11_signsOn_38 (by decide) (fun c_20 => ?_) (fun c_20 => ?_)
      · rw [if_pos c_20] at hF
        refine lv_iconst (v := (-1)) hx hb dX11_signsOn_55 (by decide) ?_
        exact cr_i hC hH hr (nrt_eq hF) dX11_signsOn_56 hlocks
      · rw [if_neg c_20] at hF
        refine lv_aload_n hx hb dX11_signsOn_41 rfl (lv_at hl 2 rfl) ?_
        refine cg_X11_60 hC hH dX11_signsOn_42 ?_
        refine lv_iload_n hx hb dX11_signsOn_45 rfl (lv_at hl 3 rfl) ?_
        refine lv_iload_n hx hb dX11_signsOn_46 rfl (lv_at hl 1 rfl) ?_
        refine lv_iload hx hb dX11_signsOn_47 (lv_at hl 0 rfl) ?_
        obtain ⟨r_21, u_22, h_23, hF⟩ := ncl_some hF
        refine ccV_i (q0 := 7) (As := [.int a0, .int 0, .int x_13]) (rest := []) hC hH (n_X3_signsOf l G Z Q _ T u u_22 r_21 a0 0 x_13 _ h_23) rfl rfl ⟨wkc_X3_signsOf, wka323, wka481, wka482, wka747⟩ kVX3_signsOf ⟨Nat.le_of_ble_eq_true rfl, Nat.le_of_ble_eq_true rfl⟩ rfl hl.1 rfl (Nat.le_of_ble_eq_true rfl) dX11_signsOn_49 (fun D H locs hH => ?_)
        refine lv_goto (tgt := 56) hx hb dX11_signsOn_52 (by decide) ?_
        exact cr_i hC hH hr (nrt_eq hF) dX11_signsOn_56 hlocks
def x_X11_mat (LN : MS → MS) (a0 : Int32) (a1 : Int32) : NG Int32 := ncl (x_X11_isMat a0) (fun r_1 => (if r_1 = 0 then nrt (-1) else ncl (x_X3_isFree a0) (fun r_5 => (if r_5 = 0 then (if a1 = 0 then ncl (x_X1_ofMat a0 0) (fun r_10 => ncl (nGT 0 2088 r_10) (fun x_13 => nrt x_13)) else if a1 = 1 then ncl (x_X1_ofMat a0 1) (fun r_18 => ncl (nGT 0 2088 r_18) (fun x_21 => nrt x_21)) else if a1 = 2 then ncl (x_X1_ofMat a0 2) (fun r_26 => ncl (nGT 0 2088 r_26) (fun x_29 => nrt x_29)) else if a1 = 3 then ncl (x_X1_ofMat a0 3) (fun r_34 => ncl (nGT 0 2088 r_34) (fun x_37 => nrt x_37)) else if a1 = 4 then ncl (x_X1_ofMat a0 4) (fun r_42 => ncl (nGT 0 2088 r_42) (fun x_45 => nrt x_45)) else ncl (x_X11_signsOn LN a0 a1) (fun r_49 => nrt r_49)) else nrt (-1)))))
set_option maxHeartbeats 4000000 in
set_option maxRecDepth 100000 in
theorem n_X11_mat (l : Launch) (G : gG) (Z : gC) (Q : Nat → Nat) (D : Nat × Nat) (T : va_W) (P : Nat × (Nat → Nat) × MS) (LW : List (Nat × (Nat → Nat) × MS)) (hTd : toldAt G (Z.1.1 1000) T Q P LW) (u u1 : MS) (r : Int32) (a0 : Int32) (a1 : Int32) (sz : Nat) (hF : x_X11_mat (fun u => (lnw P LW u).2.2) a0 a1 u = some (r, u1)) : Met l yX11_mat (Cond.code yX11_mat cX11_mat 3 (some .int) :: wK) { frames := 5, cells := 0, slots := 0, locals := 109 } (va_Pc [.ref (Q 0), .int a0, .int a1] (cPM G Z Q D T u sz)) (cQi G Q T u1 r (va_A (cW G Q D T u) sz)) 0 0 (va_A (cW G Q D T u) sz) := by
  refine Met.ofW (cc := cX11_mat) (maxL := 3) (ret := (some .int)) (by decide) rfl ?_
  intro p e s m args below meth c s₁ B hml hv
  obtain ⟨rfl, rfl, hP, hB, hD0, hE⟩ := hv
  have hr := B.returns
  have hlocks := B.notSynchronized
  have hts := atoms_spec (ws := Cond.code yX11_mat cX11_mat 3 (some .int) :: wK) B.pre
  have hD := hD0.self (sz := s.heap.size)
  have hA : ∀ q : Nat, s.heap.size ≤ q → va_A (cW G Q D T u) s.heap.size q := fun q h => Or.inr h
  generalize va_A (cW G Q D T u) s.heap.size = A at hD hA hE ⊢
  have hC : cX p c cX11_mat 3 s m _ RX11 G Z A := ⟨B.exec, B.bytes, hml, findClass_of_methodNamed B.named, fun w h => hts w (List.mem_cons_of_mem _ h), hB, hE, hA⟩
  have hx := hC.1
  have hb := hC.2.1
  have hH : cH G Q D T A u s s.heap [] := ⟨hP, hD, va_S.rf⟩
  have hl := lv_entry ([.ref (Q 0), .int a0, .int a1]) (n := 3) (Nat.le_of_ble_eq_true rfl)
  rw [lg_entry_eq]
  generalize (lg_sl ([.ref (Q 0), .int a0, .int a1]) ++ List.replicate (3 - (lg_sl ([.ref (Q 0), .int a0, .int a1])).length) Slot.unset).toArray = ls at hl ⊢
  have hl : lv_has ls 3 [(0, .ref (Q 0)), (1, .int a0), (2, .int a1)] := hl
  unfold x_X11_mat at hF
  generalize hLN : (fun u => (lnw P LW u).2.2) = LN at hF
  refine lv_iload_n hx hb dX11_mat_0 rfl (lv_at hl 1 rfl) ?_
  obtain ⟨r_1, u_2, h_3, hF⟩ := ncl_some hF
  refine ccS_i (As := [.int a0]) (rest := []) hC hH (n_X11_isMat l G Z Q _ T u u_2 r_1 a0 _ h_3) ⟨wkc_X11_isMat, wka286, wka729, wka755⟩ kSX11_isMat ⟨Nat.le_of_ble_eq_true rfl, Nat.le_of_ble_eq_true rfl⟩ rfl hl.1 rfl (Nat.le_of_ble_eq_true rfl) dX11_mat_1 (fun D H locs hH => ?_)
  refine lv_if_eq (tgt := 18) hx hb dX11_mat_4 (by decide) (fun c_4 => ?_) (fun c_4 => ?_)
  · rw [if_pos c_4] at hF
    refine lv_iconst (v := (-1)) hx hb dX11_mat_18 (by decide) ?_
    exact cr_i hC hH hr (nrt_eq hF) dX11_mat_19 hlocks
  · rw [if_neg c_4] at hF
    refine lv_aload_n hx hb dX11_mat_7 rfl (lv_at hl 0 rfl) ?_
    refine cg_X11_60 hC hH dX11_mat_8 ?_
    refine lv_iload_n hx hb dX11_mat_11 rfl (lv_at hl 1 rfl) ?_
    obtain ⟨r_5, u_6, h_7, hF⟩ := ncl_some hF
    refine ccV_i (q0 := 7) (As := [.int a0]) (rest := []) hC hH (n_X3_isFree l G Z Q _ T u_2 u_6 r_5 a0 _ h_7) rfl rfl ⟨wkc_X3_isFree, wka287, wka473, wka474, wka747⟩ kVX3_isFree ⟨Nat.le_of_ble_eq_true rfl, Nat.le_of_ble_eq_true rfl⟩ rfl hl.1 rfl (Nat.le_of_ble_eq_true rfl) dX11_mat_12 (fun D H locs hH => ?_)
    refine lv_if_eq (tgt := 20) hx hb dX11_mat_15 (by decide) (fun c_8 => ?_) (fun c_8 => ?_)
    · rw [if_pos c_8] at hF
      refine lv_iload_n hx hb dX11_mat_20 rfl (lv_at hl 2 rfl) ?_
      by_cases c_9 : a1 = 0
      · rw [if_pos c_9] at hF
        refine gx_ti (y := 0) c_9 ?_
        refine lv_tableIn (off := 35) (tgt := 56) hx hb dX11_mat_21 (by decide) (by decide) rfl (by decide) ?_
        refine lv_aload_n hx hb dX11_mat_56 rfl (lv_at hl 0 rfl) ?_
        refine cg_X11_10 hC hH dX11_mat_57 ?_
        refine lv_iload_n hx hb dX11_mat_60 rfl (lv_at hl 1 rfl) ?_
        refine lv_iconst (v := 0) hx hb dX11_mat_61 (by decide) ?_
        obtain ⟨r_10, u_11, h_12, hF⟩ := ncl_some hF
        refine ccS_i (As := [.int a0, .int 0]) (rest := [.ref (Q 1)]) hC hH (n_X1_ofMat l G Z Q _ T u_6 u_11 r_10 a0 0 _ h_12) ⟨wkc_X1_ofMat, wka318, wka438, wka745⟩ kSX1_ofMat ⟨Nat.le_of_ble_eq_true rfl, Nat.le_of_ble_eq_true rfl⟩ rfl hl.1 rfl (Nat.le_of_ble_eq_true rfl) dX11_mat_62 (fun D H locs hH => ?_)
        refine bat (i := 1) (j := 11) hC hH rfl rfl (by decide) wka197 ⟨Nat.le_of_ble_eq_true rfl, Nat.le_of_ble_eq_true rfl⟩ hl.1 (Nat.le_of_ble_eq_true rfl) ⟨Nat.zero_le _, Nat.zero_le _⟩ dX11_mat_65 ?_
        obtain ⟨x_13, u_14, h_15, hF⟩ := ncl_some hF
        obtain ⟨e_16, rfl⟩ := nGT_eq h_15
        refine gx_ti e_16 ?_
        exact cr_i hC hH hr (nrt_eq hF) dX11_mat_68 hlocks
      rw [if_neg c_9] at hF
      by_cases c_17 : a1 = 1
      · rw [if_pos c_17] at hF
        refine gx_ti (y := 1) c_17 ?_
        refine lv_tableIn (off := 48) (tgt := 69) hx hb dX11_mat_21 (by decide) (by decide) rfl (by decide) ?_
        refine lv_aload_n hx hb dX11_mat_69 rfl (lv_at hl 0 rfl) ?_
        refine cg_X11_10 hC hH dX11_mat_70 ?_
        refine lv_iload_n hx hb dX11_mat_73 rfl (lv_at hl 1 rfl) ?_
        refine lv_iconst (v := 1) hx hb dX11_mat_74 (by decide) ?_
        obtain ⟨r_18, u_19, h_20, hF⟩ := ncl_some hF
        refine ccS_i (As := [.int a0, .int 1]) (rest := [.ref (Q 1)]) hC hH (n_X1_ofMat l G Z Q _ T u_6 u_19 r_18 a0 1 _ h_20) ⟨wkc_X1_ofMat, wka318, wka438, wka745⟩ kSX1_ofMat ⟨Nat.le_of_ble_eq_true rfl, Nat.le_of_ble_eq_true rfl⟩ rfl hl.1 rfl (Nat.le_of_ble_eq_true rfl) dX11_mat_75 (fun D H locs hH => ?_)
        refine bat (i := 1) (j := 11) hC hH rfl rfl (by decide) wka197 ⟨Nat.le_of_ble_eq_true rfl, Nat.le_of_ble_eq_true rfl⟩ hl.1 (Nat.le_of_ble_eq_true rfl) ⟨Nat.zero_le _, Nat.zero_le _⟩ dX11_mat_78 ?_
        obtain ⟨x_21, u_22, h_23, hF⟩ := ncl_some hF
        obtain ⟨e_24, rfl⟩ := nGT_eq h_23
        refine gx_ti e_24 ?_
        exact cr_i hC hH hr (nrt_eq hF) dX11_mat_81 hlocks
      rw [if_neg c_17] at hF
      by_cases c_25 : a1 = 2
      · rw [if_pos c_25] at hF
        refine gx_ti (y := 2) c_25 ?_
        refine lv_tableIn (off := 61) (tgt := 82) hx hb dX11_mat_21 (by decide) (by decide) rfl (by decide) ?_
        refine lv_aload_n hx hb dX11_mat_82 rfl (lv_at hl 0 rfl) ?_
        refine cg_X11_10 hC hH dX11_mat_83 ?_
        refine lv_iload_n hx hb dX11_mat_86 rfl (lv_at hl 1 rfl) ?_
        refine lv_iconst (v := 2) hx hb dX11_mat_87 (by decide) ?_
        obtain ⟨r_26, u_27, h_28, hF⟩ := ncl_some hF
        refine ccS_i (As := [.int a0, .int 2]) (rest := [.ref (Q 1)]) hC hH (n_X1_ofMat l G Z Q _ T u_6 u_27 r_26 a0 2 _ h_28) ⟨wkc_X1_ofMat, wka318, wka438, wka745⟩ kSX1_ofMat ⟨Nat.le_of_ble_eq_true rfl, Nat.le_of_ble_eq_true rfl⟩ rfl hl.1 rfl (Nat.le_of_ble_eq_true rfl) dX11_mat_88 (fun D H locs hH => ?_)
        refine bat (i := 1) (j := 11) hC hH rfl rfl (by decide) wka197 ⟨Nat.le_of_ble_eq_true rfl, Nat.le_of_ble_eq_true rfl⟩ hl.1 (Nat.le_of_ble_eq_true rfl) ⟨Nat.zero_le _, Nat.zero_le _⟩ dX11_mat_91 ?_
        obtain ⟨x_29, u_30, h_31, hF⟩ := ncl_some hF
        obtain ⟨e_32, rfl⟩ := nGT_eq h_31
        refine gx_ti e_32 ?_
        exact cr_i hC hH hr (nrt_eq hF) dX11_mat_94 hlocks
      rw [if_neg c_25] at hF
      by_cases c_33 : a1 = 3
      · rw [if_pos c_33] at hF
        refine gx_ti (y := 3) c_33 ?_
        refine lv_tableIn (off := 74) (tgt := 95) hx hb dX11_mat_21 (by decide) (by decide) rfl (by decide) ?_
        refine lv_aload_n hx hb dX11_mat_95 rfl (lv_at hl 0 rfl) ?_
        refine cg_X11_10 hC hH dX11_mat_96 ?_
        refine lv_iload_n hx hb dX11_mat_99 rfl (lv_at hl 1 rfl) ?_
        refine lv_iconst (v := 3) hx hb dX11_mat_100 (by decide) ?_
        obtain ⟨r_34, u_35, h_36, hF⟩ := ncl_some hF
        refine ccS_i (As := [.int a0, .int 3]) (rest := [.ref (Q 1)]) hC hH (n_X1_ofMat l G Z Q _ T u_6 u_35 r_34 a0 3 _ h_36) ⟨wkc_X1_ofMat, wka318, wka438, wka745⟩ kSX1_ofMat ⟨Nat.le_of_ble_eq_true rfl, Nat.le_of_ble_eq_true rfl⟩ rfl hl.1 rfl (Nat.le_of_ble_eq_true rfl) dX11_mat_101 (fun D H locs hH => ?_)
        refine bat (i := 1) (j := 11) hC hH rfl rfl (by decide) wka197 ⟨Nat.le_of_ble_eq_true rfl, Nat.le_of_ble_eq_true rfl⟩ hl.1 (Nat.le_of_ble_eq_true rfl) ⟨Nat.zero_le _, Nat.zero_le _⟩ dX11_mat_104 ?_
        obtain ⟨x_37, u_38, h_39, hF⟩ := ncl_some hF
        obtain ⟨e_40, rfl⟩ := nGT_eq h_39
        refine gx_ti e_40 ?_
        exact cr_i hC hH hr (nrt_eq hF) dX11_mat_107 hlocks
      rw [if_neg c_33] at hF
      by_cases c_41 : a1 = 4
      · rw [if_pos c_41] at hF
        refine gx_ti (y := 4) c_41 ?_
        refine lv_tableIn (off := 87) (tgt := 108) hx hb dX11_mat_21 (by decide) (by decide) rfl (by decide) ?_
        refine lv_aload_n hx hb dX11_mat_108 rfl (lv_at hl 0 rfl) ?_
        refine cg_X11_10 hC hH dX11_mat_109 ?_
        refine lv_iload_n hx hb dX11_mat_112 rfl (lv_at hl 1 rfl) ?_
        refine lv_iconst (v := 4) hx hb dX11_mat_113 (by decide) ?_
        obtain ⟨r_42, u_43, h_44, hF⟩ := ncl_some hF
        refine ccS_i (As := [.int a0, .int 4]) (rest := [.ref (Q 1)]) hC hH (n_X1_ofMat l G Z Q _ T u_6 u_43 r_42 a0 4 _ h_44) ⟨wkc_X1_ofMat, wka318, wka438, wka745⟩ kSX1_ofMat ⟨Nat.le_of_ble_eq_true rfl, Nat.le_of_ble_eq_true rfl⟩ rfl hl.1 rfl (Nat.le_of_ble_eq_true rfl) dX11_mat_114 (fun D H locs hH => ?_)
        refine bat (i := 1) (j := 11) hC hH rfl rfl (by decide) wka197 ⟨Nat.le_of_ble_eq_true rfl, Nat.le_of_ble_eq_true rfl⟩ hl.1 (Nat.le_of_ble_eq_true rfl) ⟨Nat.zero_le _, Nat.zero_le _⟩ dX11_mat_117 ?_
        obtain ⟨x_45, u_46, h_47, hF⟩ := ncl_some hF
        obtain ⟨e_48, rfl⟩ := nGT_eq h_47
        refine gx_ti e_48 ?_
        exact cr_i hC hH hr (nrt_eq hF) dX11_mat_120 hlocks
      rw [if_neg c_41] at hF
      refine lv_tableOut (tgt := 121) hx hb dX11_mat_21 (by have q0 := gl_ne c_9 (a := 0) (by decide); have q1 := gl_ne c_17 (a := 1) (by decide); have q2 := gl_ne c_25 (a := 2) (by decide); have q3 := gl_ne c_33 (a := 3) (by decide); have q4 := gl_ne c_41 (a := 4) (by decide); omega) (by decide) ?_
      refine lv_aload_n hx hb dX11_mat_121 rfl (lv_at hl 0 rfl) ?_
      refine lv_iload_n hx hb dX11_mat_122 rfl (lv_at hl 1 rfl) ?_
      refine lv_iload_n hx hb dX11_mat_123 rfl (lv_at hl 2 rfl) ?_
      obtain ⟨r_49, u_50, h_51, hF⟩ := ncl_some hF
      refine ccV_i (q0 := 0) (As := [.int a0, .int a1]) (rest := []) hC hH (n_X11_signsOn l G Z Q _ T P LW hTd u_6 u_50 r_49 a0 a1 _ (by rw [hLN]; exact h_51)) rfl rfl ⟨wkc_X11_signsOn, wka322, wka714, wka715, wka755⟩ kVX11_signsOn ⟨Nat.le_of_ble_eq_true rfl, Nat.le_of_ble_eq_true rfl⟩ rfl hl.1 rfl (Nat.le_of_ble_eq_true rfl) dX11_mat_124 (fun D H locs hH => ?_)
      exact cr_i hC hH hr (nrt_eq hF) dX11_mat_127 hlocks
    · rw [if_neg c_8] at hF
      refine lv_iconst (v := (-1)) hx hb dX11_mat_18 (by decide) ?_
      exact cr_i hC hH hr (nrt_eq hF) dX11_mat_19 hlocks
def x_X11_count (LN : MS → MS) (a0 : Int32) : NG Int32 := (if a0 = 0 then ncl (x_X8_people) (fun r_2 => nrt r_2) else if a0 = 1 then ncl (nGT 0 2088 0) (fun x_6 => nrt x_6) else if a0 = 2 then ncl (nGT 0 2088 1) (fun x_11 => nrt x_11) else if a0 = 3 then ncl (nLW LN) (fun L_15 => nrt (L_15.1 2)) else if a0 = 4 then ncl (nLW LN) (fun L_20 => nrt (L_20.1 3)) else if a0 = 5 then ncl (nLW LN) (fun L_25 => nrt (L_25.1 4)) else if a0 = 6 then ncl (x_X3_openFights) (fun r_31 => nrt r_31) else if a0 = 7 then ncl (nRF 1) (fun x_35 => nrt x_35) else if a0 = 8 then ncl (nRF 2) (fun x_40 => nrt x_40) else nrt (-1))
set_option maxHeartbeats 4000000 in
set_option maxRecDepth 100000 in
theorem n_X11_count (l : Launch) (G : gG) (Z : gC) (Q : Nat → Nat) (D : Nat × Nat) (T : va_W) (P : Nat × (Nat → Nat) × MS) (LW : List (Nat × (Nat → Nat) × MS)) (hTd : toldAt G (Z.1.1 1000) T Q P LW) (u u1 : MS) (r : Int32) (a0 : Int32) (sz : Nat) (hF : x_X11_count (fun u => (lnw P LW u).2.2) a0 u = some (r, u1)) : Met l yX11_count (Cond.code yX11_count cX11_count 2 (some .int) :: wK) { frames := 4, cells := 0, slots := 0, locals := 87 } (va_Pc [.ref (Q 0), .int a0] (cPM G Z Q D T u sz)) (cQi G Q T u1 r (va_A (cW G Q D T u) sz)) 0 0 (va_A (cW G Q D T u) sz) := by
  refine Met.ofW (cc := cX11_count) (maxL := 2) (ret := (some .int)) (by decide) rfl ?_
  intro p e s m args below meth c s₁ B hml hv
  obtain ⟨rfl, rfl, hP, hB, hD0, hE⟩ := hv
  have hr := B.returns
  have hlocks := B.notSynchronized
  have hts := atoms_spec (ws := Cond.code yX11_count cX11_count 2 (some .int) :: wK) B.pre
  have hD := hD0.self (sz := s.heap.size)
  have hA : ∀ q : Nat, s.heap.size ≤ q → va_A (cW G Q D T u) s.heap.size q := fun q h => Or.inr h
  generalize va_A (cW G Q D T u) s.heap.size = A at hD hA hE ⊢
  have hC : cX p c cX11_count 2 s m _ RX11 G Z A := ⟨B.exec, B.bytes, hml, findClass_of_methodNamed B.named, fun w h => hts w (List.mem_cons_of_mem _ h), hB, hE, hA⟩
  have hx := hC.1
  have hb := hC.2.1
  have hH : cH G Q D T A u s s.heap [] := ⟨hP, hD, va_S.rf⟩
  have hl := lv_entry ([.ref (Q 0), .int a0]) (n := 2) (Nat.le_of_ble_eq_true rfl)
  rw [lg_entry_eq]
  generalize (lg_sl ([.ref (Q 0), .int a0]) ++ List.replicate (2 - (lg_sl ([.ref (Q 0), .int a0])).length) Slot.unset).toArray = ls at hl ⊢
  have hl : lv_has ls 2 [(0, .ref (Q 0)), (1, .int a0)] := hl
  unfold x_X11_count at hF
  generalize hLN : (fun u => (lnw P LW u).2.2) = LN at hF
  refine lv_iload_n hx hb dX11_count_0 rfl (lv_at hl 1 rfl) ?_
  by_cases c_1 : a0 = 0
  · rw [if_pos c_1] at hF
    refine gx_ti (y := 0) c_1 ?_
    refine lv_tableIn (off := 51) (tgt := 52) hx hb dX11_count_1 (by decide) (by decide) rfl (by decide) ?_
    refine lv_aload_n hx hb dX11_count_52 rfl (lv_at hl 0 rfl) ?_
    refine cg_X11_37 hC hH dX11_count_53 ?_
    obtain ⟨r_2, u_3, h_4, hF⟩ := ncl_some hF
    refine ccV_i (q0 := 4) (As := []) (rest := []) hC hH (n_X8_people l G Z Q _ T u u_3 r_2 _ h_4) rfl rfl ⟨wkc_X8_people, wka220, wka628, wka629, wka752⟩ kVX8_people ⟨Nat.le_of_ble_eq_true rfl, Nat.le_of_ble_eq_true rfl⟩ rfl hl.1 rfl (Nat.le_of_ble_eq_true rfl) dX11_count_56 (fun D H locs hH => ?_)
    exact cr_i hC hH hr (nrt_eq hF) dX11_count_59 hlocks
  rw [if_neg c_1] at hF
  by_cases c_5 : a0 = 1
  · rw [if_pos c_5] at hF
    refine gx_ti (y := 1) c_5 ?_
    refine lv_tableIn (off := 59) (tgt := 60) hx hb dX11_count_1 (by decide) (by decide) rfl (by decide) ?_
    refine lv_aload_n hx hb dX11_count_60 rfl (lv_at hl 0 rfl) ?_
    refine cg_X11_10 hC hH dX11_count_61 ?_
    refine lv_iconst (v := 0) hx hb dX11_count_64 (by decide) ?_
    refine bat (i := 1) (j := 11) hC hH rfl rfl (by decide) wka197 ⟨Nat.le_of_ble_eq_true rfl, Nat.le_of_ble_eq_true rfl⟩ hl.1 (Nat.le_of_ble_eq_true rfl) ⟨Nat.zero_le _, Nat.zero_le _⟩ dX11_count_65 ?_
    obtain ⟨x_6, u_7, h_8, hF⟩ := ncl_some hF
    obtain ⟨e_9, rfl⟩ := nGT_eq h_8
    refine gx_ti e_9 ?_
    exact cr_i hC hH hr (nrt_eq hF) dX11_count_68 hlocks
  rw [if_neg c_5] at hF
  by_cases c_10 : a0 = 2
  · rw [if_pos c_10] at hF
    refine gx_ti (y := 2) c_10 ?_
    refine lv_tableIn (off := 68) (tgt := 69) hx hb dX11_count_1 (by decide) (by decide) rfl (by decide) ?_
    refine lv_aload_n hx hb dX11_count_69 rfl (lv_at hl 0 rfl) ?_
    refine cg_X11_10 hC hH dX11_count_70 ?_
    refine lv_iconst (v := 1) hx hb dX11_count_73 (by decide) ?_
    refine bat (i := 1) (j := 11) hC hH rfl rfl (by decide) wka197 ⟨Nat.le_of_ble_eq_true rfl, Nat.le_of_ble_eq_true rfl⟩ hl.1 (Nat.le_of_ble_eq_true rfl) ⟨Nat.zero_le _, Nat.zero_le _⟩ dX11_count_74 ?_
    obtain ⟨x_11, u_12, h_13, hF⟩ := ncl_some hF
    obtain ⟨e_14, rfl⟩ := nGT_eq h_13
    refine gx_ti e_14 ?_
    exact cr_i hC hH hr (nrt_eq hF) dX11_count_77 hlocks
  rw [if_neg c_10] at hF
  by_cases c_15 : a0 = 3
  · rw [if_pos c_15] at hF
    refine gx_ti (y := 3) c_15 ?_
    refine lv_tableIn (off := 77) (tgt := 78) hx hb dX11_count_1 (by decide) (by decide) rfl (by decide) ?_
    refine lv_aload_n hx hb dX11_count_78 rfl (lv_at hl 0 rfl) ?_
    obtain ⟨L_15, u_17, h_18, hF⟩ := ncl_some hF
    obtain ⟨e_19, rfl⟩ := nLW_eq h_18
    refine ccLN (rest := []) hC hH hTd ((congrFun hLN _).trans e_19) wka205 ⟨Nat.le_of_ble_eq_true rfl, Nat.le_of_ble_eq_true rfl⟩ hl.1 (Nat.le_of_ble_eq_true rfl) ⟨Nat.zero_le _, Nat.zero_le _⟩ dX11_count_79 (fun la_15 lq_15 hL_15 => ?_)
    refine lg_X11_263 hC hH hL_15 dX11_count_82 ?_
    exact cr_i hC hH hr (nrt_eq hF) dX11_count_85 hlocks
  rw [if_neg c_15] at hF
  by_cases c_20 : a0 = 4
  · rw [if_pos c_20] at hF
    refine gx_ti (y := 4) c_20 ?_
    refine lv_tableIn (off := 85) (tgt := 86) hx hb dX11_count_1 (by decide) (by decide) rfl (by decide) ?_
    refine lv_aload_n hx hb dX11_count_86 rfl (lv_at hl 0 rfl) ?_
    obtain ⟨L_20, u_22, h_23, hF⟩ := ncl_some hF
    obtain ⟨e_24, rfl⟩ := nLW_eq h_23
    refine ccLN (rest := []) hC hH hTd ((congrFun hLN _).trans e_24) wka205 ⟨Nat.le_of_ble_eq_true rfl, Nat.le_of_ble_eq_true rfl⟩ hl.1 (Nat.le_of_ble_eq_true rfl) ⟨Nat.zero_le _, Nat.zero_le _⟩ dX11_count_87 (fun la_20 lq_20 hL_20 => ?_)
    refine lg_X11_125 hC hH hL_20 dX11_count_90 ?_
    exact cr_i hC hH hr (nrt_eq hF) dX11_count_93 hlocks
  rw [if_neg c_20] at hF
  by_cases c_25 : a0 = 5
  · rw [if_pos c_25] at hF
    refine gx_ti (y := 5) c_25 ?_
    refine lv_tableIn (off := 93) (tgt := 94) hx hb dX11_count_1 (by decide) (by decide) rfl (by decide) ?_
    refine lv_aload_n hx hb dX11_count_94 rfl (lv_at hl 0 rfl) ?_
    obtain ⟨L_25, u_27, h_28, hF⟩ := ncl_some hF
    obtain ⟨e_29, rfl⟩ := nLW_eq h_28
    refine ccLN (rest := []) hC hH hTd ((congrFun hLN _).trans e_29) wka205 ⟨Nat.le_of_ble_eq_true rfl, Nat.le_of_ble_eq_true rfl⟩ hl.1 (Nat.le_of_ble_eq_true rfl) ⟨Nat.zero_le _, Nat.zero_le _⟩ dX11_count_95 (fun la_25 lq_25 hL_25 => ?_)
    refine lg_X11_320 hC hH hL_25 dX11_count_98 ?_
    exact cr_i hC hH hr (nrt_eq hF) dX11_count_101 hlocks
  rw [if_neg c_25] at hF
  by_cases c_30 : a0 = 6
  · rw [if_pos c_30] at hF
    refine gx_ti (y := 6) c_30 ?_
    refine lv_tableIn (off := 101) (tgt := 102) hx hb dX11_count_1 (by decide) (by decide) rfl (by decide) ?_
    refine lv_aload_n hx hb dX11_count_102 rfl (lv_at hl 0 rfl) ?_
    refine cg_X11_60 hC hH dX11_count_103 ?_
    obtain ⟨r_31, u_32, h_33, hF⟩ := ncl_some hF
    refine ccV_i (q0 := 7) (As := []) (rest := []) hC hH (n_X3_openFights l G Z Q _ T u u_32 r_31 _ h_33) rfl rfl ⟨wkc_X3_openFights, wka141, wka483, wka484, wka747⟩ kVX3_openFights ⟨Nat.le_of_ble_eq_true rfl, Nat.le_of_ble_eq_true rfl⟩ rfl hl.1 rfl (Nat.le_of_ble_eq_true rfl) dX11_count_106 (fun D H locs hH => ?_)
    exact cr_i hC hH hr (nrt_eq hF) dX11_count_109 hlocks
  rw [if_neg c_30] at hF
  by_cases c_34 : a0 = 7
  · rw [if_pos c_34] at hF
    refine gx_ti (y := 7) c_34 ?_
    refine lv_tableIn (off := 109) (tgt := 110) hx hb dX11_count_1 (by decide) (by decide) rfl (by decide) ?_
    refine lv_aload_n hx hb dX11_count_110 rfl (lv_at hl 0 rfl) ?_
    refine cg_X11_10 hC hH dX11_count_111 ?_
    refine cg_X11_314 hC hH dX11_count_114 ?_
    obtain ⟨x_35, u_36, h_37, hF⟩ := ncl_some hF
    obtain ⟨e_38, rfl⟩ := nRF_eq h_37
    refine gx_ti e_38 ?_
    exact cr_i hC hH hr (nrt_eq hF) dX11_count_117 hlocks
  rw [if_neg c_34] at hF
  by_cases c_39 : a0 = 8
  · rw [if_pos c_39] at hF
    refine gx_ti (y := 8) c_39 ?_
    refine lv_tableIn (off := 117) (tgt := 118) hx hb dX11_count_1 (by decide) (by decide) rfl (by decide) ?_
    refine lv_aload_n hx hb dX11_count_118 rfl (lv_at hl 0 rfl) ?_
    refine cg_X11_19 hC hH dX11_count_119 ?_
    refine cg_X11_92 hC hH dX11_count_122 ?_
    obtain ⟨x_40, u_41, h_42, hF⟩ := ncl_some hF
    obtain ⟨e_43, rfl⟩ := nRF_eq h_42
    refine gx_ti e_43 ?_
    exact cr_i hC hH hr (nrt_eq hF) dX11_count_125 hlocks
  rw [if_neg c_39] at hF
  refine lv_tableOut (tgt := 126) hx hb dX11_count_1 (by have q0 := gl_ne c_1 (a := 0) (by decide); have q1 := gl_ne c_5 (a := 1) (by decide); have q2 := gl_ne c_10 (a := 2) (by decide); have q3 := gl_ne c_15 (a := 3) (by decide); have q4 := gl_ne c_20 (a := 4) (by decide); have q5 := gl_ne c_25 (a := 5) (by decide); have q6 := gl_ne c_30 (a := 6) (by decide); have q7 := gl_ne c_34 (a := 7) (by decide); have q8 := gl_ne c_39 (a := 8) (by decide); omega) (by decide) ?_
  refine lv_iconst (v := (-1)) hx hb dX11_count_126 (by decide) ?_
  exact cr_i hC hH hr (nrt_eq hF) dX11_count_127 hlocks
def x_X11_begin (LN : MS → MS) (a0 : Int32) (a1 : Int32) (a2 : Int32) : AG Int32 := anl (x_X0_has a0 a1) (fun r_1 => (if r_1 = 0 then art (-2) else anl (x_X11_isMat a2) (fun r_5 => (if r_5 = 0 then art (-2) else anl (x_X0_stateOf a0 a1) (fun r_9 => (if r_9 = 1 then anl (nLW LN) (fun L_72 => (if (L_72.1 3) = 0 then art (-3) else (if (1 : Int32) = 0 then art (-3) else anl (x_X3_isFree a2) (fun r_79 => (if r_79 = 0 then art (-3) else anl (x_X0_whiteOf a0 a1) (fun r_83 => anl (x_X3_isHeld r_83) (fun r_86 => (if r_86 = 0 then anl (x_X0_blueOf a0 a1) (fun r_90 => anl (x_X3_isHeld r_90) (fun r_93 => (if r_93 = 0 then anl (x_X1_isFull) (fun r_97 => (if r_97 = 0 then anl (x_X1_openEntry) (fun r_101 => anl (nLW LN) (fun L_103 => acl (x_X3_start (L_103.1 0) a0 a1 a2) (fun r_108 => anl (nLW LN) (fun L_116 => acl (x_X3_turnOver L_116 a2) (fun r_121 => anl (x_X0_settle a0) (fun r_130 => art 1)))))) else art (-4))) else art (-5)))) else art (-5))))))))) else anl (nLW LN) (fun L_12 => (if (L_12.1 3) = 0 then art (-3) else (if (0 : Int32) = 0 then art (-3) else anl (x_X3_isFree a2) (fun r_19 => (if r_19 = 0 then art (-3) else anl (x_X0_whiteOf a0 a1) (fun r_23 => anl (x_X3_isHeld r_23) (fun r_26 => (if r_26 = 0 then anl (x_X0_blueOf a0 a1) (fun r_30 => anl (x_X3_isHeld r_30) (fun r_33 => (if r_33 = 0 then anl (x_X1_isFull) (fun r_37 => (if r_37 = 0 then anl (x_X1_openEntry) (fun r_41 => anl (nLW LN) (fun L_43 => acl (x_X3_start (L_43.1 0) a0 a1 a2) (fun r_48 => anl (nLW LN) (fun L_56 => acl (x_X3_turnOver L_56 a2) (fun r_61 => anl (x_X0_settle a0) (fun r_70 => art 1)))))) else art (-4))) else art (-5)))) else art (-5)))))))))))))))
set_option maxHeartbeats 4000000 in
set_option maxRecDepth 100000 in
theorem n_X11_begin (l : Launch) (G : gG) (Z : gC) (Q : Nat → Nat) (D : Nat × Nat) (T : va_W) (P : Nat × (Nat → Nat) × MS) (LW : List (Nat × (Nat → Nat) × MS)) (hTd : toldAt G (Z.1.1 1000) T Q P LW) (u u1 : MS) (r : Int32) (C1 C2 : Nat) (a0 : Int32) (a1 : Int32) (a2 : Int32) (sz : Nat) (hF : x_X11_begin (fun u => (lnw P LW u).2.2) a0 a1 a2 u = some (r, u1, C1, C2)) : Met l yX11_begin (Cond.code yX11_begin cX11_begin 5 (some .int) :: wK) { frames := 5, cells := C1, slots := C2, locals := 133 } (va_Pc [.ref (Q 0), .int a0, .int a1, .int a2] (cPM G Z Q D T u sz)) (cQi G Q T u1 r (va_A (cW G Q D T u) sz)) C1 C2 (va_A (cW G Q D T u) sz) := by
  refine Met.ofW (cc := cX11_begin) (maxL := 5) (ret := (some .int)) (by decide) rfl ?_
  intro p e s m args below meth c s₁ B hml hv
  obtain ⟨rfl, rfl, hP, hB, hD0, hE⟩ := hv
  have hr := B.returns
  have hlocks := B.notSynchronized
  have hts := atoms_spec (ws := Cond.code yX11_begin cX11_begin 5 (some .int) :: wK) B.pre
  have hD := hD0.self (sz := s.heap.size)
  have hA : ∀ q : Nat, s.heap.size ≤ q → va_A (cW G Q D T u) s.heap.size q := fun q h => Or.inr h
  generalize va_A (cW G Q D T u) s.heap.size = A at hD hA hE ⊢
  have hC : cX p c cX11_begin 5 s m _ RX11 G Z A := ⟨B.exec, B.bytes, hml, findClass_of_methodNamed B.named, fun w h => hts w (List.mem_cons_of_mem _ h), hB, hE, hA⟩
  have hx := hC.1
  have hb := hC.2.1
  have hH : cH G Q D T A u s s.heap [] := ⟨hP, hD, va_S.rf⟩
  generalize hK1 : C1 = K1
  generalize hK2 : C2 = K2
  have hk1 : K1 = 0 + C1 := by omega
  have hk2 : K2 = 0 + C2 := by omega
  have hl := lv_entry ([.ref (Q 0), .int a0, .int a1, .int a2]) (n := 5) (Nat.le_of_ble_eq_true rfl)
  rw [lg_entry_eq]
  generalize (lg_sl ([.ref (Q 0), .int a0, .int a1, .int a2]) ++ List.replicate (5 - (lg_sl ([.ref (Q 0), .int a0, .int a1, .int a2])).length) Slot.unset).toArray = ls at hl ⊢
  have hl : lv_has ls 5 [(0, .ref (Q 0)), (1, .int a0), (2, .int a1), (3, .int a2)] := hl
  unfold x_X11_begin at hF
  generalize hLN : (fun u => (lnw P LW u).2.2) = LN at hF
  refine lv_aload_n hx hb dX11_begin_0 rfl (lv_at hl 0 rfl) ?_
  refine cg_X11_51 hC hH dX11_begin_1 ?_
  refine lv_iload_n hx hb dX11_begin_4 rfl (lv_at hl 1 rfl) ?_
  refine lv_iload_n hx hb dX11_begin_5 rfl (lv_at hl 2 rfl) ?_
  obtain ⟨r_1, u_2, h_3, hF⟩ := anl_some hF
  refine ccV_iB (q0 := 6) (As := [.int a0, .int a1]) (rest := []) hC hH (n_X0_has l G Z Q _ T u u_2 r_1 a0 a1 _ h_3) rfl rfl ⟨wkc_X0_has, wka280, wka399, wka400, wka744⟩ kVX0_has ⟨Nat.le_of_ble_eq_true rfl, Nat.le_of_ble_eq_true rfl⟩ ⟨by show _ ≤ K1; omega, by show _ ≤ K2; omega⟩ rfl hl.1 rfl (Nat.le_of_ble_eq_true rfl) dX11_begin_6 (fun D H locs hH => ?_)
  refine lv_if_eq (tgt := 19) hx hb dX11_begin_9 (by decide) (fun c_4 => ?_) (fun c_4 => ?_)
  · rw [if_pos c_4] at hF
    refine lv_bipush (v := (-2)) hx hb dX11_begin_19 (by decide) ?_
    exact cr_iA hC hH hr (art_eq hF) (by omega) (by omega) dX11_begin_21 hlocks
  · rw [if_neg c_4] at hF
    refine lv_iload_n hx hb dX11_begin_12 rfl (lv_at hl 3 rfl) ?_
    obtain ⟨r_5, u_6, h_7, hF⟩ := anl_some hF
    refine ccS_iB (As := [.int a2]) (rest := []) hC hH (n_X11_isMat l G Z Q _ T u_2 u_6 r_5 a2 _ h_7) ⟨wkc_X11_isMat, wka286, wka729, wka755⟩ kSX11_isMat ⟨Nat.le_of_ble_eq_true rfl, Nat.le_of_ble_eq_true rfl⟩ ⟨by show _ ≤ K1; omega, by show _ ≤ K2; omega⟩ rfl hl.1 rfl (Nat.le_of_ble_eq_true rfl) dX11_begin_13 (fun D H locs hH => ?_)
    refine lv_if_ne (tgt := 22) hx hb dX11_begin_16 (by decide) (fun c_8 => ?_) (fun c_8 => ?_)
    · rw [if_neg c_8] at hF
      refine lv_aload_n hx hb dX11_begin_22 rfl (lv_at hl 0 rfl) ?_
      refine cg_X11_51 hC hH dX11_begin_23 ?_
      refine lv_iload_n hx hb dX11_begin_26 rfl (lv_at hl 1 rfl) ?_
      refine lv_iload_n hx hb dX11_begin_27 rfl (lv_at hl 2 rfl) ?_
      obtain ⟨r_9, u_10, h_11, hF⟩ := anl_some hF
      refine ccV_iB (q0 := 6) (As := [.int a0, .int a1]) (rest := []) hC hH (n_X0_stateOf l G Z Q _ T u_6 u_10 r_9 a0 a1 _ h_11) rfl rfl ⟨wkc_X0_stateOf, wka281, wka407, wka408, wka744⟩ kVX0_stateOf ⟨Nat.le_of_ble_eq_true rfl, Nat.le_of_ble_eq_true rfl⟩ ⟨by show _ ≤ K1; omega, by show _ ≤ K2; omega⟩ rfl hl.1 rfl (Nat.le_of_ble_eq_true rfl) dX11_begin_28 (fun D H locs hH => ?_)
      refine lv_iconst (v := 1) hx hb dX11_begin_31 (by decide) ?_
      refine lv_icmp_ne (tgt := 39) hx hb dX11_begin_32 (by decide) (fun c_12 => ?_) (fun c_12 => ?_)
      · rw [if_neg c_12] at hF
        refine lv_iconst (v := 0) hx hb dX11_begin_39 (by decide) ?_
        refine lv_istore (lv' := [(4, .int 0), (0, .ref (Q 0)), (1, .int a0), (2, .int a1), (3, .int a2)]) hx hb dX11_begin_40 hl (by decide) rfl (fun ls hl => ?_)
        refine lv_aload_n hx hb dX11_begin_42 rfl (lv_at hl 1 rfl) ?_
        obtain ⟨L_12, u_14, h_15, hF⟩ := anl_some hF
        obtain ⟨e_16, rfl⟩ := nLW_eq h_15
        refine ccLN (rest := []) hC hH hTd ((congrFun hLN _).trans e_16) wka205 ⟨Nat.le_of_ble_eq_true rfl, Nat.le_of_ble_eq_true rfl⟩ hl.1 (Nat.le_of_ble_eq_true rfl) ⟨by show _ ≤ K1; omega, by show _ ≤ K2; omega⟩ dX11_begin_43 (fun la_12 lq_12 hL_12 => ?_)
        refine lg_X11_125 hC hH hL_12 dX11_begin_46 ?_
        refine lv_if_eq (tgt := 68) hx hb dX11_begin_49 (by decide) (fun c_17 => ?_) (fun c_17 => ?_)
        · rw [if_pos c_17] at hF
          refine lv_bipush (v := (-3)) hx hb dX11_begin_68 (by decide) ?_
          exact cr_iA hC hH hr (art_eq hF) (by omega) (by omega) dX11_begin_70 hlocks
        · rw [if_neg c_17] at hF
          refine lv_iload hx hb dX11_begin_52 (lv_at hl 0 rfl) ?_
          refine lv_if_eq (tgt := 68) hx hb dX11_begin_54 (by decide) (fun c_18 => ?_) (fun c_18 => ?_)
          · rw [if_pos c_18] at hF
            refine lv_bipush (v := (-3)) hx hb dX11_begin_68 (by decide) ?_
            exact cr_iA hC hH hr (art_eq hF) (by omega) (by omega) dX11_begin_70 hlocks
          · rw [if_neg c_18] at hF
            refine lv_aload_n hx hb dX11_begin_57 rfl (lv_at hl 1 rfl) ?_
            refine cg_X11_60 hC hH dX11_begin_58 ?_
            refine lv_iload_n hx hb dX11_begin_61 rfl (lv_at hl 4 rfl) ?_
            obtain ⟨r_19, u_20, h_21, hF⟩ := anl_some hF
            refine ccV_iB (q0 := 7) (As := [.int a2]) (rest := []) hC hH (n_X3_isFree l G Z Q _ T u_10 u_20 r_19 a2 _ h_21) rfl rfl ⟨wkc_X3_isFree, wka287, wka473, wka474, wka747⟩ kVX3_isFree ⟨Nat.le_of_ble_eq_true rfl, Nat.le_of_ble_eq_true rfl⟩ ⟨by show _ ≤ K1; omega, by show _ ≤ K2; omega⟩ rfl hl.1 rfl (Nat.le_of_ble_eq_true rfl) dX11_begin_62 (fun D H locs hH => ?_)
            refine lv_if_ne (tgt := 71) hx hb dX11_begin_65 (by decide) (fun c_22 => ?_) (fun c_22 => ?_)
            · rw [if_neg c_22] at hF
              refine lv_aload_n hx hb dX11_begin_71 rfl (lv_at hl 1 rfl) ?_
              refine cg_X11_60 hC hH dX11_begin_72 ?_
              refine lv_aload_n hx hb dX11_begin_75 rfl (lv_at hl 1 rfl) ?_
              refine cg_X11_51 hC hH dX11_begin_76 ?_
              refine lv_iload_n hx hb dX11_begin_79 rfl (lv_at hl 2 rfl) ?_
              refine lv_iload_n hx hb dX11_begin_80 rfl (lv_at hl 3 rfl) ?_
              obtain ⟨r_23, u_24, h_25, hF⟩ := anl_some hF
              refine ccV_iB (q0 := 6) (As := [.int a0, .int a1]) (rest := [.ref (Q 7)]) hC hH (n_X0_whiteOf l G Z Q _ T u_20 u_24 r_23 a0 a1 _ h_25) rfl rfl ⟨wkc_X0_whiteOf, wka282, wka401, wka402, wka744⟩ kVX0_whiteOf ⟨Nat.le_of_ble_eq_true rfl, Nat.le_of_ble_eq_true rfl⟩ ⟨by show _ ≤ K1; omega, by show _ ≤ K2; omega⟩ rfl hl.1 rfl (Nat.le_of_ble_eq_true rfl) dX11_begin_81 (fun D H locs hH => ?_)
              obtain ⟨r_26, u_27, h_28, hF⟩ := anl_some hF
              refine ccV_iB (q0 := 7) (As := [.int r_23]) (rest := []) hC hH (n_X3_isHeld l G Z Q _ T u_24 u_27 r_26 r_23 _ h_28) rfl rfl ⟨wkc_X3_isHeld, wka288, wka487, wka488, wka747⟩ kVX3_isHeld ⟨Nat.le_of_ble_eq_true rfl, Nat.le_of_ble_eq_true rfl⟩ ⟨by show _ ≤ K1; omega, by show _ ≤ K2; omega⟩ rfl hl.1 rfl (Nat.le_of_ble_eq_true rfl) dX11_begin_84 (fun D H locs hH => ?_)
              refine lv_if_ne (tgt := 109) hx hb dX11_begin_87 (by decide) (fun c_29 => ?_) (fun c_29 => ?_)
              · rw [if_neg c_29] at hF
                refine lv_bipush (v := (-5)) hx hb dX11_begin_109 (by decide) ?_
                exact cr_iA hC hH hr (art_eq hF) (by omega) (by omega) dX11_begin_111 hlocks
              · rw [if_pos c_29] at hF
                refine lv_aload_n hx hb dX11_begin_90 rfl (lv_at hl 1 rfl) ?_
                refine cg_X11_60 hC hH dX11_begin_91 ?_
                refine lv_aload_n hx hb dX11_begin_94 rfl (lv_at hl 1 rfl) ?_
                refine cg_X11_51 hC hH dX11_begin_95 ?_
                refine lv_iload_n hx hb dX11_begin_98 rfl (lv_at hl 2 rfl) ?_
                refine lv_iload_n hx hb dX11_begin_99 rfl (lv_at hl 3 rfl) ?_
                obtain ⟨r_30, u_31, h_32, hF⟩ := anl_some hF
                refine ccV_iB (q0 := 6) (As := [.int a0, .int a1]) (rest := [.ref (Q 7)]) hC hH (n_X0_blueOf l G Z Q _ T u_27 u_31 r_30 a0 a1 _ h_32) rfl rfl ⟨wkc_X0_blueOf, wka283, wka403, wka404, wka744⟩ kVX0_blueOf ⟨Nat.le_of_ble_eq_true rfl, Nat.le_of_ble_eq_true rfl⟩ ⟨by show _ ≤ K1; omega, by show _ ≤ K2; omega⟩ rfl hl.1 rfl (Nat.le_of_ble_eq_true rfl) dX11_begin_100 (fun D H locs hH => ?_)
                obtain ⟨r_33, u_34, h_35, hF⟩ := anl_some hF
                refine ccV_iB (q0 := 7) (As := [.int r_30]) (rest := []) hC hH (n_X3_isHeld l G Z Q _ T u_31 u_34 r_33 r_30 _ h_35) rfl rfl ⟨wkc_X3_isHeld, wka288, wka487, wka488, wka747⟩ kVX3_isHeld ⟨Nat.le_of_ble_eq_true rfl, Nat.le_of_ble_eq_true rfl⟩ ⟨by show _ ≤ K1; omega, by show _ ≤ K2; omega⟩ rfl hl.1 rfl (Nat.le_of_ble_eq_true rfl) dX11_begin_103 (fun D H locs hH => ?_)
                refine lv_if_eq (tgt := 112) hx hb dX11_begin_106 (by decide) (fun c_36 => ?_) (fun c_36 => ?_)
                · rw [if_pos c_36] at hF
                  refine lv_aload_n hx hb dX11_begin_112 rfl (lv_at hl 1 rfl) ?_
                  refine cg_X11_10 hC hH dX11_begin_113 ?_
                  obtain ⟨r_37, u_38, h_39, hF⟩ := anl_some hF
                  refine ccV_iB (q0 := 1) (As := []) (rest := []) hC hH (n_X1_isFull l G Z Q _ T u_34 u_38 r_37 _ h_39) rfl rfl ⟨wkc_X1_isFull, wka192, wka441, wka442, wka745⟩ kVX1_isFull ⟨Nat.le_of_ble_eq_true rfl, Nat.le_of_ble_eq_true rfl⟩ ⟨by show _ ≤ K1; omega, by show _ ≤ K2; omega⟩ rfl hl.1 rfl (Nat.le_of_ble_eq_true rfl) dX11_begin_116 (fun D H locs hH => ?_)
                  refine lv_if_eq (tgt := 125) hx hb dX11_begin_119 (by decide) (fun c_40 => ?_) (fun c_40 => ?_)
                  · rw [if_pos c_40] at hF
                    refine lv_aload_n hx hb dX11_begin_125 rfl (lv_at hl 1 rfl) ?_
                    refine cg_X11_10 hC hH dX11_begin_126 ?_
                    obtain ⟨r_41, u_42, h_43, hF⟩ := anl_some hF
                    refine ccV_vB (q0 := 1) (As := []) (rest := []) hC hH (n_X1_openEntry l G Z Q _ T u_38 u_42 r_41 _ h_43) rfl rfl ⟨wkc_X1_openEntry, wka193, wka443, wka444, wka745⟩ kVX1_openEntry ⟨Nat.le_of_ble_eq_true rfl, Nat.le_of_ble_eq_true rfl⟩ ⟨by show _ ≤ K1; omega, by show _ ≤ K2; omega⟩ rfl hl.1 rfl (Nat.le_of_ble_eq_true rfl) dX11_begin_129 (fun D H locs hH => ?_)
                    refine lv_aload_n hx hb dX11_begin_132 rfl (lv_at hl 1 rfl) ?_
                    refine cg_X11_60 hC hH dX11_begin_133 ?_
                    refine lv_aload_n hx hb dX11_begin_136 rfl (lv_at hl 1 rfl) ?_
                    obtain ⟨L_43, u_45, h_46, hF⟩ := anl_some hF
                    obtain ⟨e_47, rfl⟩ := nLW_eq h_46
                    refine ccLN (rest := [.ref (Q 7)]) hC hH hTd ((congrFun hLN _).trans e_47) wka205 ⟨Nat.le_of_ble_eq_true rfl, Nat.le_of_ble_eq_true rfl⟩ hl.1 (Nat.le_of_ble_eq_true rfl) ⟨by show _ ≤ K1; omega, by show _ ≤ K2; omega⟩ dX11_begin_137 (fun la_43 lq_43 hL_43 => ?_)
                    refine lg_X11_249 hC hH hL_43 dX11_begin_140 ?_
                    refine lv_iload_n hx hb dX11_begin_143 rfl (lv_at hl 2 rfl) ?_
                    refine lv_iload_n hx hb dX11_begin_144 rfl (lv_at hl 3 rfl) ?_
                    refine lv_iload_n hx hb dX11_begin_145 rfl (lv_at hl 4 rfl) ?_
                    obtain ⟨r_48, u_49, k_51, k_52, k_53, k_54, h_50, hF, e_55, e_56⟩ := acl_some hF
                    refine ccV_vA (q0 := 7) (As := [.int (L_43.1 0), .int a0, .int a1, .int a2]) (rest := []) hC hH (n_X3_start l G Z Q _ T u_42 u_49 r_48 k_51 k_52 (L_43.1 0) a0 a1 a2 _ h_50) rfl rfl ⟨wkc_X3_start, wka292, wka489, wka490, wka747⟩ kVX3_start ⟨Nat.le_of_ble_eq_true rfl, Nat.le_of_ble_eq_true rfl⟩ ⟨by show _ ≤ K1; omega, by show _ ≤ K2; omega⟩ rfl hl.1 rfl (Nat.le_of_ble_eq_true rfl) dX11_begin_146 (fun D H locs hH => ?_)
                    have hk1 := (hk1.trans (congrArg (_ + ·) e_55)).trans (Nat.add_assoc _ _ _).symm
                    have hk2 := (hk2.trans (congrArg (_ + ·) e_56)).trans (Nat.add_assoc _ _ _).symm
                    refine lv_aload_n hx hb dX11_begin_149 rfl (lv_at hl 1 rfl) ?_
                    refine cg_X11_60 hC hH dX11_begin_150 ?_
                    refine lv_aload_n hx hb dX11_begin_153 rfl (lv_at hl 1 rfl) ?_
                    obtain ⟨L_56, u_58, h_59, hF⟩ := anl_some hF
                    obtain ⟨e_60, rfl⟩ := nLW_eq h_59
                    refine ccLN (rest := [.ref (Q 7)]) hC hH hTd ((congrFun hLN _).trans e_60) wka205 ⟨Nat.le_of_ble_eq_true rfl, Nat.le_of_ble_eq_true rfl⟩ hl.1 (Nat.le_of_ble_eq_true rfl) ⟨by show _ ≤ K1; omega, by show _ ≤ K2; omega⟩ dX11_begin_154 (fun la_56 lq_56 hL_56 => ?_)
                    refine lv_iload_n hx hb dX11_begin_157 rfl (lv_at hl 4 rfl) ?_
                    obtain ⟨r_61, u_62, k_64, k_65, k_66, k_67, h_63, hF, e_68, e_69⟩ := acl_some hF
                    refine ccV_vA (q0 := 7) (As := [.ref la_56, .int a2]) (rest := []) hC hH (n_X3_turnOver l G Z Q _ T la_56 lq_56 L_56 hL_56 u_49 u_62 r_61 k_64 k_65 a2 _ h_63) rfl rfl ⟨wkc_X3_turnOver, wka296, wka491, wka492, wka747⟩ kVX3_turnOver ⟨Nat.le_of_ble_eq_true rfl, Nat.le_of_ble_eq_true rfl⟩ ⟨by show _ ≤ K1; omega, by show _ ≤ K2; omega⟩ rfl hl.1 rfl (Nat.le_of_ble_eq_true rfl) dX11_begin_158 (fun D H locs hH => ?_)
                    have hk1 := (hk1.trans (congrArg (_ + ·) e_68)).trans (Nat.add_assoc _ _ _).symm
                    have hk2 := (hk2.trans (congrArg (_ + ·) e_69)).trans (Nat.add_assoc _ _ _).symm
                    refine lv_aload_n hx hb dX11_begin_161 rfl (lv_at hl 1 rfl) ?_
                    refine cg_X11_51 hC hH dX11_begin_162 ?_
                    refine lv_iload_n hx hb dX11_begin_165 rfl (lv_at hl 2 rfl) ?_
                    obtain ⟨r_70, u_71, h_72, hF⟩ := anl_some hF
                    refine ccV_vB (q0 := 6) (As := [.int a0]) (rest := []) hC hH (n_X0_settle l G Z Q _ T u_62 u_71 r_70 a0 _ h_72) rfl rfl ⟨wkc_X0_settle, wka253, wka413, wka414, wka744⟩ kVX0_settle ⟨Nat.le_of_ble_eq_true rfl, Nat.le_of_ble_eq_true rfl⟩ ⟨by show _ ≤ K1; omega, by show _ ≤ K2; omega⟩ rfl hl.1 rfl (Nat.le_of_ble_eq_true rfl) dX11_begin_166 (fun D H locs hH => ?_)
                    refine lv_iconst (v := 1) hx hb dX11_begin_169 (by decide) ?_
                    exact cr_iA hC hH hr (art_eq hF) (by omega) (by omega) dX11_begin_170 hlocks
                  · rw [if_neg c_40] at hF
                    refine lv_bipush (v := (-4)) hx hb dX11_begin_122 (by decide) ?_
                    exact cr_iA hC hH hr (art_eq hF) (by omega) (by omega) dX11_begin_124 hlocks
                · rw [if_neg c_36] at hF
                  refine lv_bipush (v := (-5)) hx hb dX11_begin_109 (by decide) ?_
                  exact cr_iA hC hH hr (art_eq hF) (by omega) (by omega) dX11_begin_111 hlocks
            · rw [if_pos c_22] at hF
              refine lv_bipush (v := (-3)) hx hb dX11_begin_68 (by decide) ?_
              exact cr_iA hC hH hr (art_eq hF) (by omega) (by omega) dX11_begin_70 hlocks
      · rw [if_pos c_12] at hF
        refine lv_iconst (v := 1) hx hb dX11_begin_35 (by decide) ?_
        refine lv_goto (tgt := 40) hx hb dX11_begin_36 (by decide) ?_
        refine lv_istore (lv' := [(4, .int 1), (0, .ref (Q 0)), (1, .int a0), (2, .int a1), (3, .int a2)]) hx hb dX11_begin_40 hl (by decide) rfl (fun ls hl => ?_)
        refine lv_aload_n hx hb dX11_begin_42 rfl (lv_at hl 1 rfl) ?_
        obtain ⟨L_72, u_74, h_75, hF⟩ := anl_some hF
        obtain ⟨e_76, rfl⟩ := nLW_eq h_75
        refine ccLN (rest := []) hC hH hTd ((congrFun hLN _).trans e_76) wka205 ⟨Nat.le_of_ble_eq_true rfl, Nat.le_of_ble_eq_true rfl⟩ hl.1 (Nat.le_of_ble_eq_true rfl) ⟨by show _ ≤ K1; omega, by show _ ≤ K2; omega⟩ dX11_begin_43 (fun la_72 lq_72 hL_72 => ?_)
        refine lg_X11_125 hC hH hL_72 dX11_begin_46 ?_
        refine lv_if_eq (tgt := 68) hx hb dX11_begin_49 (by decide) (fun c_77 => ?_) (fun c_77 => ?_)
        · rw [if_pos c_77] at hF
          refine lv_bipush (v := (-3)) hx hb dX11_begin_68 (by decide) ?_
          exact cr_iA hC hH hr (art_eq hF) (by omega) (by omega) dX11_begin_70 hlocks
        · rw [if_neg c_77] at hF
          refine lv_iload hx hb dX11_begin_52 (lv_at hl 0 rfl) ?_
          refine lv_if_eq (tgt := 68) hx hb dX11_begin_54 (by decide) (fun c_78 => ?_) (fun c_78 => ?_)
          · rw [if_pos c_78] at hF
            refine lv_bipush (v := (-3)) hx hb dX11_begin_68 (by decide) ?_
            exact cr_iA hC hH hr (art_eq hF) (by omega) (by omega) dX11_begin_70 hlocks
          · rw [if_neg c_78] at hF
            refine lv_aload_n hx hb dX11_begin_57 rfl (lv_at hl 1 rfl) ?_
            refine cg_X11_60 hC hH dX11_begin_58 ?_
            refine lv_iload_n hx hb dX11_begin_61 rfl (lv_at hl 4 rfl) ?_
            obtain ⟨r_79, u_80, h_81, hF⟩ := anl_some hF
            refine ccV_iB (q0 := 7) (As := [.int a2]) (rest := []) hC hH (n_X3_isFree l G Z Q _ T u_10 u_80 r_79 a2 _ h_81) rfl rfl ⟨wkc_X3_isFree, wka287, wka473, wka474, wka747⟩ kVX3_isFree ⟨Nat.le_of_ble_eq_true rfl, Nat.le_of_ble_eq_true rfl⟩ ⟨by show _ ≤ K1; omega, by show _ ≤ K2; omega⟩ rfl hl.1 rfl (Nat.le_of_ble_eq_true rfl) dX11_begin_62 (fun D H locs hH => ?_)
            refine lv_if_ne (tgt := 71) hx hb dX11_begin_65 (by decide) (fun c_82 => ?_) (fun c_82 => ?_)
            · rw [if_neg c_82] at hF
              refine lv_aload_n hx hb dX11_begin_71 rfl (lv_at hl 1 rfl) ?_
              refine cg_X11_60 hC hH dX11_begin_72 ?_
              refine lv_aload_n hx hb dX11_begin_75 rfl (lv_at hl 1 rfl) ?_
              refine cg_X11_51 hC hH dX11_begin_76 ?_
              refine lv_iload_n hx hb dX11_begin_79 rfl (lv_at hl 2 rfl) ?_
              refine lv_iload_n hx hb dX11_begin_80 rfl (lv_at hl 3 rfl) ?_
              obtain ⟨r_83, u_84, h_85, hF⟩ := anl_some hF
              refine ccV_iB (q0 := 6) (As := [.int a0, .int a1]) (rest := [.ref (Q 7)]) hC hH (n_X0_whiteOf l G Z Q _ T u_80 u_84 r_83 a0 a1 _ h_85) rfl rfl ⟨wkc_X0_whiteOf, wka282, wka401, wka402, wka744⟩ kVX0_whiteOf ⟨Nat.le_of_ble_eq_true rfl, Nat.le_of_ble_eq_true rfl⟩ ⟨by show _ ≤ K1; omega, by show _ ≤ K2; omega⟩ rfl hl.1 rfl (Nat.le_of_ble_eq_true rfl) dX11_begin_81 (fun D H locs hH => ?_)
              obtain ⟨r_86, u_87, h_88, hF⟩ := anl_some hF
              refine ccV_iB (q0 := 7) (As := [.int r_83]) (rest := []) hC hH (n_X3_isHeld l G Z Q _ T u_84 u_87 r_86 r_83 _ h_88) rfl rfl ⟨wkc_X3_isHeld, wka288, wka487, wka488, wka747⟩ kVX3_isHeld ⟨Nat.le_of_ble_eq_true rfl, Nat.le_of_ble_eq_true rfl⟩ ⟨by show _ ≤ K1; omega, by show _ ≤ K2; omega⟩ rfl hl.1 rfl (Nat.le_of_ble_eq_true rfl) dX11_begin_84 (fun D H locs hH => ?_)
              refine lv_if_ne (tgt := 109) hx hb dX11_begin_87 (by decide) (fun c_89 => ?_) (fun c_89 => ?_)
              · rw [if_neg c_89] at hF
                refine lv_bipush (v := (-5)) hx hb dX11_begin_109 (by decide) ?_
                exact cr_iA hC hH hr (art_eq hF) (by omega) (by omega) dX11_begin_111 hlocks
              · rw [if_pos c_89] at hF
                refine lv_aload_n hx hb dX11_begin_90 rfl (lv_at hl 1 rfl) ?_
                refine cg_X11_60 hC hH dX11_begin_91 ?_
                refine lv_aload_n hx hb dX11_begin_94 rfl (lv_at hl 1 rfl) ?_
                refine cg_X11_51 hC hH dX11_begin_95 ?_
                refine lv_iload_n hx hb dX11_begin_98 rfl (lv_at hl 2 rfl) ?_
                refine lv_iload_n hx hb dX11_begin_99 rfl (lv_at hl 3 rfl) ?_
                obtain ⟨r_90, u_91, h_92, hF⟩ := anl_some hF
                refine ccV_iB (q0 := 6) (As := [.int a0, .int a1]) (rest := [.ref (Q 7)]) hC hH (n_X0_blueOf l G Z Q _ T u_87 u_91 r_90 a0 a1 _ h_92) rfl rfl ⟨wkc_X0_blueOf, wka283, wka403, wka404, wka744⟩ kVX0_blueOf ⟨Nat.le_of_ble_eq_true rfl, Nat.le_of_ble_eq_true rfl⟩ ⟨by show _ ≤ K1; omega, by show _ ≤ K2; omega⟩ rfl hl.1 rfl (Nat.le_of_ble_eq_true rfl) dX11_begin_100 (fun D H locs hH => ?_)
                obtain ⟨r_93, u_94, h_95, hF⟩ := anl_some hF
                refine ccV_iB (q0 := 7) (As := [.int r_90]) (rest := []) hC hH (n_X3_isHeld l G Z Q _ T u_91 u_94 r_93 r_90 _ h_95) rfl rfl ⟨wkc_X3_isHeld, wka288, wka487, wka488, wka747⟩ kVX3_isHeld ⟨Nat.le_of_ble_eq_true rfl, Nat.le_of_ble_eq_true rfl⟩ ⟨by show _ ≤ K1; omega, by show _ ≤ K2; omega⟩ rfl hl.1 rfl (Nat.le_of_ble_eq_true rfl) dX11_begin_103 (fun D H locs hH => ?_)
                refine lv_if_eq (tgt := 112) hx hb dX11_begin_106 (by decide) (fun c_96 => ?_) (fun c_96 => ?_)
                · rw [if_pos c_96] at hF
                  refine lv_aload_n hx hb dX11_begin_112 rfl (lv_at hl 1 rfl) ?_
                  refine cg_X11_10 hC hH dX11_begin_113 ?_
                  obtain ⟨r_97, u_98, h_99, hF⟩ := anl_some hF
                  refine ccV_iB (q0 := 1) (As := []) (rest := []) hC hH (n_X1_isFull l G Z Q _ T u_94 u_98 r_97 _ h_99) rfl rfl ⟨wkc_X1_isFull, wka192, wka441, wka442, wka745⟩ kVX1_isFull ⟨Nat.le_of_ble_eq_true rfl, Nat.le_of_ble_eq_true rfl⟩ ⟨by show _ ≤ K1; omega, by show _ ≤ K2; omega⟩ rfl hl.1 rfl (Nat.le_of_ble_eq_true rfl) dX11_begin_116 (fun D H locs hH => ?_)
                  refine lv_if_eq (tgt := 125) hx hb dX11_begin_119 (by decide) (fun c_100 => ?_) (fun c_100 => ?_)
                  · rw [if_pos c_100] at hF
                    refine lv_aload_n hx hb dX11_begin_125 rfl (lv_at hl 1 rfl) ?_
                    refine cg_X11_10 hC hH dX11_begin_126 ?_
                    obtain ⟨r_101, u_102, h_103, hF⟩ := anl_some hF
                    refine ccV_vB (q0 := 1) (As := []) (rest := []) hC hH (n_X1_openEntry l G Z Q _ T u_98 u_102 r_101 _ h_103) rfl rfl ⟨wkc_X1_openEntry, wka193, wka443, wka444, wka745⟩ kVX1_openEntry ⟨Nat.le_of_ble_eq_true rfl, Nat.le_of_ble_eq_true rfl⟩ ⟨by show _ ≤ K1; omega, by show _ ≤ K2; omega⟩ rfl hl.1 rfl (Nat.le_of_ble_eq_true rfl) dX11_begin_129 (fun D H locs hH => ?_)
                    refine lv_aload_n hx hb dX11_begin_132 rfl (lv_at hl 1 rfl) ?_
                    refine cg_X11_60 hC hH dX11_begin_133 ?_
                    refine lv_aload_n hx hb dX11_begin_136 rfl (lv_at hl 1 rfl) ?_
                    obtain ⟨L_103, u_105, h_106, hF⟩ := anl_some hF
                    obtain ⟨e_107, rfl⟩ := nLW_eq h_106
                    refine ccLN (rest := [.ref (Q 7)]) hC hH hTd ((congrFun hLN _).trans e_107) wka205 ⟨Nat.le_of_ble_eq_true rfl, Nat.le_of_ble_eq_true rfl⟩ hl.1 (Nat.le_of_ble_eq_true rfl) ⟨by show _ ≤ K1; omega, by show _ ≤ K2; omega⟩ dX11_begin_137 (fun la_103 lq_103 hL_103 => ?_)
                    refine lg_X11_249 hC hH hL_103 dX11_begin_140 ?_
                    refine lv_iload_n hx hb dX11_begin_143 rfl (lv_at hl 2 rfl) ?_
                    refine lv_iload_n hx hb dX11_begin_144 rfl (lv_at hl 3 rfl) ?_
                    refine lv_iload_n hx hb dX11_begin_145 rfl (lv_at hl 4 rfl) ?_
                    obtain ⟨r_108, u_109, k_111, k_112, k_113, k_114, h_110, hF, e_115, e_116⟩ := acl_some hF
                    refine ccV_vA (q0 := 7) (As := [.int (L_103.1 0), .int a0, .int a1, .int a2]) (rest := []) hC hH (n_X3_start l G Z Q _ T u_102 u_109 r_108 k_111 k_112 (L_103.1 0) a0 a1 a2 _ h_110) rfl rfl ⟨wkc_X3_start, wka292, wka489, wka490, wka747⟩ kVX3_start ⟨Nat.le_of_ble_eq_true rfl, Nat.le_of_ble_eq_true rfl⟩ ⟨by show _ ≤ K1; omega, by show _ ≤ K2; omega⟩ rfl hl.1 rfl (Nat.le_of_ble_eq_true rfl) dX11_begin_146 (fun D H locs hH => ?_)
                    have hk1 := (hk1.trans (congrArg (_ + ·) e_115)).trans (Nat.add_assoc _ _ _).symm
                    have hk2 := (hk2.trans (congrArg (_ + ·) e_116)).trans (Nat.add_assoc _ _ _).symm
                    refine lv_aload_n hx hb dX11_begin_149 rfl (lv_at hl 1 rfl) ?_
                    refine cg_X11_60 hC hH dX11_begin_150 ?_
                    refine lv_aload_n hx hb dX11_begin_153 rfl (lv_at hl 1 rfl) ?_
                    obtain ⟨L_116, u_118, h_119, hF⟩ := anl_some hF
                    obtain ⟨e_120, rfl⟩ := nLW_eq h_119
                    refine ccLN (rest := [.ref (Q 7)]) hC hH hTd ((congrFun hLN _).trans e_120) wka205 ⟨Nat.le_of_ble_eq_true rfl, Nat.le_of_ble_eq_true rfl⟩ hl.1 (Nat.le_of_ble_eq_true rfl) ⟨by show _ ≤ K1; omega, by show _ ≤ K2; omega⟩ dX11_begin_154 (fun la_116 lq_116 hL_116 => ?_)
                    refine lv_iload_n hx hb dX11_begin_157 rfl (lv_at hl 4 rfl) ?_
                    obtain ⟨r_121, u_122, k_124, k_125, k_126, k_127, h_123, hF, e_128, e_129⟩ := acl_some hF
                    refine ccV_vA (q0 := 7) (As := [.ref la_116, .int a2]) (rest := []) hC hH (n_X3_turnOver l G Z Q _ T la_116 lq_116 L_116 hL_116 u_109 u_122 r_121 k_124 k_125 a2 _ h_123) rfl rfl ⟨wkc_X3_turnOver, wka296, wka491, wka492, wka747⟩ kVX3_turnOver ⟨Nat.le_of_ble_eq_true rfl, Nat.le_of_ble_eq_true rfl⟩ ⟨by show _ ≤ K1; omega, by show _ ≤ K2; omega⟩ rfl hl.1 rfl (Nat.le_of_ble_eq_true rfl) dX11_begin_158 (fun D H locs hH => ?_)
                    have hk1 := (hk1.trans (congrArg (_ + ·) e_128)).trans (Nat.add_assoc _ _ _).symm
                    have hk2 := (hk2.trans (congrArg (_ + ·) e_129)).trans (Nat.add_assoc _ _ _).symm
                    refine lv_aload_n hx hb dX11_begin_161 rfl (lv_at hl 1 rfl) ?_
                    refine cg_X11_51 hC hH dX11_begin_162 ?_
                    refine lv_iload_n hx hb dX11_begin_165 rfl (lv_at hl 2 rfl) ?_
                    obtain ⟨r_130, u_131, h_132, hF⟩ := anl_some hF
                    refine ccV_vB (q0 := 6) (As := [.int a0]) (rest := []) hC hH (n_X0_settle l G Z Q _ T u_122 u_131 r_130 a0 _ h_132) rfl rfl ⟨wkc_X0_settle, wka253, wka413, wka414, wka744⟩ kVX0_settle ⟨Nat.le_of_ble_eq_true rfl, Nat.le_of_ble_eq_true rfl⟩ ⟨by show _ ≤ K1; omega, by show _ ≤ K2; omega⟩ rfl hl.1 rfl (Nat.le_of_ble_eq_true rfl) dX11_begin_166 (fun D H locs hH => ?_)
                    refine lv_iconst (v := 1) hx hb dX11_begin_169 (by decide) ?_
                    exact cr_iA hC hH hr (art_eq hF) (by omega) (by omega) dX11_begin_170 hlocks
                  · rw [if_neg c_100] at hF
                    refine lv_bipush (v := (-4)) hx hb dX11_begin_122 (by decide) ?_
                    exact cr_iA hC hH hr (art_eq hF) (by omega) (by omega) dX11_begin_124 hlocks
                · rw [if_neg c_96] at hF
                  refine lv_bipush (v := (-5)) hx hb dX11_begin_109 (by decide) ?_
                  exact cr_iA hC hH hr (art_eq hF) (by omega) (by omega) dX11_begin_111 hlocks
            · rw [if_pos c_82] at hF
              refine lv_bipush (v := (-3)) hx hb dX11_begin_68 (by decide) ?_
              exact cr_iA hC hH hr (art_eq hF) (by omega) (by omega) dX11_begin_70 hlocks
    · rw [if_pos c_8] at hF
      refine lv_bipush (v := (-2)) hx hb dX11_begin_19 (by decide) ?_
      exact cr_iA hC hH hr (art_eq hF) (by omega) (by omega) dX11_begin_21 hlocks
def x_X11_event (LN : MS → MS) (a0 : Int32) (a1 : Int32) (a2 : Int32) : AG Int32 := anl (x_X11_isMat a0) (fun r_1 => (if r_1 = 0 then art (-2) else anl (x_X11_isSide a1) (fun r_5 => (if r_5 = 0 then art (-2) else (if a2 < 0 then art (-2) else anl (nLW LN) (fun L_9 => (if a2 < (L_9.1 2) then anl (x_X3_goesOn a0) (fun r_15 => (if r_15 = 0 then art (-3) else anl (x_X1_isFull) (fun r_19 => (if r_19 = 0 then anl (x_X1_openEntry) (fun r_23 => acl (x_X3_giveSign a0 a1 a2) (fun r_26 => anl (nLW LN) (fun L_34 => acl (x_X3_ask L_34 a0) (fun r_39 => anl (x_X3_classOn a0) (fun r_48 => anl (x_X0_settle r_48) (fun r_51 => art r_39)))))) else art (-4))))) else art (-2))))))))
set_option maxHeartbeats 4000000 in
set_option maxRecDepth 100000 in
theorem n_X11_event (l : Launch) (G : gG) (Z : gC) (Q : Nat → Nat) (D : Nat × Nat) (T : va_W) (P : Nat × (Nat → Nat) × MS) (LW : List (Nat × (Nat → Nat) × MS)) (hTd : toldAt G (Z.1.1 1000) T Q P LW) (u u1 : MS) (r : Int32) (C1 C2 : Nat) (a0 : Int32) (a1 : Int32) (a2 : Int32) (sz : Nat) (hF : x_X11_event (fun u => (lnw P LW u).2.2) a0 a1 a2 u = some (r, u1, C1, C2)) : Met l yX11_event (Cond.code yX11_event cX11_event 5 (some .int) :: wK) { frames := 7, cells := C1, slots := C2, locals := 180 } (va_Pc [.ref (Q 0), .int a0, .int a1, .int a2] (cPM G Z Q D T u sz)) (cQi G Q T u1 r (va_A (cW G Q D T u) sz)) C1 C2 (va_A (cW G Q D T u) sz) := by
  refine Met.ofW (cc := cX11_event) (maxL := 5) (ret := (some .int)) (by decide) rfl ?_
  intro p e s m args below meth c s₁ B hml hv
  obtain ⟨rfl, rfl, hP, hB, hD0, hE⟩ := hv
  have hr := B.returns
  have hlocks := B.notSynchronized
  have hts := atoms_spec (ws := Cond.code yX11_event cX11_event 5 (some .int) :: wK) B.pre
  have hD := hD0.self (sz := s.heap.size)
  have hA : ∀ q : Nat, s.heap.size ≤ q → va_A (cW G Q D T u) s.heap.size q := fun q h => Or.inr h
  generalize va_A (cW G Q D T u) s.heap.size = A at hD hA hE ⊢
  have hC : cX p c cX11_event 5 s m _ RX11 G Z A := ⟨B.exec, B.bytes, hml, findClass_of_methodNamed B.named, fun w h => hts w (List.mem_cons_of_mem _ h), hB, hE, hA⟩
  have hx := hC.1
  have hb := hC.2.1
  have hH : cH G Q D T A u s s.heap [] := ⟨hP, hD, va_S.rf⟩
  generalize hK1 : C1 = K1
  generalize hK2 : C2 = K2
  have hk1 : K1 = 0 + C1 := by omega
  have hk2 : K2 = 0 + C2 := by omega
  have hl := lv_entry ([.ref (Q 0), .int a0, .int a1, .int a2]) (n := 5) (Nat.le_of_ble_eq_true rfl)
  rw [lg_entry_eq]
  generalize (lg_sl ([.ref (Q 0), .int a0, .int a1, .int a2]) ++ List.replicate (5 - (lg_sl ([.ref (Q 0), .int a0, .int a1, .int a2])).length) Slot.unset).toArray = ls at hl ⊢
  have hl : lv_has ls 5 [(0, .ref (Q 0)), (1, .int a0), (2, .int a1), (3, .int a2)] := hl
  unfold x_X11_event at hF
  generalize hLN : (fun u => (lnw P LW u).2.2) = LN at hF
  refine lv_iload_n hx hb dX11_event_0 rfl (lv_at hl 1 rfl) ?_
  obtain ⟨r_1, u_2, h_3, hF⟩ := anl_some hF
  refine ccS_iB (As := [.int a0]) (rest := []) hC hH (n_X11_isMat l G Z Q _ T u u_2 r_1 a0 _ h_3) ⟨wkc_X11_isMat, wka286, wka729, wka755⟩ kSX11_isMat ⟨Nat.le_of_ble_eq_true rfl, Nat.le_of_ble_eq_true rfl⟩ ⟨by show _ ≤ K1; omega, by show _ ≤ K2; omega⟩ rfl hl.1 rfl (Nat.le_of_ble_eq_true rfl) dX11_event_1 (fun D H locs hH => ?_)
  refine lv_if_eq (tgt := 29) hx hb dX11_event_4 (by decide) (fun c_4 => ?_) (fun c_4 => ?_)
  · rw [if_pos c_4] at hF
    refine lv_bipush (v := (-2)) hx hb dX11_event_29 (by decide) ?_
    exact cr_iA hC hH hr (art_eq hF) (by omega) (by omega) dX11_event_31 hlocks
  · rw [if_neg c_4] at hF
    refine lv_iload_n hx hb dX11_event_7 rfl (lv_at hl 2 rfl) ?_
    obtain ⟨r_5, u_6, h_7, hF⟩ := anl_some hF
    refine ccS_iB (As := [.int a1]) (rest := []) hC hH (n_X11_isSide l G Z Q _ T u_2 u_6 r_5 a1 _ h_7) ⟨wkc_X11_isSide, wka297, wka730, wka755⟩ kSX11_isSide ⟨Nat.le_of_ble_eq_true rfl, Nat.le_of_ble_eq_true rfl⟩ ⟨by show _ ≤ K1; omega, by show _ ≤ K2; omega⟩ rfl hl.1 rfl (Nat.le_of_ble_eq_true rfl) dX11_event_8 (fun D H locs hH => ?_)
    refine lv_if_eq (tgt := 29) hx hb dX11_event_11 (by decide) (fun c_8 => ?_) (fun c_8 => ?_)
    · rw [if_pos c_8] at hF
      refine lv_bipush (v := (-2)) hx hb dX11_event_29 (by decide) ?_
      exact cr_iA hC hH hr (art_eq hF) (by omega) (by omega) dX11_event_31 hlocks
    · rw [if_neg c_8] at hF
      refine lv_iload_n hx hb dX11_event_14 rfl (lv_at hl 3 rfl) ?_
      refine lv_if_lt (tgt := 29) hx hb dX11_event_15 (by decide) (fun c_9 => ?_) (fun c_9 => ?_)
      · rw [if_pos c_9] at hF
        refine lv_bipush (v := (-2)) hx hb dX11_event_29 (by decide) ?_
        exact cr_iA hC hH hr (art_eq hF) (by omega) (by omega) dX11_event_31 hlocks
      · rw [if_neg c_9] at hF
        refine lv_iload_n hx hb dX11_event_18 rfl (lv_at hl 3 rfl) ?_
        refine lv_aload_n hx hb dX11_event_19 rfl (lv_at hl 0 rfl) ?_
        obtain ⟨L_9, u_11, h_12, hF⟩ := anl_some hF
        obtain ⟨e_13, rfl⟩ := nLW_eq h_12
        refine ccLN (rest := [.int a2]) hC hH hTd ((congrFun hLN _).trans e_13) wka205 ⟨Nat.le_of_ble_eq_true rfl, Nat.le_of_ble_eq_true rfl⟩ hl.1 (Nat.le_of_ble_eq_true rfl) ⟨by show _ ≤ K1; omega, by show _ ≤ K2; omega⟩ dX11_event_20 (fun la_9 lq_9 hL_9 => ?_)
        refine lg_X11_263 hC hH hL_9 dX11_event_23 ?_
        refine lv_icmp_lt (tgt := 32) hx hb dX11_event_26 (by decide) (fun c_14 => ?_) (fun c_14 => ?_)
        · rw [if_pos c_14] at hF
          refine lv_aload_n hx hb dX11_event_32 rfl (lv_at hl 0 rfl) ?_
          refine cg_X11_60 hC hH dX11_event_33 ?_
          refine lv_iload_n hx hb dX11_event_36 rfl (lv_at hl 1 rfl) ?_
          obtain ⟨r_15, u_16, h_17, hF⟩ := anl_some hF
          refine ccV_iB (q0 := 7) (As := [.int a0]) (rest := []) hC hH (n_X3_goesOn l G Z Q _ T u_6 u_16 r_15 a0 _ h_17) rfl rfl ⟨wkc_X3_goesOn, wka298, wka479, wka480, wka747⟩ kVX3_goesOn ⟨Nat.le_of_ble_eq_true rfl, Nat.le_of_ble_eq_true rfl⟩ ⟨by show _ ≤ K1; omega, by show _ ≤ K2; omega⟩ rfl hl.1 rfl (Nat.le_of_ble_eq_true rfl) dX11_event_37 (fun D H locs hH => ?_)
          refine lv_if_ne (tgt := 46) hx hb dX11_event_40 (by decide) (fun c_18 => ?_) (fun c_18 => ?_)
          · rw [if_neg c_18] at hF
            refine lv_aload_n hx hb dX11_event_46 rfl (lv_at hl 0 rfl) ?_
            refine cg_X11_10 hC hH dX11_event_47 ?_
            obtain ⟨r_19, u_20, h_21, hF⟩ := anl_some hF
            refine ccV_iB (q0 := 1) (As := []) (rest := []) hC hH (n_X1_isFull l G Z Q _ T u_16 u_20 r_19 _ h_21) rfl rfl ⟨wkc_X1_isFull, wka192, wka441, wka442, wka745⟩ kVX1_isFull ⟨Nat.le_of_ble_eq_true rfl, Nat.le_of_ble_eq_true rfl⟩ ⟨by show _ ≤ K1; omega, by show _ ≤ K2; omega⟩ rfl hl.1 rfl (Nat.le_of_ble_eq_true rfl) dX11_event_50 (fun D H locs hH => ?_)
            refine lv_if_eq (tgt := 59) hx hb dX11_event_53 (by decide) (fun c_22 => ?_) (fun c_22 => ?_)
            · rw [if_pos c_22] at hF
              refine lv_aload_n hx hb dX11_event_59 rfl (lv_at hl 0 rfl) ?_
              refine cg_X11_10 hC hH dX11_event_60 ?_
              obtain ⟨r_23, u_24, h_25, hF⟩ := anl_some hF
              refine ccV_vB (q0 := 1) (As := []) (rest := []) hC hH (n_X1_openEntry l G Z Q _ T u_20 u_24 r_23 _ h_25) rfl rfl ⟨wkc_X1_openEntry, wka193, wka443, wka444, wka745⟩ kVX1_openEntry ⟨Nat.le_of_ble_eq_true rfl, Nat.le_of_ble_eq_true rfl⟩ ⟨by show _ ≤ K1; omega, by show _ ≤ K2; omega⟩ rfl hl.1 rfl (Nat.le_of_ble_eq_true rfl) dX11_event_63 (fun D H locs hH => ?_)
              refine lv_aload_n hx hb dX11_event_66 rfl (lv_at hl 0 rfl) ?_
              refine cg_X11_60 hC hH dX11_event_67 ?_
              refine lv_iload_n hx hb dX11_event_70 rfl (lv_at hl 1 rfl) ?_
              refine lv_iload_n hx hb dX11_event_71 rfl (lv_at hl 2 rfl) ?_
              refine lv_iload_n hx hb dX11_event_72 rfl (lv_at hl 3 rfl) ?_
              obtain ⟨r_26, u_27, k_29, k_30, k_31, k_32, h_28, hF, e_33, e_34⟩ := acl_some hF
              refine ccV_vA (q0 := 7) (As := [.int a0, .int a1, .int a2]) (rest := []) hC hH (n_X3_giveSign l G Z Q _ T u_24 u_27 r_26 k_29 k_30 a0 a1 a2 _ h_28) rfl rfl ⟨wkc_X3_giveSign, wka299, wka493, wka494, wka747⟩ kVX3_giveSign ⟨Nat.le_of_ble_eq_true rfl, Nat.le_of_ble_eq_true rfl⟩ ⟨by show _ ≤ K1; omega, by show _ ≤ K2; omega⟩ rfl hl.1 rfl (Nat.le_of_ble_eq_true rfl) dX11_event_73 (fun D H locs hH => ?_)
              have hk1 := (hk1.trans (congrArg (_ + ·) e_33)).trans (Nat.add_assoc _ _ _).symm
              have hk2 := (hk2.trans (congrArg (_ + ·) e_34)).trans (Nat.add_assoc _ _ _).symm
              refine lv_aload_n hx hb dX11_event_76 rfl (lv_at hl 0 rfl) ?_
              refine cg_X11_60 hC hH dX11_event_77 ?_
              refine lv_aload_n hx hb dX11_event_80 rfl (lv_at hl 0 rfl) ?_
              obtain ⟨L_34, u_36, h_37, hF⟩ := anl_some hF
              obtain ⟨e_38, rfl⟩ := nLW_eq h_37
              refine ccLN (rest := [.ref (Q 7)]) hC hH hTd ((congrFun hLN _).trans e_38) wka205 ⟨Nat.le_of_ble_eq_true rfl, Nat.le_of_ble_eq_true rfl⟩ hl.1 (Nat.le_of_ble_eq_true rfl) ⟨by show _ ≤ K1; omega, by show _ ≤ K2; omega⟩ dX11_event_81 (fun la_34 lq_34 hL_34 => ?_)
              refine lv_iload_n hx hb dX11_event_84 rfl (lv_at hl 1 rfl) ?_
              obtain ⟨r_39, u_40, k_42, k_43, k_44, k_45, h_41, hF, e_46, e_47⟩ := acl_some hF
              refine ccV_iA (q0 := 7) (As := [.ref la_34, .int a0]) (rest := []) hC hH (n_X3_ask l G Z Q _ T la_34 lq_34 L_34 hL_34 u_27 u_40 r_39 k_42 k_43 a0 _ h_41) rfl rfl ⟨wkc_X3_ask, wka302, wka497, wka498, wka747⟩ kVX3_ask ⟨Nat.le_of_ble_eq_true rfl, Nat.le_of_ble_eq_true rfl⟩ ⟨by show _ ≤ K1; omega, by show _ ≤ K2; omega⟩ rfl hl.1 rfl (Nat.le_of_ble_eq_true rfl) dX11_event_85 (fun D H locs hH => ?_)
              have hk1 := (hk1.trans (congrArg (_ + ·) e_46)).trans (Nat.add_assoc _ _ _).symm
              have hk2 := (hk2.trans (congrArg (_ + ·) e_47)).trans (Nat.add_assoc _ _ _).symm
              refine lv_istore (lv' := [(4, .int r_39), (0, .ref (Q 0)), (1, .int a0), (2, .int a1), (3, .int a2)]) hx hb dX11_event_88 hl (by decide) rfl (fun ls hl => ?_)
              refine lv_aload_n hx hb dX11_event_90 rfl (lv_at hl 1 rfl) ?_
              refine cg_X11_51 hC hH dX11_event_91 ?_
              refine lv_aload_n hx hb dX11_event_94 rfl (lv_at hl 1 rfl) ?_
              refine cg_X11_60 hC hH dX11_event_95 ?_
              refine lv_iload_n hx hb dX11_event_98 rfl (lv_at hl 2 rfl) ?_
              obtain ⟨r_48, u_49, h_50, hF⟩ := anl_some hF
              refine ccV_iB (q0 := 7) (As := [.int a0]) (rest := [.ref (Q 6)]) hC hH (n_X3_classOn l G Z Q _ T u_40 u_49 r_48 a0 _ h_50) rfl rfl ⟨wkc_X3_classOn, wka317, wka475, wka476, wka747⟩ kVX3_classOn ⟨Nat.le_of_ble_eq_true rfl, Nat.le_of_ble_eq_true rfl⟩ ⟨by show _ ≤ K1; omega, by show _ ≤ K2; omega⟩ rfl hl.1 rfl (Nat.le_of_ble_eq_true rfl) dX11_event_99 (fun D H locs hH => ?_)
              obtain ⟨r_51, u_52, h_53, hF⟩ := anl_some hF
              refine ccV_vB (q0 := 6) (As := [.int r_48]) (rest := []) hC hH (n_X0_settle l G Z Q _ T u_49 u_52 r_51 r_48 _ h_53) rfl rfl ⟨wkc_X0_settle, wka253, wka413, wka414, wka744⟩ kVX0_settle ⟨Nat.le_of_ble_eq_true rfl, Nat.le_of_ble_eq_true rfl⟩ ⟨by show _ ≤ K1; omega, by show _ ≤ K2; omega⟩ rfl hl.1 rfl (Nat.le_of_ble_eq_true rfl) dX11_event_102 (fun D H locs hH => ?_)
              refine lv_iload hx hb dX11_event_105 (lv_at hl 0 rfl) ?_
              exact cr_iA hC hH hr (art_eq hF) (by omega) (by omega) dX11_event_107 hlocks
            · rw [if_neg c_22] at hF
              refine lv_bipush (v := (-4)) hx hb dX11_event_56 (by decide) ?_
              exact cr_iA hC hH hr (art_eq hF) (by omega) (by omega) dX11_event_58 hlocks
          · rw [if_pos c_18] at hF
            refine lv_bipush (v := (-3)) hx hb dX11_event_43 (by decide) ?_
            exact cr_iA hC hH hr (art_eq hF) (by omega) (by omega) dX11_event_45 hlocks
        · rw [if_neg c_14] at hF
          refine lv_bipush (v := (-2)) hx hb dX11_event_29 (by decide) ?_
          exact cr_iA hC hH hr (art_eq hF) (by omega) (by omega) dX11_event_31 hlocks
def x_X11_tick (LN : MS → MS) (a0 : Int32) (a1 : Int32) : AG Int32 := anl (x_X11_isMat a0) (fun r_1 => (if r_1 = 0 then art (-2) else (if a1 < 1 then art (-2) else (if a1 ≤ 9999 then anl (x_X3_goesOn a0) (fun r_7 => (if r_7 = 0 then art (-3) else anl (x_X1_ofMat a0 2) (fun r_11 => anl (nGT 0 2088 r_11) (fun x_14 => (if a1 ≤ x_14 then anl (x_X1_isFull) (fun r_19 => (if r_19 = 0 then anl (x_X1_openEntry) (fun r_23 => acl (x_X3_letPass a0 a1) (fun r_26 => anl (nLW LN) (fun L_34 => acl (x_X3_ask L_34 a0) (fun r_39 => anl (nLW LN) (fun L_47 => acl (x_X3_turnOver L_47 a0) (fun r_52 => anl (x_X3_classOn a0) (fun r_61 => anl (x_X0_settle r_61) (fun r_64 => art r_39)))))))) else art (-4))) else art (-2)))))) else art (-2)))))
set_option maxHeartbeats 4000000 in
set_option maxRecDepth 100000 in
theorem n_X11_tick (l : Launch) (G : gG) (Z : gC) (Q : Nat → Nat) (D : Nat × Nat) (T : va_W) (P : Nat × (Nat → Nat) × MS) (LW : List (Nat × (Nat → Nat) × MS)) (hTd : toldAt G (Z.1.1 1000) T Q P LW) (u u1 : MS) (r : Int32) (C1 C2 : Nat) (a0 : Int32) (a1 : Int32) (sz : Nat) (hF : x_X11_tick (fun u => (lnw P LW u).2.2) a0 a1 u = some (r, u1, C1, C2)) : Met l yX11_tick (Cond.code yX11_tick cX11_tick 4 (some .int) :: wK) { frames := 7, cells := C1, slots := C2, locals := 180 } (va_Pc [.ref (Q 0), .int a0, .int a1] (cPM G Z Q D T u sz)) (cQi G Q T u1 r (va_A (cW G Q D T u) sz)) C1 C2 (va_A (cW G Q D T u) sz) := by
  refine Met.ofW (cc := cX11_tick) (maxL := 4) (ret := (some .int)) (by decide) rfl ?_
  intro p e s m args below meth c s₁ B hml hv
  obtain ⟨rfl, rfl, hP, hB, hD0, hE⟩ := hv
  have hr := B.returns
  have hlocks := B.notSynchronized
  have hts := atoms_spec (ws := Cond.code yX11_tick cX11_tick 4 (some .int) :: wK) B.pre
  have hD := hD0.self (sz := s.heap.size)
  have hA : ∀ q : Nat, s.heap.size ≤ q → va_A (cW G Q D T u) s.heap.size q := fun q h => Or.inr h
  generalize va_A (cW G Q D T u) s.heap.size = A at hD hA hE ⊢
  have hC : cX p c cX11_tick 4 s m _ RX11 G Z A := ⟨B.exec, B.bytes, hml, findClass_of_methodNamed B.named, fun w h => hts w (List.mem_cons_of_mem _ h), hB, hE, hA⟩
  have hx := hC.1
  have hb := hC.2.1
  have hH : cH G Q D T A u s s.heap [] := ⟨hP, hD, va_S.rf⟩
  generalize hK1 : C1 = K1
  generalize hK2 : C2 = K2
  have hk1 : K1 = 0 + C1 := by omega
  have hk2 : K2 = 0 + C2 := by omega
  have hl := lv_entry ([.ref (Q 0), .int a0, .int a1]) (n := 4) (Nat.le_of_ble_eq_true rfl)
  rw [lg_entry_eq]
  generalize (lg_sl ([.ref (Q 0), .int a0, .int a1]) ++ List.replicate (4 - (lg_sl ([.ref (Q 0), .int a0, .int a1])).length) Slot.unset).toArray = ls at hl ⊢
  have hl : lv_has ls 4 [(0, .ref (Q 0)), (1, .int a0), (2, .int a1)] := hl
  unfold x_X11_tick at hF
  generalize hLN : (fun u => (lnw P LW u).2.2) = LN at hF
  refine lv_iload_n hx hb dX11_tick_0 rfl (lv_at hl 1 rfl) ?_
  obtain ⟨r_1, u_2, h_3, hF⟩ := anl_some hF
  refine ccS_iB (As := [.int a0]) (rest := []) hC hH (n_X11_isMat l G Z Q _ T u u_2 r_1 a0 _ h_3) ⟨wkc_X11_isMat, wka286, wka729, wka755⟩ kSX11_isMat ⟨Nat.le_of_ble_eq_true rfl, Nat.le_of_ble_eq_true rfl⟩ ⟨by show _ ≤ K1; omega, by show _ ≤ K2; omega⟩ rfl hl.1 rfl (Nat.le_of_ble_eq_true rfl) dX11_tick_1 (fun D H locs hH => ?_)
  refine lv_if_eq (tgt := 19) hx hb dX11_tick_4 (by decide) (fun c_4 => ?_) (fun c_4 => ?_)
  · rw [if_pos c_4] at hF
    refine lv_bipush (v := (-2)) hx hb dX11_tick_19 (by decide) ?_
    exact cr_iA hC hH hr (art_eq hF) (by omega) (by omega) dX11_tick_21 hlocks
  · rw [if_neg c_4] at hF
    refine lv_iload_n hx hb dX11_tick_7 rfl (lv_at hl 2 rfl) ?_
    refine lv_iconst (v := 1) hx hb dX11_tick_8 (by decide) ?_
    refine lv_icmp_lt (tgt := 19) hx hb dX11_tick_9 (by decide) (fun c_5 => ?_) (fun c_5 => ?_)
    · rw [if_pos c_5] at hF
      refine lv_bipush (v := (-2)) hx hb dX11_tick_19 (by decide) ?_
      exact cr_iA hC hH hr (art_eq hF) (by omega) (by omega) dX11_tick_21 hlocks
    · rw [if_neg c_5] at hF
      refine lv_iload_n hx hb dX11_tick_12 rfl (lv_at hl 2 rfl) ?_
      refine lv_sipush (v := 9999) hx hb dX11_tick_13 (by decide) ?_
      refine lv_icmp_le (tgt := 22) hx hb dX11_tick_16 (by decide) (fun c_6 => ?_) (fun c_6 => ?_)
      · rw [if_pos c_6] at hF
        refine lv_aload_n hx hb dX11_tick_22 rfl (lv_at hl 0 rfl) ?_
        refine cg_X11_60 hC hH dX11_tick_23 ?_
        refine lv_iload_n hx hb dX11_tick_26 rfl (lv_at hl 1 rfl) ?_
        obtain ⟨r_7, u_8, h_9, hF⟩ := anl_some hF
        refine ccV_iB (q0 := 7) (As := [.int a0]) (rest := []) hC hH (n_X3_goesOn l G Z Q _ T u_2 u_8 r_7 a0 _ h_9) rfl rfl ⟨wkc_X3_goesOn, wka298, wka479, wka480, wka747⟩ kVX3_goesOn ⟨Nat.le_of_ble_eq_true rfl, Nat.le_of_ble_eq_true rfl⟩ ⟨by show _ ≤ K1; omega, by show _ ≤ K2; omega⟩ rfl hl.1 rfl (Nat.le_of_ble_eq_true rfl) dX11_tick_27 (fun D H locs hH => ?_)
        refine lv_if_ne (tgt := 36) hx hb dX11_tick_30 (by decide) (fun c_10 => ?_) (fun c_10 => ?_)
        · rw [if_neg c_10] at hF
          refine lv_iload_n hx hb dX11_tick_36 rfl (lv_at hl 2 rfl) ?_
          refine lv_aload_n hx hb dX11_tick_37 rfl (lv_at hl 0 rfl) ?_
          refine cg_X11_10 hC hH dX11_tick_38 ?_
          refine lv_iload_n hx hb dX11_tick_41 rfl (lv_at hl 1 rfl) ?_
          refine lv_iconst (v := 2) hx hb dX11_tick_42 (by decide) ?_
          obtain ⟨r_11, u_12, h_13, hF⟩ := anl_some hF
          refine ccS_iB (As := [.int a0, .int 2]) (rest := [.ref (Q 1), .int a1]) hC hH (n_X1_ofMat l G Z Q _ T u_8 u_12 r_11 a0 2 _ h_13) ⟨wkc_X1_ofMat, wka318, wka438, wka745⟩ kSX1_ofMat ⟨Nat.le_of_ble_eq_true rfl, Nat.le_of_ble_eq_true rfl⟩ ⟨by show _ ≤ K1; omega, by show _ ≤ K2; omega⟩ rfl hl.1 rfl (Nat.le_of_ble_eq_true rfl) dX11_tick_43 (fun D H locs hH => ?_)
          refine bat (i := 1) (j := 11) hC hH rfl rfl (by decide) wka197 ⟨Nat.le_of_ble_eq_true rfl, Nat.le_of_ble_eq_true rfl⟩ hl.1 (Nat.le_of_ble_eq_true rfl) ⟨by show _ ≤ K1; omega, by show _ ≤ K2; omega⟩ dX11_tick_46 ?_
          obtain ⟨x_14, u_15, h_16, hF⟩ := anl_some hF
          obtain ⟨e_17, rfl⟩ := nGT_eq h_16
          refine gx_ti e_17 ?_
          refine lv_icmp_le (tgt := 55) hx hb dX11_tick_49 (by decide) (fun c_18 => ?_) (fun c_18 => ?_)
          · rw [if_pos c_18] at hF
            refine lv_aload_n hx hb dX11_tick_55 rfl (lv_at hl 0 rfl) ?_
            refine cg_X11_10 hC hH dX11_tick_56 ?_
            obtain ⟨r_19, u_20, h_21, hF⟩ := anl_some hF
            refine ccV_iB (q0 := 1) (As := []) (rest := []) hC hH (n_X1_isFull l G Z Q _ T u_12 u_20 r_19 _ h_21) rfl rfl ⟨wkc_X1_isFull, wka192, wka441, wka442, wka745⟩ kVX1_isFull ⟨Nat.le_of_ble_eq_true rfl, Nat.le_of_ble_eq_true rfl⟩ ⟨by show _ ≤ K1; omega, by show _ ≤ K2; omega⟩ rfl hl.1 rfl (Nat.le_of_ble_eq_true rfl) dX11_tick_59 (fun D H locs hH => ?_)
            refine lv_if_eq (tgt := 68) hx hb dX11_tick_62 (by decide) (fun c_22 => ?_) (fun c_22 => ?_)
            · rw [if_pos c_22] at hF
              refine lv_aload_n hx hb dX11_tick_68 rfl (lv_at hl 0 rfl) ?_
              refine cg_X11_10 hC hH dX11_tick_69 ?_
              obtain ⟨r_23, u_24, h_25, hF⟩ := anl_some hF
              refine ccV_vB (q0 := 1) (As := []) (rest := []) hC hH (n_X1_openEntry l G Z Q _ T u_20 u_24 r_23 _ h_25) rfl rfl ⟨wkc_X1_openEntry, wka193, wka443, wka444, wka745⟩ kVX1_openEntry ⟨Nat.le_of_ble_eq_true rfl, Nat.le_of_ble_eq_true rfl⟩ ⟨by show _ ≤ K1; omega, by show _ ≤ K2; omega⟩ rfl hl.1 rfl (Nat.le_of_ble_eq_true rfl) dX11_tick_72 (fun D H locs hH => ?_)
              refine lv_aload_n hx hb dX11_tick_75 rfl (lv_at hl 0 rfl) ?_
              refine cg_X11_60 hC hH dX11_tick_76 ?_
              refine lv_iload_n hx hb dX11_tick_79 rfl (lv_at hl 1 rfl) ?_
              refine lv_iload_n hx hb dX11_tick_80 rfl (lv_at hl 2 rfl) ?_
              obtain ⟨r_26, u_27, k_29, k_30, k_31, k_32, h_28, hF, e_33, e_34⟩ := acl_some hF
              refine ccV_vA (q0 := 7) (As := [.int a0, .int a1]) (rest := []) hC hH (n_X3_letPass l G Z Q _ T u_24 u_27 r_26 k_29 k_30 a0 a1 _ h_28) rfl rfl ⟨wkc_X3_letPass, wka319, wka495, wka496, wka747⟩ kVX3_letPass ⟨Nat.le_of_ble_eq_true rfl, Nat.le_of_ble_eq_true rfl⟩ ⟨by show _ ≤ K1; omega, by show _ ≤ K2; omega⟩ rfl hl.1 rfl (Nat.le_of_ble_eq_true rfl) dX11_tick_81 (fun D H locs hH => ?_)
              have hk1 := (hk1.trans (congrArg (_ + ·) e_33)).trans (Nat.add_assoc _ _ _).symm
              have hk2 := (hk2.trans (congrArg (_ + ·) e_34)).trans (Nat.add_assoc _ _ _).symm
              refine lv_aload_n hx hb dX11_tick_84 rfl (lv_at hl 0 rfl) ?_
              refine cg_X11_60 hC hH dX11_tick_85 ?_
              refine lv_aload_n hx hb dX11_tick_88 rfl (lv_at hl 0 rfl) ?_
              obtain ⟨L_34, u_36, h_37, hF⟩ := anl_some hF
              obtain ⟨e_38, rfl⟩ := nLW_eq h_37
              refine ccLN (rest := [.ref (Q 7)]) hC hH hTd ((congrFun hLN _).trans e_38) wka205 ⟨Nat.le_of_ble_eq_true rfl, Nat.le_of_ble_eq_true rfl⟩ hl.1 (Nat.le_of_ble_eq_true rfl) ⟨by show _ ≤ K1; omega, by show _ ≤ K2; omega⟩ dX11_tick_89 (fun la_34 lq_34 hL_34 => ?_)
              refine lv_iload_n hx hb dX11_tick_92 rfl (lv_at hl 1 rfl) ?_
              obtain ⟨r_39, u_40, k_42, k_43, k_44, k_45, h_41, hF, e_46, e_47⟩ := acl_some hF
              refine ccV_iA (q0 := 7) (As := [.ref la_34, .int a0]) (rest := []) hC hH (n_X3_ask l G Z Q _ T la_34 lq_34 L_34 hL_34 u_27 u_40 r_39 k_42 k_43 a0 _ h_41) rfl rfl ⟨wkc_X3_ask, wka302, wka497, wka498, wka747⟩ kVX3_ask ⟨Nat.le_of_ble_eq_true rfl, Nat.le_of_ble_eq_true rfl⟩ ⟨by show _ ≤ K1; omega, by show _ ≤ K2; omega⟩ rfl hl.1 rfl (Nat.le_of_ble_eq_true rfl) dX11_tick_93 (fun D H locs hH => ?_)
              have hk1 := (hk1.trans (congrArg (_ + ·) e_46)).trans (Nat.add_assoc _ _ _).symm
              have hk2 := (hk2.trans (congrArg (_ + ·) e_47)).trans (Nat.add_assoc _ _ _).symm
              refine lv_istore_n (lv' := [(3, .int r_39), (0, .ref (Q 0)), (1, .int a0), (2, .int a1)]) hx hb dX11_tick_96 rfl hl (by decide) rfl (fun ls hl => ?_)
              refine lv_aload_n hx hb dX11_tick_97 rfl (lv_at hl 1 rfl) ?_
              refine cg_X11_60 hC hH dX11_tick_98 ?_
              refine lv_aload_n hx hb dX11_tick_101 rfl (lv_at hl 1 rfl) ?_
              obtain ⟨L_47, u_49, h_50, hF⟩ := anl_some hF
              obtain ⟨e_51, rfl⟩ := nLW_eq h_50
              refine ccLN (rest := [.ref (Q 7)]) hC hH hTd ((congrFun hLN _).trans e_51) wka205 ⟨Nat.le_of_ble_eq_true rfl, Nat.le_of_ble_eq_true rfl⟩ hl.1 (Nat.le_of_ble_eq_true rfl) ⟨by show _ ≤ K1; omega, by show _ ≤ K2; omega⟩ dX11_tick_102 (fun la_47 lq_47 hL_47 => ?_)
              refine lv_iload_n hx hb dX11_tick_105 rfl (lv_at hl 2 rfl) ?_
              obtain ⟨r_52, u_53, k_55, k_56, k_57, k_58, h_54, hF, e_59, e_60⟩ := acl_some hF
              refine ccV_vA (q0 := 7) (As := [.ref la_47, .int a0]) (rest := []) hC hH (n_X3_turnOver l G Z Q _ T la_47 lq_47 L_47 hL_47 u_40 u_53 r_52 k_55 k_56 a0 _ h_54) rfl rfl ⟨wkc_X3_turnOver, wka296, wka491, wka492, wka747⟩ kVX3_turnOver ⟨Nat.le_of_ble_eq_true rfl, Nat.le_of_ble_eq_true rfl⟩ ⟨by show _ ≤ K1; omega, by show _ ≤ K2; omega⟩ rfl hl.1 rfl (Nat.le_of_ble_eq_true rfl) dX11_tick_106 (fun D H locs hH => ?_)
              have hk1 := (hk1.trans (congrArg (_ + ·) e_59)).trans (Nat.add_assoc _ _ _).symm
              have hk2 := (hk2.trans (congrArg (_ + ·) e_60)).trans (Nat.add_assoc _ _ _).symm
              refine lv_aload_n hx hb dX11_tick_109 rfl (lv_at hl 1 rfl) ?_
              refine cg_X11_51 hC hH dX11_tick_110 ?_
              refine lv_aload_n hx hb dX11_tick_113 rfl (lv_at hl 1 rfl) ?_
              refine cg_X11_60 hC hH dX11_tick_114 ?_
              refine lv_iload_n hx hb dX11_tick_117 rfl (lv_at hl 2 rfl) ?_
              obtain ⟨r_61, u_62, h_63, hF⟩ := anl_some hF
              refine ccV_iB (q0 := 7) (As := [.int a0]) (rest := [.ref (Q 6)]) hC hH (n_X3_classOn l G Z Q _ T u_53 u_62 r_61 a0 _ h_63) rfl rfl ⟨wkc_X3_classOn, wka317, wka475, wka476, wka747⟩ kVX3_classOn ⟨Nat.le_of_ble_eq_true rfl, Nat.le_of_ble_eq_true rfl⟩ ⟨by show _ ≤ K1; omega, by show _ ≤ K2; omega⟩ rfl hl.1 rfl (Nat.le_of_ble_eq_true rfl) dX11_tick_118 (fun D H locs hH => ?_)
              obtain ⟨r_64, u_65, h_66, hF⟩ := anl_some hF
              refine ccV_vB (q0 := 6) (As := [.int r_61]) (rest := []) hC hH (n_X0_settle l G Z Q _ T u_62 u_65 r_64 r_61 _ h_66) rfl rfl ⟨wkc_X0_settle, wka253, wka413, wka414, wka744⟩ kVX0_settle ⟨Nat.le_of_ble_eq_true rfl, Nat.le_of_ble_eq_true rfl⟩ ⟨by show _ ≤ K1; omega, by show _ ≤ K2; omega⟩ rfl hl.1 rfl (Nat.le_of_ble_eq_true rfl) dX11_tick_121 (fun D H locs hH => ?_)
              refine lv_iload_n hx hb dX11_tick_124 rfl (lv_at hl 0 rfl) ?_
              exact cr_iA hC hH hr (art_eq hF) (by omega) (by omega) dX11_tick_125 hlocks
            · rw [if_neg c_22] at hF
              refine lv_bipush (v := (-4)) hx hb dX11_tick_65 (by decide) ?_
              exact cr_iA hC hH hr (art_eq hF) (by omega) (by omega) dX11_tick_67 hlocks
          · rw [if_neg c_18] at hF
            refine lv_bipush (v := (-2)) hx hb dX11_tick_52 (by decide) ?_
            exact cr_iA hC hH hr (art_eq hF) (by omega) (by omega) dX11_tick_54 hlocks
        · rw [if_pos c_10] at hF
          refine lv_bipush (v := (-3)) hx hb dX11_tick_33 (by decide) ?_
          exact cr_iA hC hH hr (art_eq hF) (by omega) (by omega) dX11_tick_35 hlocks
      · rw [if_neg c_6] at hF
        refine lv_bipush (v := (-2)) hx hb dX11_tick_19 (by decide) ?_
        exact cr_iA hC hH hr (art_eq hF) (by omega) (by omega) dX11_tick_21 hlocks
end
section
def wo_k_Laws_init : List Cond := [.methodLink RX4 1 objectInit, .instanceMethod objectInit, .code objectInit ⟨#[0xb1]⟩ 1 none, .classLink RX4 7 RX9, .instantiable RX9 1, .initialized RX9, .methodLink RX4 11 yX9_init, .instanceMethod yX9_init, .fieldLink RX4 14 "JudoHall$Laws" "code" "LJudoHall$Row;", .fieldLink RX4 18 "JudoHall$Laws" "ends" "LJudoHall$Row;", .fieldLink RX4 21 "JudoHall$Laws" "points" "LJudoHall$Row;"]
def wq_k_Laws_init : List Cond := .code yX4_init cX4_init 1 none :: (wo_k_Laws_init ++ (wsX90 ++ (wq_c_Row_init ++ (wsX40 ++ []))))
theorem gd_k_Laws_init : ∀ w ∈ wq_k_Laws_init, Gd w := List.forall_mem_cons.mpr ⟨Or.inl rfl, List.forall_mem_append.mpr ⟨gdl wo_k_Laws_init (by decide +kernel), (List.forall_mem_append.mpr ⟨gd_wsX90, (List.forall_mem_append.mpr ⟨gd_c_Row_init, (List.forall_mem_append.mpr ⟨gd_wsX40, (fun _ h => absurd h List.not_mem_nil)⟩)⟩)⟩)⟩⟩
theorem in_k_Laws_init : ∀ w ∈ wq_k_Laws_init, w ∈ lw_tbl := List.forall_mem_cons.mpr ⟨List.mem_of_getElem? (i := 288) (by decide +kernel), List.forall_mem_append.mpr ⟨inT2 wo_k_Laws_init [(1, 136), (1, 36), (1, 37), (1, 137), (1, 45), (1, 3), (1, 138), (1, 47), (1, 156), (1, 157), (1, 159)] (by decide +kernel), (List.forall_mem_append.mpr ⟨in_wsX90, (List.forall_mem_append.mpr ⟨in_c_Row_init, (List.forall_mem_append.mpr ⟨in_wsX40, (fun _ h => absurd h List.not_mem_nil)⟩)⟩)⟩)⟩⟩
set_option maxHeartbeats 4000000 in
set_option maxRecDepth 100000 in
theorem k_Laws_init (l : Launch) (G : gG) (h0 : Nat) (sz : Nat) : Met l yX4_init wq_k_Laws_init ({ frames := 2, cells := 6, slots := 343, locals := 45 }) (va_Pc [.ref h0] (mP G [(h0, .inr (5, [.int 0, .int 0, .int 0, .int 0, .int 0, .int 0, .null, .null, .null]))] sz)) (va_Qv (fun _ : Unit => True) (fun (_ : Unit) (t : State) => ∃ (hc : Nat) (ac : Nat) (he : Nat) (ae : Nat) (ho : Nat) (ao : Nat), va_P (gD G) vwCl [(h0, .inr (5, [.int 0, .int 0, .int 0, .int 0, .int 0, .int 0, .ref hc, .ref he, .ref ho])), (hc, .inr (10, [.ref ac])), (ac, .inl (gI G, 300, .inl (fl 300 0 (fun _ => 0)))), (he, .inr (10, [.ref ae])), (ae, .inl (gI G, 20, .inl (fl 20 0 (fun _ => 0)))), (ho, .inr (10, [.ref ao])), (ao, .inl (gI G, 20, .inl (fl 20 0 (fun _ => 0))))] t.heap ∧ va_D (va_A [(h0, .inr (5, [.int 0, .int 0, .int 0, .int 0, .int 0, .int 0, .null, .null, .null]))] sz) [(h0, .inr (5, [.int 0, .int 0, .int 0, .int 0, .int 0, .int 0, .ref hc, .ref he, .ref ho])), (hc, .inr (10, [.ref ac])), (ac, .inl (gI G, 300, .inl (fl 300 0 (fun _ => 0)))), (he, .inr (10, [.ref ae])), (ae, .inl (gI G, 20, .inl (fl 20 0 (fun _ => 0)))), (ho, .inr (10, [.ref ao])), (ao, .inl (gI G, 20, .inl (fl 20 0 (fun _ => 0))))]) (va_A [(h0, .inr (5, [.int 0, .int 0, .int 0, .int 0, .int 0, .int 0, .null, .null, .null]))] sz)) 6 343 (va_A [(h0, .inr (5, [.int 0, .int 0, .int 0, .int 0, .int 0, .int 0, .null, .null, .null]))] sz) := by
  refine Met.ofW (cc := cX4_init) (maxL := 1) (ret := none) (by decide) rfl ?_
  intro p e s m args below meth c s₁ B hml hv
  obtain ⟨rfl, hsz, hP, hB, hD0⟩ := hv
  have hx := B.exec
  have hb := B.bytes
  have hr := B.returns
  have hts := atoms_spec (ws := wq_k_Laws_init) B.pre
  have hown : s.vm.findClass RX4 = some m.cls := findClass_of_methodNamed B.named
  have hlocks := B.notSynchronized
  have hK := hB.1
  have hin : meth.name = "<init>" := (name_of_methodNamed B.named B.method).1
  subst hsz
  have hD := hD0.self (sz := s.heap.size)
  generalize hAe : va_A [(h0, .inr (5, [.int 0, .int 0, .int 0, .int 0, .int 0, .int 0, .null, .null, .null]))] s.heap.size = A at hD ⊢
  have hA : ∀ q : Nat, s.heap.size ≤ q → A q := fun q h => by rw [← hAe]; exact Or.inr h
  have hS : va_S A s.heap s.heap [] := va_S.rf
  have hP : va_P (gD G) vwCl [(h0, .inr (5, [.int 0, .int 0, .int 0, .int 0, .int 0, .int 0, .null, .null, .null]))] s.heap := hP
  have hD : va_D A [(h0, .inr (5, [.int 0, .int 0, .int 0, .int 0, .int 0, .int 0, .null, .null, .null]))] := hD
  have hl := lv_entry ([.ref h0]) (n := 1) (Nat.le_of_ble_eq_true rfl)
  rw [lg_entry_eq]
  generalize (lg_sl ([.ref h0]) ++ List.replicate (1 - (lg_sl ([.ref h0])).length) Slot.unset).toArray = ls at hl ⊢
  have hl : lv_has ls 1 [(0, .ref h0)] := hl
  refine lv_aload_n hx hb dX4_init_0 rfl (lv_at hl 0 rfl) ?_
  refine W.objInit hx hb hown (hts (.methodLink RX4 1 objectInit) (List.mem_cons_of_mem _ (List.mem_append_left _ (List.mem_of_getElem? (i := 0) rfl)))) (hts (.instanceMethod objectInit) (List.mem_cons_of_mem _ (List.mem_append_left _ (List.mem_of_getElem? (i := 1) rfl)))) (hts _ (List.mem_cons_of_mem _ (List.mem_append_left _ (List.mem_of_getElem? (i := 2) rfl)))) rfl (by rw [hml]; exact hl.1) rfl dX4_init_1 (Nat.le_of_ble_eq_true rfl) (Nat.le_of_ble_eq_true rfl) ?_
  refine W.eq (g2 := F0 m 4 ls []) rfl ?_
  refine lv_aload_n hx hb dX4_init_4 rfl (lv_at hl 0 rfl) ?_
  refine va_new (D := gD G) (ci := 10) (fs := [.null]) (C := RX9) (T := TX9) (N := 1) hx hb hts (fun _ h9 => (List.mem_cons_of_mem _ (List.mem_append_right _ (List.mem_append_left _ h9)))) tyX9 tyX9_ok hown (hts (.classLink RX4 7 RX9) (List.mem_cons_of_mem _ (List.mem_append_left _ (List.mem_of_getElem? (i := 3) rfl)))) (hts (.instantiable RX9 1) (List.mem_cons_of_mem _ (List.mem_append_left _ (List.mem_of_getElem? (i := 4) rfl)))) (hts (.initialized RX9) (List.mem_cons_of_mem _ (List.mem_append_left _ (List.mem_of_getElem? (i := 5) rfl)))) hK hP hD hS hA rfl dvX9 (Nat.le_of_ble_eq_true rfl) (Nat.le_of_ble_eq_true rfl) dX4_init_5 (fun q_1 H hP hD hS => ?_)
  have hP : va_P (gD G) vwCl [(h0, .inr (5, [.int 0, .int 0, .int 0, .int 0, .int 0, .int 0, .null, .null, .null])), (q_1, .inr (10, [.null]))] H := hP
  have hD : va_D A [(h0, .inr (5, [.int 0, .int 0, .int 0, .int 0, .int 0, .int 0, .null, .null, .null])), (q_1, .inr (10, [.null]))] := hD
  refine lv_dup hx hb dX4_init_8 rfl ?_
  refine lv_sipush (v := 300) hx hb dX4_init_9 (by decide) ?_
  refine lv_iconst (v := 0) hx hb dX4_init_12 (by decide) ?_
  have hPc := hP.sub (ws' := [(q_1, .inr (10, [.null]))]) [1] rfl
  have hDc := hD.sub (ws' := [(q_1, .inr (10, [.null]))]) [1] (by decide) rfl
  have hFc := va_free (wc := [(q_1, .inr (10, [.null]))]) hD hS hA [1] rfl
  refine va_callv (va_runI (As := [.int 300, .int 0]) (rest := [.ref q_1, .ref h0]) ⟨hx, hb, hml, hown, hts⟩ (c_Row_init l G q_1 300 0 H.size (by decide)) (cwI 2 hts (fun w9 h9 => ⟨(List.mem_cons_of_mem _ (List.mem_append_right _ (List.mem_append_right _ (List.mem_append_left _ h9)))), gd_c_Row_init w9 h9⟩) rfl rfl rfl (hts (.initialized RX9) (List.mem_cons_of_mem _ (List.mem_append_left _ (List.mem_of_getElem? (i := 5) rfl)))) (hts (.methodLink RX4 11 yX9_init) (List.mem_cons_of_mem _ (List.mem_append_left _ (List.mem_of_getElem? (i := 6) rfl)))) (hts (.instanceMethod yX9_init) (List.mem_cons_of_mem _ (List.mem_append_left _ (List.mem_of_getElem? (i := 7) rfl)))) rfl kSX9_init ⟨Nat.le_of_ble_eq_true rfl, Nat.le_of_ble_eq_true rfl⟩) (preS_m (As := [.ref q_1, .int 300, .int 0]) hPc hB hDc) rfl rfl hl.1 rfl (lv_room (Nat.le_of_ble_eq_true rfl)) dX4_init_13 ⟨Nat.le_of_ble_eq_true rfl, Nat.le_of_ble_eq_true rfl⟩) hS (fun q _ h => hFc q h) hFc (fun u t H1 locs ht hvm hw hB1 hz1 hk1 hS => ?_)
  obtain ⟨q_3, hP1, hD1⟩ := hB1
  rw [ht] at hP1
  obtain ⟨hP, hD⟩ := va_join (wr := [(h0, .inr (5, [.int 0, .int 0, .int 0, .int 0, .int 0, .int 0, .null, .null, .null]))]) (w1 := [(q_1, .inr (10, [.ref q_3])), (q_3, .inl (gI G, 300, .inl (fl 300 0 (fun _ => 0))))]) hP hD [1] [0] rfl rfl (by decide) (by decide) hk1 hFc hP1 hD1
  generalize H1 = H at hP hS ⊢
  have hP : va_P (gD G) vwCl [(h0, .inr (5, [.int 0, .int 0, .int 0, .int 0, .int 0, .int 0, .null, .null, .null])), (q_1, .inr (10, [.ref q_3])), (q_3, .inl (gI G, 300, .inl (fl 300 0 (fun _ => 0))))] H := hP
  have hD : va_D A [(h0, .inr (5, [.int 0, .int 0, .int 0, .int 0, .int 0, .int 0, .null, .null, .null])), (q_1, .inr (10, [.ref q_3])), (q_3, .inl (gI G, 300, .inl (fl 300 0 (fun _ => 0))))] := hD
  refine W.eq (g2 := F0 m 16 ls [.ref q_1, .ref h0]) rfl ?_
  refine va_putF (D := gD G) (ci := 5) (v := .ref q_1) (ty := tyX4 6) (C := RX4) (T := TX4) (N := 9) hx hb hts (fun _ h9 => (List.mem_cons_of_mem _ (List.mem_append_right _ (List.mem_append_right _ (List.mem_append_right _ (List.mem_append_left _ h9)))))) tyX4 tyX4_ok nmX4 hown hK hP hD hS 0 rfl rfl 6 (by decide) (hts (.fieldLink RX4 14 "JudoHall$Laws" "code" "LJudoHall$Row;") (List.mem_cons_of_mem _ (List.mem_append_left _ (List.mem_of_getElem? (i := 8) rfl)))) (fun _ h9 => h9) rfl hin rfl (tyX4_ok 6 (by decide)) rfl rfl (Nat.le_of_ble_eq_true rfl) dX4_init_16 (fun H locs hP hD hS => ?_)
  have hP : va_P (gD G) vwCl [(h0, .inr (5, [.int 0, .int 0, .int 0, .int 0, .int 0, .int 0, .ref q_1, .null, .null])), (q_1, .inr (10, [.ref q_3])), (q_3, .inl (gI G, 300, .inl (fl 300 0 (fun _ => 0))))] H := hP
  have hD : va_D A [(h0, .inr (5, [.int 0, .int 0, .int 0, .int 0, .int 0, .int 0, .ref q_1, .null, .null])), (q_1, .inr (10, [.ref q_3])), (q_3, .inl (gI G, 300, .inl (fl 300 0 (fun _ => 0))))] := hD
  refine lv_aload_n hx hb dX4_init_19 rfl (lv_at hl 0 rfl) ?_
  refine va_new (D := gD G) (ci := 10) (fs := [.null]) (C := RX9) (T := TX9) (N := 1) hx hb hts (fun _ h9 => (List.mem_cons_of_mem _ (List.mem_append_right _ (List.mem_append_left _ h9)))) tyX9 tyX9_ok hown (hts (.classLink RX4 7 RX9) (List.mem_cons_of_mem _ (List.mem_append_left _ (List.mem_of_getElem? (i := 3) rfl)))) (hts (.instantiable RX9 1) (List.mem_cons_of_mem _ (List.mem_append_left _ (List.mem_of_getElem? (i := 4) rfl)))) (hts (.initialized RX9) (List.mem_cons_of_mem _ (List.mem_append_left _ (List.mem_of_getElem? (i := 5) rfl)))) hK hP hD hS hA rfl dvX9 (Nat.le_of_ble_eq_true rfl) (Nat.le_of_ble_eq_true rfl) dX4_init_20 (fun q_4 H hP hD hS => ?_)
  have hP : va_P (gD G) vwCl [(h0, .inr (5, [.int 0, .int 0, .int 0, .int 0, .int 0, .int 0, .ref q_1, .null, .null])), (q_1, .inr (10, [.ref q_3])), (q_3, .inl (gI G, 300, .inl (fl 300 0 (fun _ => 0)))), (q_4, .inr (10, [.null]))] H := hP
  have hD : va_D A [(h0, .inr (5, [.int 0, .int 0, .int 0, .int 0, .int 0, .int 0, .ref q_1, .null, .null])), (q_1, .inr (10, [.ref q_3])), (q_3, .inl (gI G, 300, .inl (fl 300 0 (fun _ => 0)))), (q_4, .inr (10, [.null]))] := hD
  refine lv_dup hx hb dX4_init_23 rfl ?_
  refine lv_bipush (v := 20) hx hb dX4_init_24 (by decide) ?_
  refine lv_iconst (v := 0) hx hb dX4_init_26 (by decide) ?_
  have hPc := hP.sub (ws' := [(q_4, .inr (10, [.null]))]) [3] rfl
  have hDc := hD.sub (ws' := [(q_4, .inr (10, [.null]))]) [3] (by decide) rfl
  have hFc := va_free (wc := [(q_4, .inr (10, [.null]))]) hD hS hA [3] rfl
  refine va_callv (va_runI (As := [.int 20, .int 0]) (rest := [.ref q_4, .ref h0]) ⟨hx, hb, hml, hown, hts⟩ (c_Row_init l G q_4 20 0 H.size (by decide)) (cwI 2 hts (fun w9 h9 => ⟨(List.mem_cons_of_mem _ (List.mem_append_right _ (List.mem_append_right _ (List.mem_append_left _ h9)))), gd_c_Row_init w9 h9⟩) rfl rfl rfl (hts (.initialized RX9) (List.mem_cons_of_mem _ (List.mem_append_left _ (List.mem_of_getElem? (i := 5) rfl)))) (hts (.methodLink RX4 11 yX9_init) (List.mem_cons_of_mem _ (List.mem_append_left _ (List.mem_of_getElem? (i := 6) rfl)))) (hts (.instanceMethod yX9_init) (List.mem_cons_of_mem _ (List.mem_append_left _ (List.mem_of_getElem? (i := 7) rfl)))) rfl kSX9_init ⟨Nat.le_of_ble_eq_true rfl, Nat.le_of_ble_eq_true rfl⟩) (preS_m (As := [.ref q_4, .int 20, .int 0]) hPc hB hDc) rfl rfl hl.1 rfl (lv_room (Nat.le_of_ble_eq_true rfl)) dX4_init_27 ⟨Nat.le_of_ble_eq_true rfl, Nat.le_of_ble_eq_true rfl⟩) hS (fun q _ h => hFc q h) hFc (fun u t H1 locs ht hvm hw hB1 hz1 hk1 hS => ?_)
  obtain ⟨q_6, hP1, hD1⟩ := hB1
  rw [ht] at hP1
  obtain ⟨hP, hD⟩ := va_join (wr := [(h0, .inr (5, [.int 0, .int 0, .int 0, .int 0, .int 0, .int 0, .ref q_1, .null, .null])), (q_1, .inr (10, [.ref q_3])), (q_3, .inl (gI G, 300, .inl (fl 300 0 (fun _ => 0))))]) (w1 := [(q_4, .inr (10, [.ref q_6])), (q_6, .inl (gI G, 20, .inl (fl 20 0 (fun _ => 0))))]) hP hD [3] [0, 1, 2] rfl rfl (by decide) (by decide) hk1 hFc hP1 hD1
  generalize H1 = H at hP hS ⊢
  have hP : va_P (gD G) vwCl [(h0, .inr (5, [.int 0, .int 0, .int 0, .int 0, .int 0, .int 0, .ref q_1, .null, .null])), (q_1, .inr (10, [.ref q_3])), (q_3, .inl (gI G, 300, .inl (fl 300 0 (fun _ => 0)))), (q_4, .inr (10, [.ref q_6])), (q_6, .inl (gI G, 20, .inl (fl 20 0 (fun _ => 0))))] H := hP
  have hD : va_D A [(h0, .inr (5, [.int 0, .int 0, .int 0, .int 0, .int 0, .int 0, .ref q_1, .null, .null])), (q_1, .inr (10, [.ref q_3])), (q_3, .inl (gI G, 300, .inl (fl 300 0 (fun _ => 0)))), (q_4, .inr (10, [.ref q_6])), (q_6, .inl (gI G, 20, .inl (fl 20 0 (fun _ => 0))))] := hD
  refine W.eq (g2 := F0 m 30 ls [.ref q_4, .ref h0]) rfl ?_
  refine va_putF (D := gD G) (ci := 5) (v := .ref q_4) (ty := tyX4 7) (C := RX4) (T := TX4) (N := 9) hx hb hts (fun _ h9 => (List.mem_cons_of_mem _ (List.mem_append_right _ (List.mem_append_right _ (List.mem_append_right _ (List.mem_append_left _ h9)))))) tyX4 tyX4_ok nmX4 hown hK hP hD hS 0 rfl rfl 7 (by decide) (hts (.fieldLink RX4 18 "JudoHall$Laws" "ends" "LJudoHall$Row;") (List.mem_cons_of_mem _ (List.mem_append_left _ (List.mem_of_getElem? (i := 9) rfl)))) (fun _ h9 => h9) rfl hin rfl (tyX4_ok 7 (by decide)) rfl rfl (Nat.le_of_ble_eq_true rfl) dX4_init_30 (fun H locs hP hD hS => ?_)
  have hP : va_P (gD G) vwCl [(h0, .inr (5, [.int 0, .int 0, .int 0, .int 0, .int 0, .int 0, .ref q_1, .ref q_4, .null])), (q_1, .inr (10, [.ref q_3])), (q_3, .inl (gI G, 300, .inl (fl 300 0 (fun _ => 0)))), (q_4, .inr (10, [.ref q_6])), (q_6, .inl (gI G, 20, .inl (fl 20 0 (fun _ => 0))))] H := hP
  have hD : va_D A [(h0, .inr (5, [.int 0, .int 0, .int 0, .int 0, .int 0, .int 0, .ref q_1, .ref q_4, .null])), (q_1, .inr (10, [.ref q_3])), (q_3, .inl (gI G, 300, .inl (fl 300 0 (fun _ => 0)))), (q_4, .inr (10, [.ref q_6])), (q_6, .inl (gI G, 20, .inl (fl 20 0 (fun _ => 0))))] := hD
  refine lv_aload_n hx hb dX4_init_33 rfl (lv_at hl 0 rfl) ?_
  refine va_new (D := gD G) (ci := 10) (fs := [.null]) (C := RX9) (T := TX9) (N := 1) hx hb hts (fun _ h9 => (List.mem_cons_of_mem _ (List.mem_append_right _ (List.mem_append_left _ h9)))) tyX9 tyX9_ok hown (hts (.classLink RX4 7 RX9) (List.mem_cons_of_mem _ (List.mem_append_left _ (List.mem_of_getElem? (i := 3) rfl)))) (hts (.instantiable RX9 1) (List.mem_cons_of_mem _ (List.mem_append_left _ (List.mem_of_getElem? (i := 4) rfl)))) (hts (.initialized RX9) (List.mem_cons_of_mem _ (List.mem_append_left _ (List.mem_of_getElem? (i := 5) rfl)))) hK hP hD hS hA rfl dvX9 (Nat.le_of_ble_eq_true rfl) (Nat.le_of_ble_eq_true rfl) dX4_init_34 (fun q_7 H hP hD hS => ?_)
  have hP : va_P (gD G) vwCl [(h0, .inr (5, [.int 0, .int 0, .int 0, .int 0, .int 0, .int 0, .ref q_1, .ref q_4, .null])), (q_1, .inr (10, [.ref q_3])), (q_3, .inl (gI G, 300, .inl (fl 300 0 (fun _ => 0)))), (q_4, .inr (10, [.ref q_6])), (q_6, .inl (gI G, 20, .inl (fl 20 0 (fun _ => 0)))), (q_7, .inr (10, [.null]))] H := hP
  have hD : va_D A [(h0, .inr (5, [.int 0, .int 0, .int 0, .int 0, .int 0, .int 0, .ref q_1, .ref q_4, .null])), (q_1, .inr (10, [.ref q_3])), (q_3, .inl (gI G, 300, .inl (fl 300 0 (fun _ => 0)))), (q_4, .inr (10, [.ref q_6])), (q_6, .inl (gI G, 20, .inl (fl 20 0 (fun _ => 0)))), (q_7, .inr (10, [.null]))] := hD
  refine lv_dup hx hb dX4_init_37 rfl ?_
  refine lv_bipush (v := 20) hx hb dX4_init_38 (by decide) ?_
  refine lv_iconst (v := 0) hx hb dX4_init_40 (by decide) ?_
  have hPc := hP.sub (ws' := [(q_7, .inr (10, [.null]))]) [5] rfl
  have hDc := hD.sub (ws' := [(q_7, .inr (10, [.null]))]) [5] (by decide) rfl
  have hFc := va_free (wc := [(q_7, .inr (10, [.null]))]) hD hS hA [5] rfl
  refine va_callv (va_runI (As := [.int 20, .int 0]) (rest := [.ref q_7, .ref h0]) ⟨hx, hb, hml, hown, hts⟩ (c_Row_init l G q_7 20 0 H.size (by decide)) (cwI 2 hts (fun w9 h9 => ⟨(List.mem_cons_of_mem _ (List.mem_append_right _ (List.mem_append_right _ (List.mem_append_left _ h9)))), gd_c_Row_init w9 h9⟩) rfl rfl rfl (hts (.initialized RX9) (List.mem_cons_of_mem _ (List.mem_append_left _ (List.mem_of_getElem? (i := 5) rfl)))) (hts (.methodLink RX4 11 yX9_init) (List.mem_cons_of_mem _ (List.mem_append_left _ (List.mem_of_getElem? (i := 6) rfl)))) (hts (.instanceMethod yX9_init) (List.mem_cons_of_mem _ (List.mem_append_left _ (List.mem_of_getElem? (i := 7) rfl)))) rfl kSX9_init ⟨Nat.le_of_ble_eq_true rfl, Nat.le_of_ble_eq_true rfl⟩) (preS_m (As := [.ref q_7, .int 20, .int 0]) hPc hB hDc) rfl rfl hl.1 rfl (lv_room (Nat.le_of_ble_eq_true rfl)) dX4_init_41 ⟨Nat.le_of_ble_eq_true rfl, Nat.le_of_ble_eq_true rfl⟩) hS (fun q _ h => hFc q h) hFc (fun u t H1 locs ht hvm hw hB1 hz1 hk1 hS => ?_)
  obtain ⟨q_9, hP1, hD1⟩ := hB1
  rw [ht] at hP1
  obtain ⟨hP, hD⟩ := va_join (wr := [(h0, .inr (5, [.int 0, .int 0, .int 0, .int 0, .int 0, .int 0, .ref q_1, .ref q_4, .null])), (q_1, .inr (10, [.ref q_3])), (q_3, .inl (gI G, 300, .inl (fl 300 0 (fun _ => 0)))), (q_4, .inr (10, [.ref q_6])), (q_6, .inl (gI G, 20, .inl (fl 20 0 (fun _ => 0))))]) (w1 := [(q_7, .inr (10, [.ref q_9])), (q_9, .inl (gI G, 20, .inl (fl 20 0 (fun _ => 0))))]) hP hD [5] [0, 1, 2, 3, 4] rfl rfl (by decide) (by decide) hk1 hFc hP1 hD1
  generalize H1 = H at hP hS ⊢
  have hP : va_P (gD G) vwCl [(h0, .inr (5, [.int 0, .int 0, .int 0, .int 0, .int 0, .int 0, .ref q_1, .ref q_4, .null])), (q_1, .inr (10, [.ref q_3])), (q_3, .inl (gI G, 300, .inl (fl 300 0 (fun _ => 0)))), (q_4, .inr (10, [.ref q_6])), (q_6, .inl (gI G, 20, .inl (fl 20 0 (fun _ => 0)))), (q_7, .inr (10, [.ref q_9])), (q_9, .inl (gI G, 20, .inl (fl 20 0 (fun _ => 0))))] H := hP
  have hD : va_D A [(h0, .inr (5, [.int 0, .int 0, .int 0, .int 0, .int 0, .int 0, .ref q_1, .ref q_4, .null])), (q_1, .inr (10, [.ref q_3])), (q_3, .inl (gI G, 300, .inl (fl 300 0 (fun _ => 0)))), (q_4, .inr (10, [.ref q_6])), (q_6, .inl (gI G, 20, .inl (fl 20 0 (fun _ => 0)))), (q_7, .inr (10, [.ref q_9])), (q_9, .inl (gI G, 20, .inl (fl 20 0 (fun _ => 0))))] := hD
  refine W.eq (g2 := F0 m 44 ls [.ref q_7, .ref h0]) rfl ?_
  refine va_putF (D := gD G) (ci := 5) (v := .ref q_7) (ty := tyX4 8) (C := RX4) (T := TX4) (N := 9) hx hb hts (fun _ h9 => (List.mem_cons_of_mem _ (List.mem_append_right _ (List.mem_append_right _ (List.mem_append_right _ (List.mem_append_left _ h9)))))) tyX4 tyX4_ok nmX4 hown hK hP hD hS 0 rfl rfl 8 (by decide) (hts (.fieldLink RX4 21 "JudoHall$Laws" "points" "LJudoHall$Row;") (List.mem_cons_of_mem _ (List.mem_append_left _ (List.mem_of_getElem? (i := 10) rfl)))) (fun _ h9 => h9) rfl hin rfl (tyX4_ok 8 (by decide)) rfl rfl (Nat.le_of_ble_eq_true rfl) dX4_init_44 (fun H locs hP hD hS => ?_)
  have hP : va_P (gD G) vwCl [(h0, .inr (5, [.int 0, .int 0, .int 0, .int 0, .int 0, .int 0, .ref q_1, .ref q_4, .ref q_7])), (q_1, .inr (10, [.ref q_3])), (q_3, .inl (gI G, 300, .inl (fl 300 0 (fun _ => 0)))), (q_4, .inr (10, [.ref q_6])), (q_6, .inl (gI G, 20, .inl (fl 20 0 (fun _ => 0)))), (q_7, .inr (10, [.ref q_9])), (q_9, .inl (gI G, 20, .inl (fl 20 0 (fun _ => 0))))] H := hP
  have hD : va_D A [(h0, .inr (5, [.int 0, .int 0, .int 0, .int 0, .int 0, .int 0, .ref q_1, .ref q_4, .ref q_7])), (q_1, .inr (10, [.ref q_3])), (q_3, .inl (gI G, 300, .inl (fl 300 0 (fun _ => 0)))), (q_4, .inr (10, [.ref q_6])), (q_6, .inl (gI G, 20, .inl (fl 20 0 (fun _ => 0)))), (q_7, .inr (10, [.ref q_9])), (q_9, .inl (gI G, 20, .inl (fl 20 0 (fun _ => 0))))] := hD
  have hP9 := hP.sub (ws' := [(h0, .inr (5, [.int 0, .int 0, .int 0, .int 0, .int 0, .int 0, .ref q_1, .ref q_4, .ref q_7])), (q_1, .inr (10, [.ref q_3])), (q_3, .inl (gI G, 300, .inl (fl 300 0 (fun _ => 0)))), (q_4, .inr (10, [.ref q_6])), (q_6, .inl (gI G, 20, .inl (fl 20 0 (fun _ => 0)))), (q_7, .inr (10, [.ref q_9])), (q_9, .inl (gI G, 20, .inl (fl 20 0 (fun _ => 0))))]) [0, 1, 2, 3, 4, 5, 6] rfl
  have hD9 := hD.sub (ws' := [(h0, .inr (5, [.int 0, .int 0, .int 0, .int 0, .int 0, .int 0, .ref q_1, .ref q_4, .ref q_7])), (q_1, .inr (10, [.ref q_3])), (q_3, .inl (gI G, 300, .inl (fl 300 0 (fun _ => 0)))), (q_4, .inr (10, [.ref q_6])), (q_6, .inl (gI G, 20, .inl (fl 20 0 (fun _ => 0)))), (q_7, .inr (10, [.ref q_9])), (q_9, .inl (gI G, 20, .inl (fl 20 0 (fun _ => 0))))]) [0, 1, 2, 3, 4, 5, 6] (by decide) rfl
  exact W.vret hx hb hr (fun t ht hW => ⟨⟨(), rfl, trivial, q_1, q_3, q_4, q_6, q_7, q_9, by rw [ht]; exact hP9, hD9⟩, hS.F ht⟩) hS.2.2 dX4_init_47

def wo_k_ArrL_init : List Cond := [.methodLink RJx4a65c 1 yJxc12de_init_da8c8, .instanceMethod yJxc12de_init_da8c8, .initialized RJxc12de, .fieldLink RJx4a65c 39 "java/util/ArrayList" "DEFAULTCAPACITY_EMPTY_ELEMENTDATA" "[Ljava/lang/Object;", .fieldLink RJx4a65c 9 "java/util/ArrayList" "elementData" "[Ljava/lang/Object;"]
def wq_k_ArrL_init : List Cond := .code yJx4a65c_init_da8c8 cJx4a65c_init_da8c8 1 none :: (wo_k_ArrL_init ++ (wq_c_AList_init ++ (wsJx4a65c0 ++ [])))
theorem gd_k_ArrL_init : ∀ w ∈ wq_k_ArrL_init, Gd w := List.forall_mem_cons.mpr ⟨Or.inl rfl, List.forall_mem_append.mpr ⟨gdl wo_k_ArrL_init (by decide +kernel), (List.forall_mem_append.mpr ⟨gd_c_AList_init, (List.forall_mem_append.mpr ⟨gd_wsJx4a65c0, (fun _ h => absurd h List.not_mem_nil)⟩)⟩)⟩⟩
theorem in_k_ArrL_init : ∀ w ∈ wq_k_ArrL_init, w ∈ lw_tbl := List.forall_mem_cons.mpr ⟨List.mem_of_getElem? (i := 533) (by decide +kernel), List.forall_mem_append.mpr ⟨inT2 wo_k_ArrL_init [(2, 141), (2, 142), (1, 16), (2, 148), (2, 150)] (by decide +kernel), (List.forall_mem_append.mpr ⟨in_c_AList_init, (List.forall_mem_append.mpr ⟨in_wsJx4a65c0, (fun _ h => absurd h List.not_mem_nil)⟩)⟩)⟩⟩
set_option maxHeartbeats 4000000 in
set_option maxRecDepth 100000 in
theorem k_ArrL_init (l : Launch) (G : gG) (Z : gS) (h0 : Nat) (sz : Nat) : Met l yJx4a65c_init_da8c8 wq_k_ArrL_init ({ frames := 3, cells := 0, slots := 0, locals := 52 }) (va_Pc [.ref h0] (eP G Z [(h0, .inr (0, [.int 0, .null, .int 0]))] sz)) (va_Qv (fun _ : Unit => True) (fun (_ : Unit) (t : State) => va_P (gD G) vwCl [(h0, .inr (0, [.int 0, .ref Z.1, .int 0]))] t.heap ∧ va_D (va_A [(h0, .inr (0, [.int 0, .null, .int 0]))] sz) [(h0, .inr (0, [.int 0, .ref Z.1, .int 0]))]) (va_A [(h0, .inr (0, [.int 0, .null, .int 0]))] sz)) 0 0 (va_A [(h0, .inr (0, [.int 0, .null, .int 0]))] sz) := by
  refine Met.ofW (cc := cJx4a65c_init_da8c8) (maxL := 1) (ret := none) (by decide) rfl ?_
  intro p e s m args below meth c s₁ B hml hv
  obtain ⟨rfl, ⟨hsz, hP, hB, hD0⟩, hE⟩ := hv
  have hx := B.exec
  have hb := B.bytes
  have hr := B.returns
  have hts := atoms_spec (ws := wq_k_ArrL_init) B.pre
  have hown : s.vm.findClass RJx4a65c = some m.cls := findClass_of_methodNamed B.named
  have hlocks := B.notSynchronized
  have hK := hB.1
  have hin : meth.name = "<init>" := (name_of_methodNamed B.named B.method).1
  subst hsz
  have hD := hD0.self (sz := s.heap.size)
  generalize hAe : va_A [(h0, .inr (0, [.int 0, .null, .int 0]))] s.heap.size = A at hD hE ⊢
  have hA : ∀ q : Nat, s.heap.size ≤ q → A q := fun q h => by rw [← hAe]; exact Or.inr h
  have hS : va_S A s.heap s.heap [] := va_S.rf
  have hP : va_P (gD G) vwCl [(h0, .inr (0, [.int 0, .null, .int 0]))] s.heap := hP
  have hD : va_D A [(h0, .inr (0, [.int 0, .null, .int 0]))] := hD
  have hl := lv_entry ([.ref h0]) (n := 1) (Nat.le_of_ble_eq_true rfl)
  rw [lg_entry_eq]
  generalize (lg_sl ([.ref h0]) ++ List.replicate (1 - (lg_sl ([.ref h0])).length) Slot.unset).toArray = ls at hl ⊢
  have hl : lv_has ls 1 [(0, .ref h0)] := hl
  refine lv_aload_n hx hb dJx4a65c_init_da8c8_0 rfl (lv_at hl 0 rfl) ?_
  have hPc := hP.sub (ws' := [(h0, .inr (0, [.int 0, .null, .int 0]))]) [0] rfl
  have hDc := hD.sub (ws' := [(h0, .inr (0, [.int 0, .null, .int 0]))]) [0] (by decide) rfl
  have hFc := va_free (wc := [(h0, .inr (0, [.int 0, .null, .int 0]))]) hD hS hA [0] rfl
  refine va_callv (va_runI (As := []) (rest := []) ⟨hx, hb, hml, hown, hts⟩ (c_AList_init l G h0 s.heap.size) (cwI 0 hts (fun w9 h9 => ⟨(List.mem_cons_of_mem _ (List.mem_append_right _ (List.mem_append_left _ h9))), gd_c_AList_init w9 h9⟩) rfl rfl rfl (hts (.initialized RJxc12de) (List.mem_cons_of_mem _ (List.mem_append_left _ (List.mem_of_getElem? (i := 2) rfl)))) (hts (.methodLink RJx4a65c 1 yJxc12de_init_da8c8) (List.mem_cons_of_mem _ (List.mem_append_left _ (List.mem_of_getElem? (i := 0) rfl)))) (hts (.instanceMethod yJxc12de_init_da8c8) (List.mem_cons_of_mem _ (List.mem_append_left _ (List.mem_of_getElem? (i := 1) rfl)))) rfl kSJxc12de_init_da8c8 ⟨Nat.le_of_ble_eq_true rfl, Nat.le_of_ble_eq_true rfl⟩) (preS_m (As := [.ref h0]) hPc hB hDc) rfl rfl hl.1 rfl (lv_room (Nat.le_of_ble_eq_true rfl)) dJx4a65c_init_da8c8_1 ⟨Nat.le_of_ble_eq_true rfl, Nat.le_of_ble_eq_true rfl⟩) hS (fun q _ h => hFc q h) hFc (fun u t H1 locs ht hvm hw hB1 hz1 hk1 hS => ?_)
  obtain ⟨hP1, hD1⟩ := hB1
  rw [ht] at hP1
  obtain ⟨hP, hD⟩ := va_join (wr := []) (w1 := [(h0, .inr (0, [.int 0, .null, .int 0]))]) hP hD [0] [] rfl rfl (by decide) (by decide) hk1 hFc hP1 hD1
  generalize H1 = H at hP hS ⊢
  have hP : va_P (gD G) vwCl [(h0, .inr (0, [.int 0, .null, .int 0]))] H := hP
  have hD : va_D A [(h0, .inr (0, [.int 0, .null, .int 0]))] := hD
  refine W.eq (g2 := F0 m 4 ls []) rfl ?_
  refine lv_aload_n hx hb dJx4a65c_init_da8c8_4 rfl (lv_at hl 0 rfl) ?_
  refine va_gets hx hb hE.1 hS hown (hts (.fieldLink RJx4a65c 39 "java/util/ArrayList" "DEFAULTCAPACITY_EMPTY_ELEMENTDATA" "[Ljava/lang/Object;") (List.mem_cons_of_mem _ (List.mem_append_left _ (List.mem_of_getElem? (i := 3) rfl)))) (fun _ h9 => h9) dJx4a65c_init_da8c8_5 ?_
  refine va_put (D := gD G) (ci := 0) (v := .ref Z.1) (ty := tyJx4a65c 1) (C := RJx4a65c) (T := TJx4a65c) (N := 3) hx hb hts (fun _ h9 => (List.mem_cons_of_mem _ (List.mem_append_right _ (List.mem_append_right _ (List.mem_append_left _ h9))))) tyJx4a65c tyJx4a65c_ok nmJx4a65c hown hK hP hD hS 0 rfl rfl 1 (by decide) (hts (.fieldLink RJx4a65c 9 "java/util/ArrayList" "elementData" "[Ljava/lang/Object;") (List.mem_cons_of_mem _ (List.mem_append_left _ (List.mem_of_getElem? (i := 4) rfl)))) (fun _ h9 => h9) rfl (tyJx4a65c_ok 1 (by decide)) rfl rfl (Nat.le_of_ble_eq_true rfl) dJx4a65c_init_da8c8_8 (fun H locs hP hD hS => ?_)
  have hP : va_P (gD G) vwCl [(h0, .inr (0, [.int 0, .ref Z.1, .int 0]))] H := hP
  have hD : va_D A [(h0, .inr (0, [.int 0, .ref Z.1, .int 0]))] := hD
  have hP9 := hP.sub (ws' := [(h0, .inr (0, [.int 0, .ref Z.1, .int 0]))]) [0] rfl
  have hD9 := hD.sub (ws' := [(h0, .inr (0, [.int 0, .ref Z.1, .int 0]))]) [0] (by decide) rfl
  exact W.vret hx hb hr (fun t ht hW => ⟨⟨(), rfl, trivial, by rw [ht]; exact hP9, hD9⟩, hS.F ht⟩) hS.2.2 dJx4a65c_init_da8c8_11

def wo_k_Parser_init : List Cond := [.methodLink RX5 3 objectInit, .instanceMethod objectInit, .code objectInit ⟨#[0xb1]⟩ 1 none, .fieldLink RX5 9 "JudoHall$Parser" "tape" "LJudoHall$Tape;", .classLink RX5 15 RX9, .instantiable RX9 1, .initialized RX9, .methodLink RX5 19 yX9_init, .instanceMethod yX9_init, .fieldLink RX5 22 "JudoHall$Parser" "nameFrom" "LJudoHall$Row;", .fieldLink RX5 26 "JudoHall$Parser" "nameSize" "LJudoHall$Row;", .fieldLink RX5 29 "JudoHall$Parser" "works" "LJudoHall$Row;", .classLink RX5 17 RX4, .instantiable RX4 9, .initialized RX4, .methodLink RX5 32 yX4_init, .instanceMethod yX4_init, .fieldLink RX5 33 "JudoHall$Parser" "draft" "LJudoHall$Laws;", .fieldLink RX5 37 "JudoHall$Parser" "place" "I"]
def wq_k_Parser_init : List Cond := .code yX5_init cX5_init 2 none :: (wo_k_Parser_init ++ (wsX50 ++ (wsX90 ++ (wq_c_Row_init ++ (wsX40 ++ (wq_k_Laws_init ++ []))))))
theorem gd_k_Parser_init : ∀ w ∈ wq_k_Parser_init, Gd w := List.forall_mem_cons.mpr ⟨Or.inl rfl, List.forall_mem_append.mpr ⟨gdl wo_k_Parser_init (by decide +kernel), (List.forall_mem_append.mpr ⟨gd_wsX50, (List.forall_mem_append.mpr ⟨gd_wsX90, (List.forall_mem_append.mpr ⟨gd_c_Row_init, (List.forall_mem_append.mpr ⟨gd_wsX40, (List.forall_mem_append.mpr ⟨gd_k_Laws_init, (fun _ h => absurd h List.not_mem_nil)⟩)⟩)⟩)⟩)⟩)⟩⟩
theorem in_k_Parser_init : ∀ w ∈ wq_k_Parser_init, w ∈ lw_tbl := List.forall_mem_cons.mpr ⟨List.mem_of_getElem? (i := 280) (by decide +kernel), List.forall_mem_append.mpr ⟨inT2 wo_k_Parser_init [(1, 128), (1, 36), (1, 37), (1, 181), (1, 129), (1, 45), (1, 3), (1, 130), (1, 47), (1, 182), (1, 183), (1, 184), (1, 131), (1, 132), (1, 8), (1, 133), (1, 134), (1, 185), (1, 189)] (by decide +kernel), (List.forall_mem_append.mpr ⟨in_wsX50, (List.forall_mem_append.mpr ⟨in_wsX90, (List.forall_mem_append.mpr ⟨in_c_Row_init, (List.forall_mem_append.mpr ⟨in_wsX40, (List.forall_mem_append.mpr ⟨in_k_Laws_init, (fun _ h => absurd h List.not_mem_nil)⟩)⟩)⟩)⟩)⟩)⟩⟩
set_option maxHeartbeats 4000000 in
set_option maxRecDepth 100000 in
theorem k_Parser_init (l : Launch) (G : gG) (h0 : Nat) (tp : Nat) (sz : Nat) : Met l yX5_init wq_k_Parser_init ({ frames := 3, cells := 13, slots := 435, locals := 65 }) (va_Pc [.ref h0, .ref tp] (mP G [(h0, .inr (6, [.null, .null, .null, .null, .null, .int 0, .int 0, .int 0, .int 0, .int 0, .int 0, .int 0, .int 0, .int 0]))] sz)) (va_Qv (fun _ : Unit => True) (fun (_ : Unit) (t : State) => ∃ (n1 : Nat) (n2 : Nat) (n3 : Nat) (n4 : Nat) (w1 : Nat) (w2 : Nat) (hw : Nat) (hc : Nat) (ac : Nat) (he : Nat) (ae : Nat) (ho : Nat) (ao : Nat), va_P (gD G) vwCl [(h0, .inr (6, [.ref tp, .ref n1, .ref n3, .ref w1, .ref hw, .int 0, .int 0, .int 0, .int (-1), .int 0, .int 0, .int 0, .int 0, .int 0])), (n1, .inr (10, [.ref n2])), (n2, .inl (gI G, 8, .inl (fl 8 0 (fun _ => 0)))), (n3, .inr (10, [.ref n4])), (n4, .inl (gI G, 8, .inl (fl 8 0 (fun _ => 0)))), (w1, .inr (10, [.ref w2])), (w2, .inl (gI G, 64, .inl (fl 64 0 (fun _ => 0)))), (hw, .inr (5, [.int 0, .int 0, .int 0, .int 0, .int 0, .int 0, .ref hc, .ref he, .ref ho])), (hc, .inr (10, [.ref ac])), (ac, .inl (gI G, 300, .inl (fl 300 0 (fun _ => 0)))), (he, .inr (10, [.ref ae])), (ae, .inl (gI G, 20, .inl (fl 20 0 (fun _ => 0)))), (ho, .inr (10, [.ref ao])), (ao, .inl (gI G, 20, .inl (fl 20 0 (fun _ => 0))))] t.heap ∧ va_D (va_A [(h0, .inr (6, [.null, .null, .null, .null, .null, .int 0, .int 0, .int 0, .int 0, .int 0, .int 0, .int 0, .int 0, .int 0]))] sz) [(h0, .inr (6, [.ref tp, .ref n1, .ref n3, .ref w1, .ref hw, .int 0, .int 0, .int 0, .int (-1), .int 0, .int 0, .int 0, .int 0, .int 0])), (n1, .inr (10, [.ref n2])), (n2, .inl (gI G, 8, .inl (fl 8 0 (fun _ => 0)))), (n3, .inr (10, [.ref n4])), (n4, .inl (gI G, 8, .inl (fl 8 0 (fun _ => 0)))), (w1, .inr (10, [.ref w2])), (w2, .inl (gI G, 64, .inl (fl 64 0 (fun _ => 0)))), (hw, .inr (5, [.int 0, .int 0, .int 0, .int 0, .int 0, .int 0, .ref hc, .ref he, .ref ho])), (hc, .inr (10, [.ref ac])), (ac, .inl (gI G, 300, .inl (fl 300 0 (fun _ => 0)))), (he, .inr (10, [.ref ae])), (ae, .inl (gI G, 20, .inl (fl 20 0 (fun _ => 0)))), (ho, .inr (10, [.ref ao])), (ao, .inl (gI G, 20, .inl (fl 20 0 (fun _ => 0))))]) (va_A [(h0, .inr (6, [.null, .null, .null, .null, .null, .int 0, .int 0, .int 0, .int 0, .int 0, .int 0, .int 0, .int 0, .int 0]))] sz)) 13 435 (va_A [(h0, .inr (6, [.null, .null, .null, .null, .null, .int 0, .int 0, .int 0, .int 0, .int 0, .int 0, .int 0, .int 0, .int 0]))] sz) := by
  refine Met.ofW (cc := cX5_init) (maxL := 2) (ret := none) (by decide) rfl ?_
  intro p e s m args below meth c s₁ B hml hv
  obtain ⟨rfl, hsz, hP, hB, hD0⟩ := hv
  have hx := B.exec
  have hb := B.bytes
  have hr := B.returns
  have hts := atoms_spec (ws := wq_k_Parser_init) B.pre
  have hown : s.vm.findClass RX5 = some m.cls := findClass_of_methodNamed B.named
  have hlocks := B.notSynchronized
  have hK := hB.1
  have hin : meth.name = "<init>" := (name_of_methodNamed B.named B.method).1
  subst hsz
  have hD := hD0.self (sz := s.heap.size)
  generalize hAe : va_A [(h0, .inr (6, [.null, .null, .null, .null, .null, .int 0, .int 0, .int 0, .int 0, .int 0, .int 0, .int 0, .int 0, .int 0]))] s.heap.size = A at hD ⊢
  have hA : ∀ q : Nat, s.heap.size ≤ q → A q := fun q h => by rw [← hAe]; exact Or.inr h
  have hS : va_S A s.heap s.heap [] := va_S.rf
  have hP : va_P (gD G) vwCl [(h0, .inr (6, [.null, .null, .null, .null, .null, .int 0, .int 0, .int 0, .int 0, .int 0, .int 0, .int 0, .int 0, .int 0]))] s.heap := hP
  have hD : va_D A [(h0, .inr (6, [.null, .null, .null, .null, .null, .int 0, .int 0, .int 0, .int 0, .int 0, .int 0, .int 0, .int 0, .int 0]))] := hD
  have hl := lv_entry ([.ref h0, .ref tp]) (n := 2) (Nat.le_of_ble_eq_true rfl)
  rw [lg_entry_eq]
  generalize (lg_sl ([.ref h0, .ref tp]) ++ List.replicate (2 - (lg_sl ([.ref h0, .ref tp])).length) Slot.unset).toArray = ls at hl ⊢
  have hl : lv_has ls 2 [(0, .ref h0), (1, .ref tp)] := hl
  refine lv_aload_n hx hb dX5_init_0 rfl (lv_at hl 0 rfl) ?_
  refine W.objInit hx hb hown (hts (.methodLink RX5 3 objectInit) (List.mem_cons_of_mem _ (List.mem_append_left _ (List.mem_of_getElem? (i := 0) rfl)))) (hts (.instanceMethod objectInit) (List.mem_cons_of_mem _ (List.mem_append_left _ (List.mem_of_getElem? (i := 1) rfl)))) (hts _ (List.mem_cons_of_mem _ (List.mem_append_left _ (List.mem_of_getElem? (i := 2) rfl)))) rfl (by rw [hml]; exact hl.1) rfl dX5_init_1 (Nat.le_of_ble_eq_true rfl) (Nat.le_of_ble_eq_true rfl) ?_
  refine W.eq (g2 := F0 m 4 ls []) rfl ?_
  refine lv_aload_n hx hb dX5_init_4 rfl (lv_at hl 0 rfl) ?_
  refine lv_aload_n hx hb dX5_init_5 rfl (lv_at hl 1 rfl) ?_
  refine va_putF (D := gD G) (ci := 6) (v := .ref tp) (ty := tyX5 0) (C := RX5) (T := TX5) (N := 14) hx hb hts (fun _ h9 => (List.mem_cons_of_mem _ (List.mem_append_right _ (List.mem_append_left _ h9)))) tyX5 tyX5_ok nmX5 hown hK hP hD hS 0 rfl rfl 0 (by decide) (hts (.fieldLink RX5 9 "JudoHall$Parser" "tape" "LJudoHall$Tape;") (List.mem_cons_of_mem _ (List.mem_append_left _ (List.mem_of_getElem? (i := 3) rfl)))) (fun _ h9 => h9) rfl hin rfl (tyX5_ok 0 (by decide)) rfl rfl (Nat.le_of_ble_eq_true rfl) dX5_init_6 (fun H locs hP hD hS => ?_)
  have hP : va_P (gD G) vwCl [(h0, .inr (6, [.ref tp, .null, .null, .null, .null, .int 0, .int 0, .int 0, .int 0, .int 0, .int 0, .int 0, .int 0, .int 0]))] H := hP
  have hD : va_D A [(h0, .inr (6, [.ref tp, .null, .null, .null, .null, .int 0, .int 0, .int 0, .int 0, .int 0, .int 0, .int 0, .int 0, .int 0]))] := hD
  refine lv_aload_n hx hb dX5_init_9 rfl (lv_at hl 0 rfl) ?_
  refine va_new (D := gD G) (ci := 10) (fs := [.null]) (C := RX9) (T := TX9) (N := 1) hx hb hts (fun _ h9 => (List.mem_cons_of_mem _ (List.mem_append_right _ (List.mem_append_right _ (List.mem_append_left _ h9))))) tyX9 tyX9_ok hown (hts (.classLink RX5 15 RX9) (List.mem_cons_of_mem _ (List.mem_append_left _ (List.mem_of_getElem? (i := 4) rfl)))) (hts (.instantiable RX9 1) (List.mem_cons_of_mem _ (List.mem_append_left _ (List.mem_of_getElem? (i := 5) rfl)))) (hts (.initialized RX9) (List.mem_cons_of_mem _ (List.mem_append_left _ (List.mem_of_getElem? (i := 6) rfl)))) hK hP hD hS hA rfl dvX9 (Nat.le_of_ble_eq_true rfl) (Nat.le_of_ble_eq_true rfl) dX5_init_10 (fun q_1 H hP hD hS => ?_)
  have hP : va_P (gD G) vwCl [(h0, .inr (6, [.ref tp, .null, .null, .null, .null, .int 0, .int 0, .int 0, .int 0, .int 0, .int 0, .int 0, .int 0, .int 0])), (q_1, .inr (10, [.null]))] H := hP
  have hD : va_D A [(h0, .inr (6, [.ref tp, .null, .null, .null, .null, .int 0, .int 0, .int 0, .int 0, .int 0, .int 0, .int 0, .int 0, .int 0])), (q_1, .inr (10, [.null]))] := hD
  refine lv_dup hx hb dX5_init_13 rfl ?_
  refine lv_bipush (v := 8) hx hb dX5_init_14 (by decide) ?_
  refine lv_iconst (v := 0) hx hb dX5_init_16 (by decide) ?_
  have hPc := hP.sub (ws' := [(q_1, .inr (10, [.null]))]) [1] rfl
  have hDc := hD.sub (ws' := [(q_1, .inr (10, [.null]))]) [1] (by decide) rfl
  have hFc := va_free (wc := [(q_1, .inr (10, [.null]))]) hD hS hA [1] rfl
  refine va_callv (va_runI (As := [.int 8, .int 0]) (rest := [.ref q_1, .ref h0]) ⟨hx, hb, hml, hown, hts⟩ (c_Row_init l G q_1 8 0 H.size (by decide)) (cwI 2 hts (fun w9 h9 => ⟨(List.mem_cons_of_mem _ (List.mem_append_right _ (List.mem_append_right _ (List.mem_append_right _ (List.mem_append_left _ h9))))), gd_c_Row_init w9 h9⟩) rfl rfl rfl (hts (.initialized RX9) (List.mem_cons_of_mem _ (List.mem_append_left _ (List.mem_of_getElem? (i := 6) rfl)))) (hts (.methodLink RX5 19 yX9_init) (List.mem_cons_of_mem _ (List.mem_append_left _ (List.mem_of_getElem? (i := 7) rfl)))) (hts (.instanceMethod yX9_init) (List.mem_cons_of_mem _ (List.mem_append_left _ (List.mem_of_getElem? (i := 8) rfl)))) rfl kSX9_init ⟨Nat.le_of_ble_eq_true rfl, Nat.le_of_ble_eq_true rfl⟩) (preS_m (As := [.ref q_1, .int 8, .int 0]) hPc hB hDc) rfl rfl hl.1 rfl (lv_room (Nat.le_of_ble_eq_true rfl)) dX5_init_17 ⟨Nat.le_of_ble_eq_true rfl, Nat.le_of_ble_eq_true rfl⟩) hS (fun q _ h => hFc q h) hFc (fun u t H1 locs ht hvm hw hB1 hz1 hk1 hS => ?_)
  obtain ⟨q_3, hP1, hD1⟩ := hB1
  rw [ht] at hP1
  obtain ⟨hP, hD⟩ := va_join (wr := [(h0, .inr (6, [.ref tp, .null, .null, .null, .null, .int 0, .int 0, .int 0, .int 0, .int 0, .int 0, .int 0, .int 0, .int 0]))]) (w1 := [(q_1, .inr (10, [.ref q_3])), (q_3, .inl (gI G, 8, .inl (fl 8 0 (fun _ => 0))))]) hP hD [1] [0] rfl rfl (by decide) (by decide) hk1 hFc hP1 hD1
  generalize H1 = H at hP hS ⊢
  have hP : va_P (gD G) vwCl [(h0, .inr (6, [.ref tp, .null, .null, .null, .null, .int 0, .int 0, .int 0, .int 0, .int 0, .int 0, .int 0, .int 0, .int 0])), (q_1, .inr (10, [.ref q_3])), (q_3, .inl (gI G, 8, .inl (fl 8 0 (fun _ => 0))))] H := hP
  have hD : va_D A [(h0, .inr (6, [.ref tp, .null, .null, .null, .null, .int 0, .int 0, .int 0, .int 0, .int 0, .int 0, .int 0, .int 0, .int 0])), (q_1, .inr (10, [.ref q_3])), (q_3, .inl (gI G, 8, .inl (fl 8 0 (fun _ => 0))))] := hD
  refine W.eq (g2 := F0 m 20 ls [.ref q_1, .ref h0]) rfl ?_
  refine va_putF (D := gD G) (ci := 6) (v := .ref q_1) (ty := tyX5 1) (C := RX5) (T := TX5) (N := 14) hx hb hts (fun _ h9 => (List.mem_cons_of_mem _ (List.mem_append_right _ (List.mem_append_left _ h9)))) tyX5 tyX5_ok nmX5 hown hK hP hD hS 0 rfl rfl 1 (by decide) (hts (.fieldLink RX5 22 "JudoHall$Parser" "nameFrom" "LJudoHall$Row;") (List.mem_cons_of_mem _ (List.mem_append_left _ (List.mem_of_getElem? (i := 9) rfl)))) (fun _ h9 => h9) rfl hin rfl (tyX5_ok 1 (by decide)) rfl rfl (Nat.le_of_ble_eq_true rfl) dX5_init_20 (fun H locs hP hD hS => ?_)
  have hP : va_P (gD G) vwCl [(h0, .inr (6, [.ref tp, .ref q_1, .null, .null, .null, .int 0, .int 0, .int 0, .int 0, .int 0, .int 0, .int 0, .int 0, .int 0])), (q_1, .inr (10, [.ref q_3])), (q_3, .inl (gI G, 8, .inl (fl 8 0 (fun _ => 0))))] H := hP
  have hD : va_D A [(h0, .inr (6, [.ref tp, .ref q_1, .null, .null, .null, .int 0, .int 0, .int 0, .int 0, .int 0, .int 0, .int 0, .int 0, .int 0])), (q_1, .inr (10, [.ref q_3])), (q_3, .inl (gI G, 8, .inl (fl 8 0 (fun _ => 0))))] := hD
  refine lv_aload_n hx hb dX5_init_23 rfl (lv_at hl 0 rfl) ?_
  refine va_new (D := gD G) (ci := 10) (fs := [.null]) (C := RX9) (T := TX9) (N := 1) hx hb hts (fun _ h9 => (List.mem_cons_of_mem _ (List.mem_append_right _ (List.mem_append_right _ (List.mem_append_left _ h9))))) tyX9 tyX9_ok hown (hts (.classLink RX5 15 RX9) (List.mem_cons_of_mem _ (List.mem_append_left _ (List.mem_of_getElem? (i := 4) rfl)))) (hts (.instantiable RX9 1) (List.mem_cons_of_mem _ (List.mem_append_left _ (List.mem_of_getElem? (i := 5) rfl)))) (hts (.initialized RX9) (List.mem_cons_of_mem _ (List.mem_append_left _ (List.mem_of_getElem? (i := 6) rfl)))) hK hP hD hS hA rfl dvX9 (Nat.le_of_ble_eq_true rfl) (Nat.le_of_ble_eq_true rfl) dX5_init_24 (fun q_4 H hP hD hS => ?_)
  have hP : va_P (gD G) vwCl [(h0, .inr (6, [.ref tp, .ref q_1, .null, .null, .null, .int 0, .int 0, .int 0, .int 0, .int 0, .int 0, .int 0, .int 0, .int 0])), (q_1, .inr (10, [.ref q_3])), (q_3, .inl (gI G, 8, .inl (fl 8 0 (fun _ => 0)))), (q_4, .inr (10, [.null]))] H := hP
  have hD : va_D A [(h0, .inr (6, [.ref tp, .ref q_1, .null, .null, .null, .int 0, .int 0, .int 0, .int 0, .int 0, .int 0, .int 0, .int 0, .int 0])), (q_1, .inr (10, [.ref q_3])), (q_3, .inl (gI G, 8, .inl (fl 8 0 (fun _ => 0)))), (q_4, .inr (10, [.null]))] := hD
  refine lv_dup hx hb dX5_init_27 rfl ?_
  refine lv_bipush (v := 8) hx hb dX5_init_28 (by decide) ?_
  refine lv_iconst (v := 0) hx hb dX5_init_30 (by decide) ?_
  have hPc := hP.sub (ws' := [(q_4, .inr (10, [.null]))]) [3] rfl
  have hDc := hD.sub (ws' := [(q_4, .inr (10, [.null]))]) [3] (by decide) rfl
  have hFc := va_free (wc := [(q_4, .inr (10, [.null]))]) hD hS hA [3] rfl
  refine va_callv (va_runI (As := [.int 8, .int 0]) (rest := [.ref q_4, .ref h0]) ⟨hx, hb, hml, hown, hts⟩ (c_Row_init l G q_4 8 0 H.size (by decide)) (cwI 2 hts (fun w9 h9 => ⟨(List.mem_cons_of_mem _ (List.mem_append_right _ (List.mem_append_right _ (List.mem_append_right _ (List.mem_append_left _ h9))))), gd_c_Row_init w9 h9⟩) rfl rfl rfl (hts (.initialized RX9) (List.mem_cons_of_mem _ (List.mem_append_left _ (List.mem_of_getElem? (i := 6) rfl)))) (hts (.methodLink RX5 19 yX9_init) (List.mem_cons_of_mem _ (List.mem_append_left _ (List.mem_of_getElem? (i := 7) rfl)))) (hts (.instanceMethod yX9_init) (List.mem_cons_of_mem _ (List.mem_append_left _ (List.mem_of_getElem? (i := 8) rfl)))) rfl kSX9_init ⟨Nat.le_of_ble_eq_true rfl, Nat.le_of_ble_eq_true rfl⟩) (preS_m (As := [.ref q_4, .int 8, .int 0]) hPc hB hDc) rfl rfl hl.1 rfl (lv_room (Nat.le_of_ble_eq_true rfl)) dX5_init_31 ⟨Nat.le_of_ble_eq_true rfl, Nat.le_of_ble_eq_true rfl⟩) hS (fun q _ h => hFc q h) hFc (fun u t H1 locs ht hvm hw hB1 hz1 hk1 hS => ?_)
  obtain ⟨q_6, hP1, hD1⟩ := hB1
  rw [ht] at hP1
  obtain ⟨hP, hD⟩ := va_join (wr := [(h0, .inr (6, [.ref tp, .ref q_1, .null, .null, .null, .int 0, .int 0, .int 0, .int 0, .int 0, .int 0, .int 0, .int 0, .int 0])), (q_1, .inr (10, [.ref q_3])), (q_3, .inl (gI G, 8, .inl (fl 8 0 (fun _ => 0))))]) (w1 := [(q_4, .inr (10, [.ref q_6])), (q_6, .inl (gI G, 8, .inl (fl 8 0 (fun _ => 0))))]) hP hD [3] [0, 1, 2] rfl rfl (by decide) (by decide) hk1 hFc hP1 hD1
  generalize H1 = H at hP hS ⊢
  have hP : va_P (gD G) vwCl [(h0, .inr (6, [.ref tp, .ref q_1, .null, .null, .null, .int 0, .int 0, .int 0, .int 0, .int 0, .int 0, .int 0, .int 0, .int 0])), (q_1, .inr (10, [.ref q_3])), (q_3, .inl (gI G, 8, .inl (fl 8 0 (fun _ => 0)))), (q_4, .inr (10, [.ref q_6])), (q_6, .inl (gI G, 8, .inl (fl 8 0 (fun _ => 0))))] H := hP
  have hD : va_D A [(h0, .inr (6, [.ref tp, .ref q_1, .null, .null, .null, .int 0, .int 0, .int 0, .int 0, .int 0, .int 0, .int 0, .int 0, .int 0])), (q_1, .inr (10, [.ref q_3])), (q_3, .inl (gI G, 8, .inl (fl 8 0 (fun _ => 0)))), (q_4, .inr (10, [.ref q_6])), (q_6, .inl (gI G, 8, .inl (fl 8 0 (fun _ => 0))))] := hD
  refine W.eq (g2 := F0 m 34 ls [.ref q_4, .ref h0]) rfl ?_
  refine va_putF (D := gD G) (ci := 6) (v := .ref q_4) (ty := tyX5 2) (C := RX5) (T := TX5) (N := 14) hx hb hts (fun _ h9 => (List.mem_cons_of_mem _ (List.mem_append_right _ (List.mem_append_left _ h9)))) tyX5 tyX5_ok nmX5 hown hK hP hD hS 0 rfl rfl 2 (by decide) (hts (.fieldLink RX5 26 "JudoHall$Parser" "nameSize" "LJudoHall$Row;") (List.mem_cons_of_mem _ (List.mem_append_left _ (List.mem_of_getElem? (i := 10) rfl)))) (fun _ h9 => h9) rfl hin rfl (tyX5_ok 2 (by decide)) rfl rfl (Nat.le_of_ble_eq_true rfl) dX5_init_34 (fun H locs hP hD hS => ?_)
  have hP : va_P (gD G) vwCl [(h0, .inr (6, [.ref tp, .ref q_1, .ref q_4, .null, .null, .int 0, .int 0, .int 0, .int 0, .int 0, .int 0, .int 0, .int 0, .int 0])), (q_1, .inr (10, [.ref q_3])), (q_3, .inl (gI G, 8, .inl (fl 8 0 (fun _ => 0)))), (q_4, .inr (10, [.ref q_6])), (q_6, .inl (gI G, 8, .inl (fl 8 0 (fun _ => 0))))] H := hP
  have hD : va_D A [(h0, .inr (6, [.ref tp, .ref q_1, .ref q_4, .null, .null, .int 0, .int 0, .int 0, .int 0, .int 0, .int 0, .int 0, .int 0, .int 0])), (q_1, .inr (10, [.ref q_3])), (q_3, .inl (gI G, 8, .inl (fl 8 0 (fun _ => 0)))), (q_4, .inr (10, [.ref q_6])), (q_6, .inl (gI G, 8, .inl (fl 8 0 (fun _ => 0))))] := hD
  refine lv_aload_n hx hb dX5_init_37 rfl (lv_at hl 0 rfl) ?_
  refine va_new (D := gD G) (ci := 10) (fs := [.null]) (C := RX9) (T := TX9) (N := 1) hx hb hts (fun _ h9 => (List.mem_cons_of_mem _ (List.mem_append_right _ (List.mem_append_right _ (List.mem_append_left _ h9))))) tyX9 tyX9_ok hown (hts (.classLink RX5 15 RX9) (List.mem_cons_of_mem _ (List.mem_append_left _ (List.mem_of_getElem? (i := 4) rfl)))) (hts (.instantiable RX9 1) (List.mem_cons_of_mem _ (List.mem_append_left _ (List.mem_of_getElem? (i := 5) rfl)))) (hts (.initialized RX9) (List.mem_cons_of_mem _ (List.mem_append_left _ (List.mem_of_getElem? (i := 6) rfl)))) hK hP hD hS hA rfl dvX9 (Nat.le_of_ble_eq_true rfl) (Nat.le_of_ble_eq_true rfl) dX5_init_38 (fun q_7 H hP hD hS => ?_)
  have hP : va_P (gD G) vwCl [(h0, .inr (6, [.ref tp, .ref q_1, .ref q_4, .null, .null, .int 0, .int 0, .int 0, .int 0, .int 0, .int 0, .int 0, .int 0, .int 0])), (q_1, .inr (10, [.ref q_3])), (q_3, .inl (gI G, 8, .inl (fl 8 0 (fun _ => 0)))), (q_4, .inr (10, [.ref q_6])), (q_6, .inl (gI G, 8, .inl (fl 8 0 (fun _ => 0)))), (q_7, .inr (10, [.null]))] H := hP
  have hD : va_D A [(h0, .inr (6, [.ref tp, .ref q_1, .ref q_4, .null, .null, .int 0, .int 0, .int 0, .int 0, .int 0, .int 0, .int 0, .int 0, .int 0])), (q_1, .inr (10, [.ref q_3])), (q_3, .inl (gI G, 8, .inl (fl 8 0 (fun _ => 0)))), (q_4, .inr (10, [.ref q_6])), (q_6, .inl (gI G, 8, .inl (fl 8 0 (fun _ => 0)))), (q_7, .inr (10, [.null]))] := hD
  refine lv_dup hx hb dX5_init_41 rfl ?_
  refine lv_bipush (v := 64) hx hb dX5_init_42 (by decide) ?_
  refine lv_iconst (v := 0) hx hb dX5_init_44 (by decide) ?_
  have hPc := hP.sub (ws' := [(q_7, .inr (10, [.null]))]) [5] rfl
  have hDc := hD.sub (ws' := [(q_7, .inr (10, [.null]))]) [5] (by decide) rfl
  have hFc := va_free (wc := [(q_7, .inr (10, [.null]))]) hD hS hA [5] rfl
  refine va_callv (va_runI (As := [.int 64, .int 0]) (rest := [.ref q_7, .ref h0]) ⟨hx, hb, hml, hown, hts⟩ (c_Row_init l G q_7 64 0 H.size (by decide)) (cwI 2 hts (fun w9 h9 => ⟨(List.mem_cons_of_mem _ (List.mem_append_right _ (List.mem_append_right _ (List.mem_append_right _ (List.mem_append_left _ h9))))), gd_c_Row_init w9 h9⟩) rfl rfl rfl (hts (.initialized RX9) (List.mem_cons_of_mem _ (List.mem_append_left _ (List.mem_of_getElem? (i := 6) rfl)))) (hts (.methodLink RX5 19 yX9_init) (List.mem_cons_of_mem _ (List.mem_append_left _ (List.mem_of_getElem? (i := 7) rfl)))) (hts (.instanceMethod yX9_init) (List.mem_cons_of_mem _ (List.mem_append_left _ (List.mem_of_getElem? (i := 8) rfl)))) rfl kSX9_init ⟨Nat.le_of_ble_eq_true rfl, Nat.le_of_ble_eq_true rfl⟩) (preS_m (As := [.ref q_7, .int 64, .int 0]) hPc hB hDc) rfl rfl hl.1 rfl (lv_room (Nat.le_of_ble_eq_true rfl)) dX5_init_45 ⟨Nat.le_of_ble_eq_true rfl, Nat.le_of_ble_eq_true rfl⟩) hS (fun q _ h => hFc q h) hFc (fun u t H1 locs ht hvm hw hB1 hz1 hk1 hS => ?_)
  obtain ⟨q_9, hP1, hD1⟩ := hB1
  rw [ht] at hP1
  obtain ⟨hP, hD⟩ := va_join (wr := [(h0, .inr (6, [.ref tp, .ref q_1, .ref q_4, .null, .null, .int 0, .int 0, .int 0, .int 0, .int 0, .int 0, .int 0, .int 0, .int 0])), (q_1, .inr (10, [.ref q_3])), (q_3, .inl (gI G, 8, .inl (fl 8 0 (fun _ => 0)))), (q_4, .inr (10, [.ref q_6])), (q_6, .inl (gI G, 8, .inl (fl 8 0 (fun _ => 0))))]) (w1 := [(q_7, .inr (10, [.ref q_9])), (q_9, .inl (gI G, 64, .inl (fl 64 0 (fun _ => 0))))]) hP hD [5] [0, 1, 2, 3, 4] rfl rfl (by decide) (by decide) hk1 hFc hP1 hD1
  generalize H1 = H at hP hS ⊢
  have hP : va_P (gD G) vwCl [(h0, .inr (6, [.ref tp, .ref q_1, .ref q_4, .null, .null, .int 0, .int 0, .int 0, .int 0, .int 0, .int 0, .int 0, .int 0, .int 0])), (q_1, .inr (10, [.ref q_3])), (q_3, .inl (gI G, 8, .inl (fl 8 0 (fun _ => 0)))), (q_4, .inr (10, [.ref q_6])), (q_6, .inl (gI G, 8, .inl (fl 8 0 (fun _ => 0)))), (q_7, .inr (10, [.ref q_9])), (q_9, .inl (gI G, 64, .inl (fl 64 0 (fun _ => 0))))] H := hP
  have hD : va_D A [(h0, .inr (6, [.ref tp, .ref q_1, .ref q_4, .null, .null, .int 0, .int 0, .int 0, .int 0, .int 0, .int 0, .int 0, .int 0, .int 0])), (q_1, .inr (10, [.ref q_3])), (q_3, .inl (gI G, 8, .inl (fl 8 0 (fun _ => 0)))), (q_4, .inr (10, [.ref q_6])), (q_6, .inl (gI G, 8, .inl (fl 8 0 (fun _ => 0)))), (q_7, .inr (10, [.ref q_9])), (q_9, .inl (gI G, 64, .inl (fl 64 0 (fun _ => 0))))] := hD
  refine W.eq (g2 := F0 m 48 ls [.ref q_7, .ref h0]) rfl ?_
  refine va_putF (D := gD G) (ci := 6) (v := .ref q_7) (ty := tyX5 3) (C := RX5) (T := TX5) (N := 14) hx hb hts (fun _ h9 => (List.mem_cons_of_mem _ (List.mem_append_right _ (List.mem_append_left _ h9)))) tyX5 tyX5_ok nmX5 hown hK hP hD hS 0 rfl rfl 3 (by decide) (hts (.fieldLink RX5 29 "JudoHall$Parser" "works" "LJudoHall$Row;") (List.mem_cons_of_mem _ (List.mem_append_left _ (List.mem_of_getElem? (i := 11) rfl)))) (fun _ h9 => h9) rfl hin rfl (tyX5_ok 3 (by decide)) rfl rfl (Nat.le_of_ble_eq_true rfl) dX5_init_48 (fun H locs hP hD hS => ?_)
  have hP : va_P (gD G) vwCl [(h0, .inr (6, [.ref tp, .ref q_1, .ref q_4, .ref q_7, .null, .int 0, .int 0, .int 0, .int 0, .int 0, .int 0, .int 0, .int 0, .int 0])), (q_1, .inr (10, [.ref q_3])), (q_3, .inl (gI G, 8, .inl (fl 8 0 (fun _ => 0)))), (q_4, .inr (10, [.ref q_6])), (q_6, .inl (gI G, 8, .inl (fl 8 0 (fun _ => 0)))), (q_7, .inr (10, [.ref q_9])), (q_9, .inl (gI G, 64, .inl (fl 64 0 (fun _ => 0))))] H := hP
  have hD : va_D A [(h0, .inr (6, [.ref tp, .ref q_1, .ref q_4, .ref q_7, .null, .int 0, .int 0, .int 0, .int 0, .int 0, .int 0, .int 0, .int 0, .int 0])), (q_1, .inr (10, [.ref q_3])), (q_3, .inl (gI G, 8, .inl (fl 8 0 (fun _ => 0)))), (q_4, .inr (10, [.ref q_6])), (q_6, .inl (gI G, 8, .inl (fl 8 0 (fun _ => 0)))), (q_7, .inr (10, [.ref q_9])), (q_9, .inl (gI G, 64, .inl (fl 64 0 (fun _ => 0))))] := hD
  refine lv_aload_n hx hb dX5_init_51 rfl (lv_at hl 0 rfl) ?_
  refine va_new (D := gD G) (ci := 5) (fs := [.int 0, .int 0, .int 0, .int 0, .int 0, .int 0, .null, .null, .null]) (C := RX4) (T := TX4) (N := 9) hx hb hts (fun _ h9 => (List.mem_cons_of_mem _ (List.mem_append_right _ (List.mem_append_right _ (List.mem_append_right _ (List.mem_append_right _ (List.mem_append_left _ h9))))))) tyX4 tyX4_ok hown (hts (.classLink RX5 17 RX4) (List.mem_cons_of_mem _ (List.mem_append_left _ (List.mem_of_getElem? (i := 12) rfl)))) (hts (.instantiable RX4 9) (List.mem_cons_of_mem _ (List.mem_append_left _ (List.mem_of_getElem? (i := 13) rfl)))) (hts (.initialized RX4) (List.mem_cons_of_mem _ (List.mem_append_left _ (List.mem_of_getElem? (i := 14) rfl)))) hK hP hD hS hA rfl dvX4 (Nat.le_of_ble_eq_true rfl) (Nat.le_of_ble_eq_true rfl) dX5_init_52 (fun q_10 H hP hD hS => ?_)
  have hP : va_P (gD G) vwCl [(h0, .inr (6, [.ref tp, .ref q_1, .ref q_4, .ref q_7, .null, .int 0, .int 0, .int 0, .int 0, .int 0, .int 0, .int 0, .int 0, .int 0])), (q_1, .inr (10, [.ref q_3])), (q_3, .inl (gI G, 8, .inl (fl 8 0 (fun _ => 0)))), (q_4, .inr (10, [.ref q_6])), (q_6, .inl (gI G, 8, .inl (fl 8 0 (fun _ => 0)))), (q_7, .inr (10, [.ref q_9])), (q_9, .inl (gI G, 64, .inl (fl 64 0 (fun _ => 0)))), (q_10, .inr (5, [.int 0, .int 0, .int 0, .int 0, .int 0, .int 0, .null, .null, .null]))] H := hP
  have hD : va_D A [(h0, .inr (6, [.ref tp, .ref q_1, .ref q_4, .ref q_7, .null, .int 0, .int 0, .int 0, .int 0, .int 0, .int 0, .int 0, .int 0, .int 0])), (q_1, .inr (10, [.ref q_3])), (q_3, .inl (gI G, 8, .inl (fl 8 0 (fun _ => 0)))), (q_4, .inr (10, [.ref q_6])), (q_6, .inl (gI G, 8, .inl (fl 8 0 (fun _ => 0)))), (q_7, .inr (10, [.ref q_9])), (q_9, .inl (gI G, 64, .inl (fl 64 0 (fun _ => 0)))), (q_10, .inr (5, [.int 0, .int 0, .int 0, .int 0, .int 0, .int 0, .null, .null, .null]))] := hD
  refine lv_dup hx hb dX5_init_55 rfl ?_
  have hPc := hP.sub (ws' := [(q_10, .inr (5, [.int 0, .int 0, .int 0, .int 0, .int 0, .int 0, .null, .null, .null]))]) [7] rfl
  have hDc := hD.sub (ws' := [(q_10, .inr (5, [.int 0, .int 0, .int 0, .int 0, .int 0, .int 0, .null, .null, .null]))]) [7] (by decide) rfl
  have hFc := va_free (wc := [(q_10, .inr (5, [.int 0, .int 0, .int 0, .int 0, .int 0, .int 0, .null, .null, .null]))]) hD hS hA [7] rfl
  refine va_callv (va_runI (As := []) (rest := [.ref q_10, .ref h0]) ⟨hx, hb, hml, hown, hts⟩ (k_Laws_init l G q_10 H.size) (cwI 0 hts (fun w9 h9 => ⟨(List.mem_cons_of_mem _ (List.mem_append_right _ (List.mem_append_right _ (List.mem_append_right _ (List.mem_append_right _ (List.mem_append_right _ (List.mem_append_left _ h9))))))), gd_k_Laws_init w9 h9⟩) rfl rfl rfl (hts (.initialized RX4) (List.mem_cons_of_mem _ (List.mem_append_left _ (List.mem_of_getElem? (i := 14) rfl)))) (hts (.methodLink RX5 32 yX4_init) (List.mem_cons_of_mem _ (List.mem_append_left _ (List.mem_of_getElem? (i := 15) rfl)))) (hts (.instanceMethod yX4_init) (List.mem_cons_of_mem _ (List.mem_append_left _ (List.mem_of_getElem? (i := 16) rfl)))) rfl kSX4_init ⟨Nat.le_of_ble_eq_true rfl, Nat.le_of_ble_eq_true rfl⟩) (preS_m (As := [.ref q_10]) hPc hB hDc) rfl rfl hl.1 rfl (lv_room (Nat.le_of_ble_eq_true rfl)) dX5_init_56 ⟨Nat.le_of_ble_eq_true rfl, Nat.le_of_ble_eq_true rfl⟩) hS (fun q _ h => hFc q h) hFc (fun u t H1 locs ht hvm hw hB1 hz1 hk1 hS => ?_)
  obtain ⟨q_12, q_13, q_14, q_15, q_16, q_17, hP1, hD1⟩ := hB1
  rw [ht] at hP1
  obtain ⟨hP, hD⟩ := va_join (wr := [(h0, .inr (6, [.ref tp, .ref q_1, .ref q_4, .ref q_7, .null, .int 0, .int 0, .int 0, .int 0, .int 0, .int 0, .int 0, .int 0, .int 0])), (q_1, .inr (10, [.ref q_3])), (q_3, .inl (gI G, 8, .inl (fl 8 0 (fun _ => 0)))), (q_4, .inr (10, [.ref q_6])), (q_6, .inl (gI G, 8, .inl (fl 8 0 (fun _ => 0)))), (q_7, .inr (10, [.ref q_9])), (q_9, .inl (gI G, 64, .inl (fl 64 0 (fun _ => 0))))]) (w1 := [(q_10, .inr (5, [.int 0, .int 0, .int 0, .int 0, .int 0, .int 0, .ref q_12, .ref q_14, .ref q_16])), (q_12, .inr (10, [.ref q_13])), (q_13, .inl (gI G, 300, .inl (fl 300 0 (fun _ => 0)))), (q_14, .inr (10, [.ref q_15])), (q_15, .inl (gI G, 20, .inl (fl 20 0 (fun _ => 0)))), (q_16, .inr (10, [.ref q_17])), (q_17, .inl (gI G, 20, .inl (fl 20 0 (fun _ => 0))))]) hP hD [7] [0, 1, 2, 3, 4, 5, 6] rfl rfl (by decide) (by decide) hk1 hFc hP1 hD1
  generalize H1 = H at hP hS ⊢
  have hP : va_P (gD G) vwCl [(h0, .inr (6, [.ref tp, .ref q_1, .ref q_4, .ref q_7, .null, .int 0, .int 0, .int 0, .int 0, .int 0, .int 0, .int 0, .int 0, .int 0])), (q_1, .inr (10, [.ref q_3])), (q_3, .inl (gI G, 8, .inl (fl 8 0 (fun _ => 0)))), (q_4, .inr (10, [.ref q_6])), (q_6, .inl (gI G, 8, .inl (fl 8 0 (fun _ => 0)))), (q_7, .inr (10, [.ref q_9])), (q_9, .inl (gI G, 64, .inl (fl 64 0 (fun _ => 0)))), (q_10, .inr (5, [.int 0, .int 0, .int 0, .int 0, .int 0, .int 0, .ref q_12, .ref q_14, .ref q_16])), (q_12, .inr (10, [.ref q_13])), (q_13, .inl (gI G, 300, .inl (fl 300 0 (fun _ => 0)))), (q_14, .inr (10, [.ref q_15])), (q_15, .inl (gI G, 20, .inl (fl 20 0 (fun _ => 0)))), (q_16, .inr (10, [.ref q_17])), (q_17, .inl (gI G, 20, .inl (fl 20 0 (fun _ => 0))))] H := hP
  have hD : va_D A [(h0, .inr (6, [.ref tp, .ref q_1, .ref q_4, .ref q_7, .null, .int 0, .int 0, .int 0, .int 0, .int 0, .int 0, .int 0, .int 0, .int 0])), (q_1, .inr (10, [.ref q_3])), (q_3, .inl (gI G, 8, .inl (fl 8 0 (fun _ => 0)))), (q_4, .inr (10, [.ref q_6])), (q_6, .inl (gI G, 8, .inl (fl 8 0 (fun _ => 0)))), (q_7, .inr (10, [.ref q_9])), (q_9, .inl (gI G, 64, .inl (fl 64 0 (fun _ => 0)))), (q_10, .inr (5, [.int 0, .int 0, .int 0, .int 0, .int 0, .int 0, .ref q_12, .ref q_14, .ref q_16])), (q_12, .inr (10, [.ref q_13])), (q_13, .inl (gI G, 300, .inl (fl 300 0 (fun _ => 0)))), (q_14, .inr (10, [.ref q_15])), (q_15, .inl (gI G, 20, .inl (fl 20 0 (fun _ => 0)))), (q_16, .inr (10, [.ref q_17])), (q_17, .inl (gI G, 20, .inl (fl 20 0 (fun _ => 0))))] := hD
  refine W.eq (g2 := F0 m 59 ls [.ref q_10, .ref h0]) rfl ?_
  refine va_put (D := gD G) (ci := 6) (v := .ref q_10) (ty := tyX5 4) (C := RX5) (T := TX5) (N := 14) hx hb hts (fun _ h9 => (List.mem_cons_of_mem _ (List.mem_append_right _ (List.mem_append_left _ h9)))) tyX5 tyX5_ok nmX5 hown hK hP hD hS 0 rfl rfl 4 (by decide) (hts (.fieldLink RX5 33 "JudoHall$Parser" "draft" "LJudoHall$Laws;") (List.mem_cons_of_mem _ (List.mem_append_left _ (List.mem_of_getElem? (i := 17) rfl)))) (fun _ h9 => h9) rfl (tyX5_ok 4 (by decide)) rfl rfl (Nat.le_of_ble_eq_true rfl) dX5_init_59 (fun H locs hP hD hS => ?_)
  have hP : va_P (gD G) vwCl [(h0, .inr (6, [.ref tp, .ref q_1, .ref q_4, .ref q_7, .ref q_10, .int 0, .int 0, .int 0, .int 0, .int 0, .int 0, .int 0, .int 0, .int 0])), (q_1, .inr (10, [.ref q_3])), (q_3, .inl (gI G, 8, .inl (fl 8 0 (fun _ => 0)))), (q_4, .inr (10, [.ref q_6])), (q_6, .inl (gI G, 8, .inl (fl 8 0 (fun _ => 0)))), (q_7, .inr (10, [.ref q_9])), (q_9, .inl (gI G, 64, .inl (fl 64 0 (fun _ => 0)))), (q_10, .inr (5, [.int 0, .int 0, .int 0, .int 0, .int 0, .int 0, .ref q_12, .ref q_14, .ref q_16])), (q_12, .inr (10, [.ref q_13])), (q_13, .inl (gI G, 300, .inl (fl 300 0 (fun _ => 0)))), (q_14, .inr (10, [.ref q_15])), (q_15, .inl (gI G, 20, .inl (fl 20 0 (fun _ => 0)))), (q_16, .inr (10, [.ref q_17])), (q_17, .inl (gI G, 20, .inl (fl 20 0 (fun _ => 0))))] H := hP
  have hD : va_D A [(h0, .inr (6, [.ref tp, .ref q_1, .ref q_4, .ref q_7, .ref q_10, .int 0, .int 0, .int 0, .int 0, .int 0, .int 0, .int 0, .int 0, .int 0])), (q_1, .inr (10, [.ref q_3])), (q_3, .inl (gI G, 8, .inl (fl 8 0 (fun _ => 0)))), (q_4, .inr (10, [.ref q_6])), (q_6, .inl (gI G, 8, .inl (fl 8 0 (fun _ => 0)))), (q_7, .inr (10, [.ref q_9])), (q_9, .inl (gI G, 64, .inl (fl 64 0 (fun _ => 0)))), (q_10, .inr (5, [.int 0, .int 0, .int 0, .int 0, .int 0, .int 0, .ref q_12, .ref q_14, .ref q_16])), (q_12, .inr (10, [.ref q_13])), (q_13, .inl (gI G, 300, .inl (fl 300 0 (fun _ => 0)))), (q_14, .inr (10, [.ref q_15])), (q_15, .inl (gI G, 20, .inl (fl 20 0 (fun _ => 0)))), (q_16, .inr (10, [.ref q_17])), (q_17, .inl (gI G, 20, .inl (fl 20 0 (fun _ => 0))))] := hD
  refine lv_aload_n hx hb dX5_init_62 rfl (lv_at hl 0 rfl) ?_
  refine lv_iconst (v := (-1)) hx hb dX5_init_63 (by decide) ?_
  refine va_put (D := gD G) (ci := 6) (v := .int (-1)) (ty := tyX5 8) (C := RX5) (T := TX5) (N := 14) hx hb hts (fun _ h9 => (List.mem_cons_of_mem _ (List.mem_append_right _ (List.mem_append_left _ h9)))) tyX5 tyX5_ok nmX5 hown hK hP hD hS 0 rfl rfl 8 (by decide) (hts (.fieldLink RX5 37 "JudoHall$Parser" "place" "I") (List.mem_cons_of_mem _ (List.mem_append_left _ (List.mem_of_getElem? (i := 18) rfl)))) (fun _ h9 => h9) rfl (tyX5_ok 8 (by decide)) rfl rfl (Nat.le_of_ble_eq_true rfl) dX5_init_64 (fun H locs hP hD hS => ?_)
  have hP : va_P (gD G) vwCl [(h0, .inr (6, [.ref tp, .ref q_1, .ref q_4, .ref q_7, .ref q_10, .int 0, .int 0, .int 0, .int (-1), .int 0, .int 0, .int 0, .int 0, .int 0])), (q_1, .inr (10, [.ref q_3])), (q_3, .inl (gI G, 8, .inl (fl 8 0 (fun _ => 0)))), (q_4, .inr (10, [.ref q_6])), (q_6, .inl (gI G, 8, .inl (fl 8 0 (fun _ => 0)))), (q_7, .inr (10, [.ref q_9])), (q_9, .inl (gI G, 64, .inl (fl 64 0 (fun _ => 0)))), (q_10, .inr (5, [.int 0, .int 0, .int 0, .int 0, .int 0, .int 0, .ref q_12, .ref q_14, .ref q_16])), (q_12, .inr (10, [.ref q_13])), (q_13, .inl (gI G, 300, .inl (fl 300 0 (fun _ => 0)))), (q_14, .inr (10, [.ref q_15])), (q_15, .inl (gI G, 20, .inl (fl 20 0 (fun _ => 0)))), (q_16, .inr (10, [.ref q_17])), (q_17, .inl (gI G, 20, .inl (fl 20 0 (fun _ => 0))))] H := hP
  have hD : va_D A [(h0, .inr (6, [.ref tp, .ref q_1, .ref q_4, .ref q_7, .ref q_10, .int 0, .int 0, .int 0, .int (-1), .int 0, .int 0, .int 0, .int 0, .int 0])), (q_1, .inr (10, [.ref q_3])), (q_3, .inl (gI G, 8, .inl (fl 8 0 (fun _ => 0)))), (q_4, .inr (10, [.ref q_6])), (q_6, .inl (gI G, 8, .inl (fl 8 0 (fun _ => 0)))), (q_7, .inr (10, [.ref q_9])), (q_9, .inl (gI G, 64, .inl (fl 64 0 (fun _ => 0)))), (q_10, .inr (5, [.int 0, .int 0, .int 0, .int 0, .int 0, .int 0, .ref q_12, .ref q_14, .ref q_16])), (q_12, .inr (10, [.ref q_13])), (q_13, .inl (gI G, 300, .inl (fl 300 0 (fun _ => 0)))), (q_14, .inr (10, [.ref q_15])), (q_15, .inl (gI G, 20, .inl (fl 20 0 (fun _ => 0)))), (q_16, .inr (10, [.ref q_17])), (q_17, .inl (gI G, 20, .inl (fl 20 0 (fun _ => 0))))] := hD
  have hP9 := hP.sub (ws' := [(h0, .inr (6, [.ref tp, .ref q_1, .ref q_4, .ref q_7, .ref q_10, .int 0, .int 0, .int 0, .int (-1), .int 0, .int 0, .int 0, .int 0, .int 0])), (q_1, .inr (10, [.ref q_3])), (q_3, .inl (gI G, 8, .inl (fl 8 0 (fun _ => 0)))), (q_4, .inr (10, [.ref q_6])), (q_6, .inl (gI G, 8, .inl (fl 8 0 (fun _ => 0)))), (q_7, .inr (10, [.ref q_9])), (q_9, .inl (gI G, 64, .inl (fl 64 0 (fun _ => 0)))), (q_10, .inr (5, [.int 0, .int 0, .int 0, .int 0, .int 0, .int 0, .ref q_12, .ref q_14, .ref q_16])), (q_12, .inr (10, [.ref q_13])), (q_13, .inl (gI G, 300, .inl (fl 300 0 (fun _ => 0)))), (q_14, .inr (10, [.ref q_15])), (q_15, .inl (gI G, 20, .inl (fl 20 0 (fun _ => 0)))), (q_16, .inr (10, [.ref q_17])), (q_17, .inl (gI G, 20, .inl (fl 20 0 (fun _ => 0))))]) [0, 1, 2, 3, 4, 5, 6, 7, 8, 9, 10, 11, 12, 13] rfl
  have hD9 := hD.sub (ws' := [(h0, .inr (6, [.ref tp, .ref q_1, .ref q_4, .ref q_7, .ref q_10, .int 0, .int 0, .int 0, .int (-1), .int 0, .int 0, .int 0, .int 0, .int 0])), (q_1, .inr (10, [.ref q_3])), (q_3, .inl (gI G, 8, .inl (fl 8 0 (fun _ => 0)))), (q_4, .inr (10, [.ref q_6])), (q_6, .inl (gI G, 8, .inl (fl 8 0 (fun _ => 0)))), (q_7, .inr (10, [.ref q_9])), (q_9, .inl (gI G, 64, .inl (fl 64 0 (fun _ => 0)))), (q_10, .inr (5, [.int 0, .int 0, .int 0, .int 0, .int 0, .int 0, .ref q_12, .ref q_14, .ref q_16])), (q_12, .inr (10, [.ref q_13])), (q_13, .inl (gI G, 300, .inl (fl 300 0 (fun _ => 0)))), (q_14, .inr (10, [.ref q_15])), (q_15, .inl (gI G, 20, .inl (fl 20 0 (fun _ => 0)))), (q_16, .inr (10, [.ref q_17])), (q_17, .inl (gI G, 20, .inl (fl 20 0 (fun _ => 0))))]) [0, 1, 2, 3, 4, 5, 6, 7, 8, 9, 10, 11, 12, 13] (by decide) rfl
  exact W.vret hx hb hr (fun t ht hW => ⟨⟨(), rfl, trivial, q_1, q_3, q_4, q_6, q_7, q_9, q_10, q_12, q_13, q_14, q_15, q_16, q_17, by rw [ht]; exact hP9, hD9⟩, hS.F ht⟩) hS.2.2 dX5_init_67

def wo_k_Drawer_init : List Cond := [.methodLink RX2 3 objectInit, .instanceMethod objectInit, .code objectInit ⟨#[0xb1]⟩ 1 none, .fieldLink RX2 9 "JudoHall$Drawer" "book" "LJudoHall$Book;", .classLink RX2 15 RX9, .instantiable RX9 1, .initialized RX9, .methodLink RX2 17 yX9_init, .instanceMethod yX9_init, .fieldLink RX2 20 "JudoHall$Drawer" "row" "LJudoHall$Row;", .fieldLink RX2 24 "JudoHall$Drawer" "others" "LJudoHall$Row;"]
def wq_k_Drawer_init : List Cond := .code yX2_init cX2_init 2 none :: (wo_k_Drawer_init ++ (wsX20 ++ (wsX90 ++ (wq_c_Row_init ++ []))))
theorem gd_k_Drawer_init : ∀ w ∈ wq_k_Drawer_init, Gd w := List.forall_mem_cons.mpr ⟨Or.inl rfl, List.forall_mem_append.mpr ⟨gdl wo_k_Drawer_init (by decide +kernel), (List.forall_mem_append.mpr ⟨gd_wsX20, (List.forall_mem_append.mpr ⟨gd_wsX90, (List.forall_mem_append.mpr ⟨gd_c_Row_init, (fun _ h => absurd h List.not_mem_nil)⟩)⟩)⟩)⟩⟩
theorem in_k_Drawer_init : ∀ w ∈ wq_k_Drawer_init, w ∈ lw_tbl := List.forall_mem_cons.mpr ⟨List.mem_of_getElem? (i := 393) (by decide +kernel), List.forall_mem_append.mpr ⟨inT2 wo_k_Drawer_init [(2, 1), (1, 36), (1, 37), (2, 4), (2, 2), (1, 45), (1, 3), (2, 3), (1, 47), (2, 5), (2, 6)] (by decide +kernel), (List.forall_mem_append.mpr ⟨in_wsX20, (List.forall_mem_append.mpr ⟨in_wsX90, (List.forall_mem_append.mpr ⟨in_c_Row_init, (fun _ h => absurd h List.not_mem_nil)⟩)⟩)⟩)⟩⟩
set_option maxHeartbeats 4000000 in
set_option maxRecDepth 100000 in
theorem k_Drawer_init (l : Launch) (G : gG) (h0 : Nat) (hk : Nat) (sz : Nat) : Met l yX2_init wq_k_Drawer_init ({ frames := 2, cells := 4, slots := 50, locals := 45 }) (va_Pc [.ref h0, .ref hk] (mP G [(h0, .inr (3, [.null, .null, .null]))] sz)) (va_Qv (fun _ : Unit => True) (fun (_ : Unit) (t : State) => ∃ (r1 : Nat) (r2 : Nat) (o1 : Nat) (o2 : Nat), va_P (gD G) vwCl [(h0, .inr (3, [.ref hk, .ref r1, .ref o1])), (r1, .inr (10, [.ref r2])), (r2, .inl (gI G, 32, .inl (fl 32 0 (fun _ => 0)))), (o1, .inr (10, [.ref o2])), (o2, .inl (gI G, 16, .inl (fl 16 0 (fun _ => 0))))] t.heap ∧ va_D (va_A [(h0, .inr (3, [.null, .null, .null]))] sz) [(h0, .inr (3, [.ref hk, .ref r1, .ref o1])), (r1, .inr (10, [.ref r2])), (r2, .inl (gI G, 32, .inl (fl 32 0 (fun _ => 0)))), (o1, .inr (10, [.ref o2])), (o2, .inl (gI G, 16, .inl (fl 16 0 (fun _ => 0))))]) (va_A [(h0, .inr (3, [.null, .null, .null]))] sz)) 4 50 (va_A [(h0, .inr (3, [.null, .null, .null]))] sz) := by
  refine Met.ofW (cc := cX2_init) (maxL := 2) (ret := none) (by decide) rfl ?_
  intro p e s m args below meth c s₁ B hml hv
  obtain ⟨rfl, hsz, hP, hB, hD0⟩ := hv
  have hx := B.exec
  have hb := B.bytes
  have hr := B.returns
  have hts := atoms_spec (ws := wq_k_Drawer_init) B.pre
  have hown : s.vm.findClass RX2 = some m.cls := findClass_of_methodNamed B.named
  have hlocks := B.notSynchronized
  have hK := hB.1
  have hin : meth.name = "<init>" := (name_of_methodNamed B.named B.method).1
  subst hsz
  have hD := hD0.self (sz := s.heap.size)
  generalize hAe : va_A [(h0, .inr (3, [.null, .null, .null]))] s.heap.size = A at hD ⊢
  have hA : ∀ q : Nat, s.heap.size ≤ q → A q := fun q h => by rw [← hAe]; exact Or.inr h
  have hS : va_S A s.heap s.heap [] := va_S.rf
  have hP : va_P (gD G) vwCl [(h0, .inr (3, [.null, .null, .null]))] s.heap := hP
  have hD : va_D A [(h0, .inr (3, [.null, .null, .null]))] := hD
  have hl := lv_entry ([.ref h0, .ref hk]) (n := 2) (Nat.le_of_ble_eq_true rfl)
  rw [lg_entry_eq]
  generalize (lg_sl ([.ref h0, .ref hk]) ++ List.replicate (2 - (lg_sl ([.ref h0, .ref hk])).length) Slot.unset).toArray = ls at hl ⊢
  have hl : lv_has ls 2 [(0, .ref h0), (1, .ref hk)] := hl
  refine lv_aload_n hx hb dX2_init_0 rfl (lv_at hl 0 rfl) ?_
  refine W.objInit hx hb hown (hts (.methodLink RX2 3 objectInit) (List.mem_cons_of_mem _ (List.mem_append_left _ (List.mem_of_getElem? (i := 0) rfl)))) (hts (.instanceMethod objectInit) (List.mem_cons_of_mem _ (List.mem_append_left _ (List.mem_of_getElem? (i := 1) rfl)))) (hts _ (List.mem_cons_of_mem _ (List.mem_append_left _ (List.mem_of_getElem? (i := 2) rfl)))) rfl (by rw [hml]; exact hl.1) rfl dX2_init_1 (Nat.le_of_ble_eq_true rfl) (Nat.le_of_ble_eq_true rfl) ?_
  refine W.eq (g2 := F0 m 4 ls []) rfl ?_
  refine lv_aload_n hx hb dX2_init_4 rfl (lv_at hl 0 rfl) ?_
  refine lv_aload_n hx hb dX2_init_5 rfl (lv_at hl 1 rfl) ?_
  refine va_putF (D := gD G) (ci := 3) (v := .ref hk) (ty := tyX2 0) (C := RX2) (T := TX2) (N := 3) hx hb hts (fun _ h9 => (List.mem_cons_of_mem _ (List.mem_append_right _ (List.mem_append_left _ h9)))) tyX2 tyX2_ok nmX2 hown hK hP hD hS 0 rfl rfl 0 (by decide) (hts (.fieldLink RX2 9 "JudoHall$Drawer" "book" "LJudoHall$Book;") (List.mem_cons_of_mem _ (List.mem_append_left _ (List.mem_of_getElem? (i := 3) rfl)))) (fun _ h9 => h9) rfl hin rfl (tyX2_ok 0 (by decide)) rfl rfl (Nat.le_of_ble_eq_true rfl) dX2_init_6 (fun H locs hP hD hS => ?_)
  have hP : va_P (gD G) vwCl [(h0, .inr (3, [.ref hk, .null, .null]))] H := hP
  have hD : va_D A [(h0, .inr (3, [.ref hk, .null, .null]))] := hD
  refine lv_aload_n hx hb dX2_init_9 rfl (lv_at hl 0 rfl) ?_
  refine va_new (D := gD G) (ci := 10) (fs := [.null]) (C := RX9) (T := TX9) (N := 1) hx hb hts (fun _ h9 => (List.mem_cons_of_mem _ (List.mem_append_right _ (List.mem_append_right _ (List.mem_append_left _ h9))))) tyX9 tyX9_ok hown (hts (.classLink RX2 15 RX9) (List.mem_cons_of_mem _ (List.mem_append_left _ (List.mem_of_getElem? (i := 4) rfl)))) (hts (.instantiable RX9 1) (List.mem_cons_of_mem _ (List.mem_append_left _ (List.mem_of_getElem? (i := 5) rfl)))) (hts (.initialized RX9) (List.mem_cons_of_mem _ (List.mem_append_left _ (List.mem_of_getElem? (i := 6) rfl)))) hK hP hD hS hA rfl dvX9 (Nat.le_of_ble_eq_true rfl) (Nat.le_of_ble_eq_true rfl) dX2_init_10 (fun q_1 H hP hD hS => ?_)
  have hP : va_P (gD G) vwCl [(h0, .inr (3, [.ref hk, .null, .null])), (q_1, .inr (10, [.null]))] H := hP
  have hD : va_D A [(h0, .inr (3, [.ref hk, .null, .null])), (q_1, .inr (10, [.null]))] := hD
  refine lv_dup hx hb dX2_init_13 rfl ?_
  refine lv_bipush (v := 32) hx hb dX2_init_14 (by decide) ?_
  refine lv_iconst (v := 0) hx hb dX2_init_16 (by decide) ?_
  have hPc := hP.sub (ws' := [(q_1, .inr (10, [.null]))]) [1] rfl
  have hDc := hD.sub (ws' := [(q_1, .inr (10, [.null]))]) [1] (by decide) rfl
  have hFc := va_free (wc := [(q_1, .inr (10, [.null]))]) hD hS hA [1] rfl
  refine va_callv (va_runI (As := [.int 32, .int 0]) (rest := [.ref q_1, .ref h0]) ⟨hx, hb, hml, hown, hts⟩ (c_Row_init l G q_1 32 0 H.size (by decide)) (cwI 2 hts (fun w9 h9 => ⟨(List.mem_cons_of_mem _ (List.mem_append_right _ (List.mem_append_right _ (List.mem_append_right _ (List.mem_append_left _ h9))))), gd_c_Row_init w9 h9⟩) rfl rfl rfl (hts (.initialized RX9) (List.mem_cons_of_mem _ (List.mem_append_left _ (List.mem_of_getElem? (i := 6) rfl)))) (hts (.methodLink RX2 17 yX9_init) (List.mem_cons_of_mem _ (List.mem_append_left _ (List.mem_of_getElem? (i := 7) rfl)))) (hts (.instanceMethod yX9_init) (List.mem_cons_of_mem _ (List.mem_append_left _ (List.mem_of_getElem? (i := 8) rfl)))) rfl kSX9_init ⟨Nat.le_of_ble_eq_true rfl, Nat.le_of_ble_eq_true rfl⟩) (preS_m (As := [.ref q_1, .int 32, .int 0]) hPc hB hDc) rfl rfl hl.1 rfl (lv_room (Nat.le_of_ble_eq_true rfl)) dX2_init_17 ⟨Nat.le_of_ble_eq_true rfl, Nat.le_of_ble_eq_true rfl⟩) hS (fun q _ h => hFc q h) hFc (fun u t H1 locs ht hvm hw hB1 hz1 hk1 hS => ?_)
  obtain ⟨q_3, hP1, hD1⟩ := hB1
  rw [ht] at hP1
  obtain ⟨hP, hD⟩ := va_join (wr := [(h0, .inr (3, [.ref hk, .null, .null]))]) (w1 := [(q_1, .inr (10, [.ref q_3])), (q_3, .inl (gI G, 32, .inl (fl 32 0 (fun _ => 0))))]) hP hD [1] [0] rfl rfl (by decide) (by decide) hk1 hFc hP1 hD1
  generalize H1 = H at hP hS ⊢
  have hP : va_P (gD G) vwCl [(h0, .inr (3, [.ref hk, .null, .null])), (q_1, .inr (10, [.ref q_3])), (q_3, .inl (gI G, 32, .inl (fl 32 0 (fun _ => 0))))] H := hP
  have hD : va_D A [(h0, .inr (3, [.ref hk, .null, .null])), (q_1, .inr (10, [.ref q_3])), (q_3, .inl (gI G, 32, .inl (fl 32 0 (fun _ => 0))))] := hD
  refine W.eq (g2 := F0 m 20 ls [.ref q_1, .ref h0]) rfl ?_
  refine va_putF (D := gD G) (ci := 3) (v := .ref q_1) (ty := tyX2 1) (C := RX2) (T := TX2) (N := 3) hx hb hts (fun _ h9 => (List.mem_cons_of_mem _ (List.mem_append_right _ (List.mem_append_left _ h9)))) tyX2 tyX2_ok nmX2 hown hK hP hD hS 0 rfl rfl 1 (by decide) (hts (.fieldLink RX2 20 "JudoHall$Drawer" "row" "LJudoHall$Row;") (List.mem_cons_of_mem _ (List.mem_append_left _ (List.mem_of_getElem? (i := 9) rfl)))) (fun _ h9 => h9) rfl hin rfl (tyX2_ok 1 (by decide)) rfl rfl (Nat.le_of_ble_eq_true rfl) dX2_init_20 (fun H locs hP hD hS => ?_)
  have hP : va_P (gD G) vwCl [(h0, .inr (3, [.ref hk, .ref q_1, .null])), (q_1, .inr (10, [.ref q_3])), (q_3, .inl (gI G, 32, .inl (fl 32 0 (fun _ => 0))))] H := hP
  have hD : va_D A [(h0, .inr (3, [.ref hk, .ref q_1, .null])), (q_1, .inr (10, [.ref q_3])), (q_3, .inl (gI G, 32, .inl (fl 32 0 (fun _ => 0))))] := hD
  refine lv_aload_n hx hb dX2_init_23 rfl (lv_at hl 0 rfl) ?_
  refine va_new (D := gD G) (ci := 10) (fs := [.null]) (C := RX9) (T := TX9) (N := 1) hx hb hts (fun _ h9 => (List.mem_cons_of_mem _ (List.mem_append_right _ (List.mem_append_right _ (List.mem_append_left _ h9))))) tyX9 tyX9_ok hown (hts (.classLink RX2 15 RX9) (List.mem_cons_of_mem _ (List.mem_append_left _ (List.mem_of_getElem? (i := 4) rfl)))) (hts (.instantiable RX9 1) (List.mem_cons_of_mem _ (List.mem_append_left _ (List.mem_of_getElem? (i := 5) rfl)))) (hts (.initialized RX9) (List.mem_cons_of_mem _ (List.mem_append_left _ (List.mem_of_getElem? (i := 6) rfl)))) hK hP hD hS hA rfl dvX9 (Nat.le_of_ble_eq_true rfl) (Nat.le_of_ble_eq_true rfl) dX2_init_24 (fun q_4 H hP hD hS => ?_)
  have hP : va_P (gD G) vwCl [(h0, .inr (3, [.ref hk, .ref q_1, .null])), (q_1, .inr (10, [.ref q_3])), (q_3, .inl (gI G, 32, .inl (fl 32 0 (fun _ => 0)))), (q_4, .inr (10, [.null]))] H := hP
  have hD : va_D A [(h0, .inr (3, [.ref hk, .ref q_1, .null])), (q_1, .inr (10, [.ref q_3])), (q_3, .inl (gI G, 32, .inl (fl 32 0 (fun _ => 0)))), (q_4, .inr (10, [.null]))] := hD
  refine lv_dup hx hb dX2_init_27 rfl ?_
  refine lv_bipush (v := 16) hx hb dX2_init_28 (by decide) ?_
  refine lv_iconst (v := 0) hx hb dX2_init_30 (by decide) ?_
  have hPc := hP.sub (ws' := [(q_4, .inr (10, [.null]))]) [3] rfl
  have hDc := hD.sub (ws' := [(q_4, .inr (10, [.null]))]) [3] (by decide) rfl
  have hFc := va_free (wc := [(q_4, .inr (10, [.null]))]) hD hS hA [3] rfl
  refine va_callv (va_runI (As := [.int 16, .int 0]) (rest := [.ref q_4, .ref h0]) ⟨hx, hb, hml, hown, hts⟩ (c_Row_init l G q_4 16 0 H.size (by decide)) (cwI 2 hts (fun w9 h9 => ⟨(List.mem_cons_of_mem _ (List.mem_append_right _ (List.mem_append_right _ (List.mem_append_right _ (List.mem_append_left _ h9))))), gd_c_Row_init w9 h9⟩) rfl rfl rfl (hts (.initialized RX9) (List.mem_cons_of_mem _ (List.mem_append_left _ (List.mem_of_getElem? (i := 6) rfl)))) (hts (.methodLink RX2 17 yX9_init) (List.mem_cons_of_mem _ (List.mem_append_left _ (List.mem_of_getElem? (i := 7) rfl)))) (hts (.instanceMethod yX9_init) (List.mem_cons_of_mem _ (List.mem_append_left _ (List.mem_of_getElem? (i := 8) rfl)))) rfl kSX9_init ⟨Nat.le_of_ble_eq_true rfl, Nat.le_of_ble_eq_true rfl⟩) (preS_m (As := [.ref q_4, .int 16, .int 0]) hPc hB hDc) rfl rfl hl.1 rfl (lv_room (Nat.le_of_ble_eq_true rfl)) dX2_init_31 ⟨Nat.le_of_ble_eq_true rfl, Nat.le_of_ble_eq_true rfl⟩) hS (fun q _ h => hFc q h) hFc (fun u t H1 locs ht hvm hw hB1 hz1 hk1 hS => ?_)
  obtain ⟨q_6, hP1, hD1⟩ := hB1
  rw [ht] at hP1
  obtain ⟨hP, hD⟩ := va_join (wr := [(h0, .inr (3, [.ref hk, .ref q_1, .null])), (q_1, .inr (10, [.ref q_3])), (q_3, .inl (gI G, 32, .inl (fl 32 0 (fun _ => 0))))]) (w1 := [(q_4, .inr (10, [.ref q_6])), (q_6, .inl (gI G, 16, .inl (fl 16 0 (fun _ => 0))))]) hP hD [3] [0, 1, 2] rfl rfl (by decide) (by decide) hk1 hFc hP1 hD1
  generalize H1 = H at hP hS ⊢
  have hP : va_P (gD G) vwCl [(h0, .inr (3, [.ref hk, .ref q_1, .null])), (q_1, .inr (10, [.ref q_3])), (q_3, .inl (gI G, 32, .inl (fl 32 0 (fun _ => 0)))), (q_4, .inr (10, [.ref q_6])), (q_6, .inl (gI G, 16, .inl (fl 16 0 (fun _ => 0))))] H := hP
  have hD : va_D A [(h0, .inr (3, [.ref hk, .ref q_1, .null])), (q_1, .inr (10, [.ref q_3])), (q_3, .inl (gI G, 32, .inl (fl 32 0 (fun _ => 0)))), (q_4, .inr (10, [.ref q_6])), (q_6, .inl (gI G, 16, .inl (fl 16 0 (fun _ => 0))))] := hD
  refine W.eq (g2 := F0 m 34 ls [.ref q_4, .ref h0]) rfl ?_
  refine va_putF (D := gD G) (ci := 3) (v := .ref q_4) (ty := tyX2 2) (C := RX2) (T := TX2) (N := 3) hx hb hts (fun _ h9 => (List.mem_cons_of_mem _ (List.mem_append_right _ (List.mem_append_left _ h9)))) tyX2 tyX2_ok nmX2 hown hK hP hD hS 0 rfl rfl 2 (by decide) (hts (.fieldLink RX2 24 "JudoHall$Drawer" "others" "LJudoHall$Row;") (List.mem_cons_of_mem _ (List.mem_append_left _ (List.mem_of_getElem? (i := 10) rfl)))) (fun _ h9 => h9) rfl hin rfl (tyX2_ok 2 (by decide)) rfl rfl (Nat.le_of_ble_eq_true rfl) dX2_init_34 (fun H locs hP hD hS => ?_)
  have hP : va_P (gD G) vwCl [(h0, .inr (3, [.ref hk, .ref q_1, .ref q_4])), (q_1, .inr (10, [.ref q_3])), (q_3, .inl (gI G, 32, .inl (fl 32 0 (fun _ => 0)))), (q_4, .inr (10, [.ref q_6])), (q_6, .inl (gI G, 16, .inl (fl 16 0 (fun _ => 0))))] H := hP
  have hD : va_D A [(h0, .inr (3, [.ref hk, .ref q_1, .ref q_4])), (q_1, .inr (10, [.ref q_3])), (q_3, .inl (gI G, 32, .inl (fl 32 0 (fun _ => 0)))), (q_4, .inr (10, [.ref q_6])), (q_6, .inl (gI G, 16, .inl (fl 16 0 (fun _ => 0))))] := hD
  have hP9 := hP.sub (ws' := [(h0, .inr (3, [.ref hk, .ref q_1, .ref q_4])), (q_1, .inr (10, [.ref q_3])), (q_3, .inl (gI G, 32, .inl (fl 32 0 (fun _ => 0)))), (q_4, .inr (10, [.ref q_6])), (q_6, .inl (gI G, 16, .inl (fl 16 0 (fun _ => 0))))]) [0, 1, 2, 3, 4] rfl
  have hD9 := hD.sub (ws' := [(h0, .inr (3, [.ref hk, .ref q_1, .ref q_4])), (q_1, .inr (10, [.ref q_3])), (q_3, .inl (gI G, 32, .inl (fl 32 0 (fun _ => 0)))), (q_4, .inr (10, [.ref q_6])), (q_6, .inl (gI G, 16, .inl (fl 16 0 (fun _ => 0))))]) [0, 1, 2, 3, 4] (by decide) rfl
  exact W.vret hx hb hr (fun t ht hW => ⟨⟨(), rfl, trivial, q_1, q_3, q_4, q_6, by rw [ht]; exact hP9, hD9⟩, hS.F ht⟩) hS.2.2 dX2_init_37

def wo_k_Board_init : List Cond := [.methodLink RX0 5 objectInit, .instanceMethod objectInit, .code objectInit ⟨#[0xb1]⟩ 1 none, .fieldLink RX0 11 "JudoHall$Board" "book" "LJudoHall$Book;", .classLink RX0 15 RX9, .instantiable RX9 1, .initialized RX9, .methodLink RX0 17 yX9_init, .instanceMethod yX9_init, .fieldLink RX0 20 "JudoHall$Board" "white" "LJudoHall$Row;", .fieldLink RX0 24 "JudoHall$Board" "blue" "LJudoHall$Row;", .fieldLink RX0 27 "JudoHall$Board" "winner" "LJudoHall$Row;", .fieldLink RX0 30 "JudoHall$Board" "state" "LJudoHall$Row;", .fieldLink RX0 33 "JudoHall$Board" "lost" "LJudoHall$Row;"]
def wq_k_Board_init : List Cond := .code yX0_init cX0_init 2 none :: (wo_k_Board_init ++ (wsX00 ++ (wsX90 ++ (wq_c_Row_init ++ []))))
theorem gd_k_Board_init : ∀ w ∈ wq_k_Board_init, Gd w := List.forall_mem_cons.mpr ⟨Or.inl rfl, List.forall_mem_append.mpr ⟨gdl wo_k_Board_init (by decide +kernel), (List.forall_mem_append.mpr ⟨gd_wsX00, (List.forall_mem_append.mpr ⟨gd_wsX90, (List.forall_mem_append.mpr ⟨gd_c_Row_init, (fun _ h => absurd h List.not_mem_nil)⟩)⟩)⟩)⟩⟩
theorem in_k_Board_init : ∀ w ∈ wq_k_Board_init, w ∈ lw_tbl := List.forall_mem_cons.mpr ⟨List.mem_of_getElem? (i := 411) (by decide +kernel), List.forall_mem_append.mpr ⟨inT2 wo_k_Board_init [(2, 19), (1, 36), (1, 37), (2, 22), (2, 20), (1, 45), (1, 3), (2, 21), (1, 47), (2, 23), (2, 24), (2, 25), (2, 26), (2, 27)] (by decide +kernel), (List.forall_mem_append.mpr ⟨in_wsX00, (List.forall_mem_append.mpr ⟨in_wsX90, (List.forall_mem_append.mpr ⟨in_c_Row_init, (fun _ h => absurd h List.not_mem_nil)⟩)⟩)⟩)⟩⟩
set_option maxHeartbeats 4000000 in
set_option maxRecDepth 100000 in
theorem k_Board_init (l : Launch) (G : gG) (h0 : Nat) (hk : Nat) (sz : Nat) : Met l yX0_init wq_k_Board_init ({ frames := 2, cells := 10, slots := 601, locals := 45 }) (va_Pc [.ref h0, .ref hk] (mP G [(h0, .inr (1, [.null, .null, .null, .null, .null, .null]))] sz)) (va_Qv (fun _ : Unit => True) (fun (_ : Unit) (t : State) => ∃ (b1 : Nat) (b2 : Nat) (b3 : Nat) (b4 : Nat) (b5 : Nat) (b6 : Nat) (b7 : Nat) (b8 : Nat) (b9 : Nat) (ba : Nat), va_P (gD G) vwCl [(h0, .inr (1, [.ref hk, .ref b1, .ref b3, .ref b5, .ref b7, .ref b9])), (b1, .inr (10, [.ref b2])), (b2, .inl (gI G, 148, .inl (fl 148 (-1) (fun _ => 0)))), (b3, .inr (10, [.ref b4])), (b4, .inl (gI G, 148, .inl (fl 148 (-1) (fun _ => 0)))), (b5, .inr (10, [.ref b6])), (b6, .inl (gI G, 148, .inl (fl 148 (-1) (fun _ => 0)))), (b7, .inr (10, [.ref b8])), (b8, .inl (gI G, 148, .inl (fl 148 0 (fun _ => 0)))), (b9, .inr (10, [.ref ba])), (ba, .inl (gI G, 4, .inl (fl 4 (-1) (fun _ => 0))))] t.heap ∧ va_D (va_A [(h0, .inr (1, [.null, .null, .null, .null, .null, .null]))] sz) [(h0, .inr (1, [.ref hk, .ref b1, .ref b3, .ref b5, .ref b7, .ref b9])), (b1, .inr (10, [.ref b2])), (b2, .inl (gI G, 148, .inl (fl 148 (-1) (fun _ => 0)))), (b3, .inr (10, [.ref b4])), (b4, .inl (gI G, 148, .inl (fl 148 (-1) (fun _ => 0)))), (b5, .inr (10, [.ref b6])), (b6, .inl (gI G, 148, .inl (fl 148 (-1) (fun _ => 0)))), (b7, .inr (10, [.ref b8])), (b8, .inl (gI G, 148, .inl (fl 148 0 (fun _ => 0)))), (b9, .inr (10, [.ref ba])), (ba, .inl (gI G, 4, .inl (fl 4 (-1) (fun _ => 0))))]) (va_A [(h0, .inr (1, [.null, .null, .null, .null, .null, .null]))] sz)) 10 601 (va_A [(h0, .inr (1, [.null, .null, .null, .null, .null, .null]))] sz) := by
  refine Met.ofW (cc := cX0_init) (maxL := 2) (ret := none) (by decide) rfl ?_
  intro p e s m args below meth c s₁ B hml hv
  obtain ⟨rfl, hsz, hP, hB, hD0⟩ := hv
  have hx := B.exec
  have hb := B.bytes
  have hr := B.returns
  have hts := atoms_spec (ws := wq_k_Board_init) B.pre
  have hown : s.vm.findClass RX0 = some m.cls := findClass_of_methodNamed B.named
  have hlocks := B.notSynchronized
  have hK := hB.1
  have hin : meth.name = "<init>" := (name_of_methodNamed B.named B.method).1
  subst hsz
  have hD := hD0.self (sz := s.heap.size)
  generalize hAe : va_A [(h0, .inr (1, [.null, .null, .null, .null, .null, .null]))] s.heap.size = A at hD ⊢
  have hA : ∀ q : Nat, s.heap.size ≤ q → A q := fun q h => by rw [← hAe]; exact Or.inr h
  have hS : va_S A s.heap s.heap [] := va_S.rf
  have hP : va_P (gD G) vwCl [(h0, .inr (1, [.null, .null, .null, .null, .null, .null]))] s.heap := hP
  have hD : va_D A [(h0, .inr (1, [.null, .null, .null, .null, .null, .null]))] := hD
  have hl := lv_entry ([.ref h0, .ref hk]) (n := 2) (Nat.le_of_ble_eq_true rfl)
  rw [lg_entry_eq]
  generalize (lg_sl ([.ref h0, .ref hk]) ++ List.replicate (2 - (lg_sl ([.ref h0, .ref hk])).length) Slot.unset).toArray = ls at hl ⊢
  have hl : lv_has ls 2 [(0, .ref h0), (1, .ref hk)] := hl
  refine lv_aload_n hx hb dX0_init_0 rfl (lv_at hl 0 rfl) ?_
  refine W.objInit hx hb hown (hts (.methodLink RX0 5 objectInit) (List.mem_cons_of_mem _ (List.mem_append_left _ (List.mem_of_getElem? (i := 0) rfl)))) (hts (.instanceMethod objectInit) (List.mem_cons_of_mem _ (List.mem_append_left _ (List.mem_of_getElem? (i := 1) rfl)))) (hts _ (List.mem_cons_of_mem _ (List.mem_append_left _ (List.mem_of_getElem? (i := 2) rfl)))) rfl (by rw [hml]; exact hl.1) rfl dX0_init_1 (Nat.le_of_ble_eq_true rfl) (Nat.le_of_ble_eq_true rfl) ?_
  refine W.eq (g2 := F0 m 4 ls []) rfl ?_
  refine lv_aload_n hx hb dX0_init_4 rfl (lv_at hl 0 rfl) ?_
  refine lv_aload_n hx hb dX0_init_5 rfl (lv_at hl 1 rfl) ?_
  refine va_putF (D := gD G) (ci := 1) (v := .ref hk) (ty := tyX0 0) (C := RX0) (T := TX0) (N := 6) hx hb hts (fun _ h9 => (List.mem_cons_of_mem _ (List.mem_append_right _ (List.mem_append_left _ h9)))) tyX0 tyX0_ok nmX0 hown hK hP hD hS 0 rfl rfl 0 (by decide) (hts (.fieldLink RX0 11 "JudoHall$Board" "book" "LJudoHall$Book;") (List.mem_cons_of_mem _ (List.mem_append_left _ (List.mem_of_getElem? (i := 3) rfl)))) (fun _ h9 => h9) rfl hin rfl (tyX0_ok 0 (by decide)) rfl rfl (Nat.le_of_ble_eq_true rfl) dX0_init_6 (fun H locs hP hD hS => ?_)
  have hP : va_P (gD G) vwCl [(h0, .inr (1, [.ref hk, .null, .null, .null, .null, .null]))] H := hP
  have hD : va_D A [(h0, .inr (1, [.ref hk, .null, .null, .null, .null, .null]))] := hD
  refine lv_aload_n hx hb dX0_init_9 rfl (lv_at hl 0 rfl) ?_
  refine va_new (D := gD G) (ci := 10) (fs := [.null]) (C := RX9) (T := TX9) (N := 1) hx hb hts (fun _ h9 => (List.mem_cons_of_mem _ (List.mem_append_right _ (List.mem_append_right _ (List.mem_append_left _ h9))))) tyX9 tyX9_ok hown (hts (.classLink RX0 15 RX9) (List.mem_cons_of_mem _ (List.mem_append_left _ (List.mem_of_getElem? (i := 4) rfl)))) (hts (.instantiable RX9 1) (List.mem_cons_of_mem _ (List.mem_append_left _ (List.mem_of_getElem? (i := 5) rfl)))) (hts (.initialized RX9) (List.mem_cons_of_mem _ (List.mem_append_left _ (List.mem_of_getElem? (i := 6) rfl)))) hK hP hD hS hA rfl dvX9 (Nat.le_of_ble_eq_true rfl) (Nat.le_of_ble_eq_true rfl) dX0_init_10 (fun q_1 H hP hD hS => ?_)
  have hP : va_P (gD G) vwCl [(h0, .inr (1, [.ref hk, .null, .null, .null, .null, .null])), (q_1, .inr (10, [.null]))] H := hP
  have hD : va_D A [(h0, .inr (1, [.ref hk, .null, .null, .null, .null, .null])), (q_1, .inr (10, [.null]))] := hD
  refine lv_dup hx hb dX0_init_13 rfl ?_
  refine lv_sipush (v := 148) hx hb dX0_init_14 (by decide) ?_
  refine lv_iconst (v := (-1)) hx hb dX0_init_17 (by decide) ?_
  have hPc := hP.sub (ws' := [(q_1, .inr (10, [.null]))]) [1] rfl
  have hDc := hD.sub (ws' := [(q_1, .inr (10, [.null]))]) [1] (by decide) rfl
  have hFc := va_free (wc := [(q_1, .inr (10, [.null]))]) hD hS hA [1] rfl
  refine va_callv (va_runI (As := [.int 148, .int (-1)]) (rest := [.ref q_1, .ref h0]) ⟨hx, hb, hml, hown, hts⟩ (c_Row_init l G q_1 148 (-1) H.size (by decide)) (cwI 2 hts (fun w9 h9 => ⟨(List.mem_cons_of_mem _ (List.mem_append_right _ (List.mem_append_right _ (List.mem_append_right _ (List.mem_append_left _ h9))))), gd_c_Row_init w9 h9⟩) rfl rfl rfl (hts (.initialized RX9) (List.mem_cons_of_mem _ (List.mem_append_left _ (List.mem_of_getElem? (i := 6) rfl)))) (hts (.methodLink RX0 17 yX9_init) (List.mem_cons_of_mem _ (List.mem_append_left _ (List.mem_of_getElem? (i := 7) rfl)))) (hts (.instanceMethod yX9_init) (List.mem_cons_of_mem _ (List.mem_append_left _ (List.mem_of_getElem? (i := 8) rfl)))) rfl kSX9_init ⟨Nat.le_of_ble_eq_true rfl, Nat.le_of_ble_eq_true rfl⟩) (preS_m (As := [.ref q_1, .int 148, .int (-1)]) hPc hB hDc) rfl rfl hl.1 rfl (lv_room (Nat.le_of_ble_eq_true rfl)) dX0_init_18 ⟨Nat.le_of_ble_eq_true rfl, Nat.le_of_ble_eq_true rfl⟩) hS (fun q _ h => hFc q h) hFc (fun u t H1 locs ht hvm hw hB1 hz1 hk1 hS => ?_)
  obtain ⟨q_3, hP1, hD1⟩ := hB1
  rw [ht] at hP1
  obtain ⟨hP, hD⟩ := va_join (wr := [(h0, .inr (1, [.ref hk, .null, .null, .null, .null, .null]))]) (w1 := [(q_1, .inr (10, [.ref q_3])), (q_3, .inl (gI G, 148, .inl (fl 148 (-1) (fun _ => 0))))]) hP hD [1] [0] rfl rfl (by decide) (by decide) hk1 hFc hP1 hD1
  generalize H1 = H at hP hS ⊢
  have hP : va_P (gD G) vwCl [(h0, .inr (1, [.ref hk, .null, .null, .null, .null, .null])), (q_1, .inr (10, [.ref q_3])), (q_3, .inl (gI G, 148, .inl (fl 148 (-1) (fun _ => 0))))] H := hP
  have hD : va_D A [(h0, .inr (1, [.ref hk, .null, .null, .null, .null, .null])), (q_1, .inr (10, [.ref q_3])), (q_3, .inl (gI G, 148, .inl (fl 148 (-1) (fun _ => 0))))] := hD
  refine W.eq (g2 := F0 m 21 ls [.ref q_1, .ref h0]) rfl ?_
  refine va_putF (D := gD G) (ci := 1) (v := .ref q_1) (ty := tyX0 1) (C := RX0) (T := TX0) (N := 6) hx hb hts (fun _ h9 => (List.mem_cons_of_mem _ (List.mem_append_right _ (List.mem_append_left _ h9)))) tyX0 tyX0_ok nmX0 hown hK hP hD hS 0 rfl rfl 1 (by decide) (hts (.fieldLink RX0 20 "JudoHall$Board" "white" "LJudoHall$Row;") (List.mem_cons_of_mem _ (List.mem_append_left _ (List.mem_of_getElem? (i := 9) rfl)))) (fun _ h9 => h9) rfl hin rfl (tyX0_ok 1 (by decide)) rfl rfl (Nat.le_of_ble_eq_true rfl) dX0_init_21 (fun H locs hP hD hS => ?_)
  have hP : va_P (gD G) vwCl [(h0, .inr (1, [.ref hk, .ref q_1, .null, .null, .null, .null])), (q_1, .inr (10, [.ref q_3])), (q_3, .inl (gI G, 148, .inl (fl 148 (-1) (fun _ => 0))))] H := hP
  have hD : va_D A [(h0, .inr (1, [.ref hk, .ref q_1, .null, .null, .null, .null])), (q_1, .inr (10, [.ref q_3])), (q_3, .inl (gI G, 148, .inl (fl 148 (-1) (fun _ => 0))))] := hD
  refine lv_aload_n hx hb dX0_init_24 rfl (lv_at hl 0 rfl) ?_
  refine va_new (D := gD G) (ci := 10) (fs := [.null]) (C := RX9) (T := TX9) (N := 1) hx hb hts (fun _ h9 => (List.mem_cons_of_mem _ (List.mem_append_right _ (List.mem_append_right _ (List.mem_append_left _ h9))))) tyX9 tyX9_ok hown (hts (.classLink RX0 15 RX9) (List.mem_cons_of_mem _ (List.mem_append_left _ (List.mem_of_getElem? (i := 4) rfl)))) (hts (.instantiable RX9 1) (List.mem_cons_of_mem _ (List.mem_append_left _ (List.mem_of_getElem? (i := 5) rfl)))) (hts (.initialized RX9) (List.mem_cons_of_mem _ (List.mem_append_left _ (List.mem_of_getElem? (i := 6) rfl)))) hK hP hD hS hA rfl dvX9 (Nat.le_of_ble_eq_true rfl) (Nat.le_of_ble_eq_true rfl) dX0_init_25 (fun q_4 H hP hD hS => ?_)
  have hP : va_P (gD G) vwCl [(h0, .inr (1, [.ref hk, .ref q_1, .null, .null, .null, .null])), (q_1, .inr (10, [.ref q_3])), (q_3, .inl (gI G, 148, .inl (fl 148 (-1) (fun _ => 0)))), (q_4, .inr (10, [.null]))] H := hP
  have hD : va_D A [(h0, .inr (1, [.ref hk, .ref q_1, .null, .null, .null, .null])), (q_1, .inr (10, [.ref q_3])), (q_3, .inl (gI G, 148, .inl (fl 148 (-1) (fun _ => 0)))), (q_4, .inr (10, [.null]))] := hD
  refine lv_dup hx hb dX0_init_28 rfl ?_
  refine lv_sipush (v := 148) hx hb dX0_init_29 (by decide) ?_
  refine lv_iconst (v := (-1)) hx hb dX0_init_32 (by decide) ?_
  have hPc := hP.sub (ws' := [(q_4, .inr (10, [.null]))]) [3] rfl
  have hDc := hD.sub (ws' := [(q_4, .inr (10, [.null]))]) [3] (by decide) rfl
  have hFc := va_free (wc := [(q_4, .inr (10, [.null]))]) hD hS hA [3] rfl
  refine va_callv (va_runI (As := [.int 148, .int (-1)]) (rest := [.ref q_4, .ref h0]) ⟨hx, hb, hml, hown, hts⟩ (c_Row_init l G q_4 148 (-1) H.size (by decide)) (cwI 2 hts (fun w9 h9 => ⟨(List.mem_cons_of_mem _ (List.mem_append_right _ (List.mem_append_right _ (List.mem_append_right _ (List.mem_append_left _ h9))))), gd_c_Row_init w9 h9⟩) rfl rfl rfl (hts (.initialized RX9) (List.mem_cons_of_mem _ (List.mem_append_left _ (List.mem_of_getElem? (i := 6) rfl)))) (hts (.methodLink RX0 17 yX9_init) (List.mem_cons_of_mem _ (List.mem_append_left _ (List.mem_of_getElem? (i := 7) rfl)))) (hts (.instanceMethod yX9_init) (List.mem_cons_of_mem _ (List.mem_append_left _ (List.mem_of_getElem? (i := 8) rfl)))) rfl kSX9_init ⟨Nat.le_of_ble_eq_true rfl, Nat.le_of_ble_eq_true rfl⟩) (preS_m (As := [.ref q_4, .int 148, .int (-1)]) hPc hB hDc) rfl rfl hl.1 rfl (lv_room (Nat.le_of_ble_eq_true rfl)) dX0_init_33 ⟨Nat.le_of_ble_eq_true rfl, Nat.le_of_ble_eq_true rfl⟩) hS (fun q _ h => hFc q h) hFc (fun u t H1 locs ht hvm hw hB1 hz1 hk1 hS => ?_)
  obtain ⟨q_6, hP1, hD1⟩ := hB1
  rw [ht] at hP1
  obtain ⟨hP, hD⟩ := va_join (wr := [(h0, .inr (1, [.ref hk, .ref q_1, .null, .null, .null, .null])), (q_1, .inr (10, [.ref q_3])), (q_3, .inl (gI G, 148, .inl (fl 148 (-1) (fun _ => 0))))]) (w1 := [(q_4, .inr (10, [.ref q_6])), (q_6, .inl (gI G, 148, .inl (fl 148 (-1) (fun _ => 0))))]) hP hD [3] [0, 1, 2] rfl rfl (by decide) (by decide) hk1 hFc hP1 hD1
  generalize H1 = H at hP hS ⊢
  have hP : va_P (gD G) vwCl [(h0, .inr (1, [.ref hk, .ref q_1, .null, .null, .null, .null])), (q_1, .inr (10, [.ref q_3])), (q_3, .inl (gI G, 148, .inl (fl 148 (-1) (fun _ => 0)))), (q_4, .inr (10, [.ref q_6])), (q_6, .inl (gI G, 148, .inl (fl 148 (-1) (fun _ => 0))))] H := hP
  have hD : va_D A [(h0, .inr (1, [.ref hk, .ref q_1, .null, .null, .null, .null])), (q_1, .inr (10, [.ref q_3])), (q_3, .inl (gI G, 148, .inl (fl 148 (-1) (fun _ => 0)))), (q_4, .inr (10, [.ref q_6])), (q_6, .inl (gI G, 148, .inl (fl 148 (-1) (fun _ => 0))))] := hD
  refine W.eq (g2 := F0 m 36 ls [.ref q_4, .ref h0]) rfl ?_
  refine va_putF (D := gD G) (ci := 1) (v := .ref q_4) (ty := tyX0 2) (C := RX0) (T := TX0) (N := 6) hx hb hts (fun _ h9 => (List.mem_cons_of_mem _ (List.mem_append_right _ (List.mem_append_left _ h9)))) tyX0 tyX0_ok nmX0 hown hK hP hD hS 0 rfl rfl 2 (by decide) (hts (.fieldLink RX0 24 "JudoHall$Board" "blue" "LJudoHall$Row;") (List.mem_cons_of_mem _ (List.mem_append_left _ (List.mem_of_getElem? (i := 10) rfl)))) (fun _ h9 => h9) rfl hin rfl (tyX0_ok 2 (by decide)) rfl rfl (Nat.le_of_ble_eq_true rfl) dX0_init_36 (fun H locs hP hD hS => ?_)
  have hP : va_P (gD G) vwCl [(h0, .inr (1, [.ref hk, .ref q_1, .ref q_4, .null, .null, .null])), (q_1, .inr (10, [.ref q_3])), (q_3, .inl (gI G, 148, .inl (fl 148 (-1) (fun _ => 0)))), (q_4, .inr (10, [.ref q_6])), (q_6, .inl (gI G, 148, .inl (fl 148 (-1) (fun _ => 0))))] H := hP
  have hD : va_D A [(h0, .inr (1, [.ref hk, .ref q_1, .ref q_4, .null, .null, .null])), (q_1, .inr (10, [.ref q_3])), (q_3, .inl (gI G, 148, .inl (fl 148 (-1) (fun _ => 0)))), (q_4, .inr (10, [.ref q_6])), (q_6, .inl (gI G, 148, .inl (fl 148 (-1) (fun _ => 0))))] := hD
  refine lv_aload_n hx hb dX0_init_39 rfl (lv_at hl 0 rfl) ?_
  refine va_new (D := gD G) (ci := 10) (fs := [.null]) (C := RX9) (T := TX9) (N := 1) hx hb hts (fun _ h9 => (List.mem_cons_of_mem _ (List.mem_append_right _ (List.mem_append_right _ (List.mem_append_left _ h9))))) tyX9 tyX9_ok hown (hts (.classLink RX0 15 RX9) (List.mem_cons_of_mem _ (List.mem_append_left _ (List.mem_of_getElem? (i := 4) rfl)))) (hts (.instantiable RX9 1) (List.mem_cons_of_mem _ (List.mem_append_left _ (List.mem_of_getElem? (i := 5) rfl)))) (hts (.initialized RX9) (List.mem_cons_of_mem _ (List.mem_append_left _ (List.mem_of_getElem? (i := 6) rfl)))) hK hP hD hS hA rfl dvX9 (Nat.le_of_ble_eq_true rfl) (Nat.le_of_ble_eq_true rfl) dX0_init_40 (fun q_7 H hP hD hS => ?_)
  have hP : va_P (gD G) vwCl [(h0, .inr (1, [.ref hk, .ref q_1, .ref q_4, .null, .null, .null])), (q_1, .inr (10, [.ref q_3])), (q_3, .inl (gI G, 148, .inl (fl 148 (-1) (fun _ => 0)))), (q_4, .inr (10, [.ref q_6])), (q_6, .inl (gI G, 148, .inl (fl 148 (-1) (fun _ => 0)))), (q_7, .inr (10, [.null]))] H := hP
  have hD : va_D A [(h0, .inr (1, [.ref hk, .ref q_1, .ref q_4, .null, .null, .null])), (q_1, .inr (10, [.ref q_3])), (q_3, .inl (gI G, 148, .inl (fl 148 (-1) (fun _ => 0)))), (q_4, .inr (10, [.ref q_6])), (q_6, .inl (gI G, 148, .inl (fl 148 (-1) (fun _ => 0)))), (q_7, .inr (10, [.null]))] := hD
  refine lv_dup hx hb dX0_init_43 rfl ?_
  refine lv_sipush (v := 148) hx hb dX0_init_44 (by decide) ?_
  refine lv_iconst (v := (-1)) hx hb dX0_init_47 (by decide) ?_
  have hPc := hP.sub (ws' := [(q_7, .inr (10, [.null]))]) [5] rfl
  have hDc := hD.sub (ws' := [(q_7, .inr (10, [.null]))]) [5] (by decide) rfl
  have hFc := va_free (wc := [(q_7, .inr (10, [.null]))]) hD hS hA [5] rfl
  refine va_callv (va_runI (As := [.int 148, .int (-1)]) (rest := [.ref q_7, .ref h0]) ⟨hx, hb, hml, hown, hts⟩ (c_Row_init l G q_7 148 (-1) H.size (by decide)) (cwI 2 hts (fun w9 h9 => ⟨(List.mem_cons_of_mem _ (List.mem_append_right _ (List.mem_append_right _ (List.mem_append_right _ (List.mem_append_left _ h9))))), gd_c_Row_init w9 h9⟩) rfl rfl rfl (hts (.initialized RX9) (List.mem_cons_of_mem _ (List.mem_append_left _ (List.mem_of_getElem? (i := 6) rfl)))) (hts (.methodLink RX0 17 yX9_init) (List.mem_cons_of_mem _ (List.mem_append_left _ (List.mem_of_getElem? (i := 7) rfl)))) (hts (.instanceMethod yX9_init) (List.mem_cons_of_mem _ (List.mem_append_left _ (List.mem_of_getElem? (i := 8) rfl)))) rfl kSX9_init ⟨Nat.le_of_ble_eq_true rfl, Nat.le_of_ble_eq_true rfl⟩) (preS_m (As := [.ref q_7, .int 148, .int (-1)]) hPc hB hDc) rfl rfl hl.1 rfl (lv_room (Nat.le_of_ble_eq_true rfl)) dX0_init_48 ⟨Nat.le_of_ble_eq_true rfl, Nat.le_of_ble_eq_true rfl⟩) hS (fun q _ h => hFc q h) hFc (fun u t H1 locs ht hvm hw hB1 hz1 hk1 hS => ?_)
  obtain ⟨q_9, hP1, hD1⟩ := hB1
  rw [ht] at hP1
  obtain ⟨hP, hD⟩ := va_join (wr := [(h0, .inr (1, [.ref hk, .ref q_1, .ref q_4, .null, .null, .null])), (q_1, .inr (10, [.ref q_3])), (q_3, .inl (gI G, 148, .inl (fl 148 (-1) (fun _ => 0)))), (q_4, .inr (10, [.ref q_6])), (q_6, .inl (gI G, 148, .inl (fl 148 (-1) (fun _ => 0))))]) (w1 := [(q_7, .inr (10, [.ref q_9])), (q_9, .inl (gI G, 148, .inl (fl 148 (-1) (fun _ => 0))))]) hP hD [5] [0, 1, 2, 3, 4] rfl rfl (by decide) (by decide) hk1 hFc hP1 hD1
  generalize H1 = H at hP hS ⊢
  have hP : va_P (gD G) vwCl [(h0, .inr (1, [.ref hk, .ref q_1, .ref q_4, .null, .null, .null])), (q_1, .inr (10, [.ref q_3])), (q_3, .inl (gI G, 148, .inl (fl 148 (-1) (fun _ => 0)))), (q_4, .inr (10, [.ref q_6])), (q_6, .inl (gI G, 148, .inl (fl 148 (-1) (fun _ => 0)))), (q_7, .inr (10, [.ref q_9])), (q_9, .inl (gI G, 148, .inl (fl 148 (-1) (fun _ => 0))))] H := hP
  have hD : va_D A [(h0, .inr (1, [.ref hk, .ref q_1, .ref q_4, .null, .null, .null])), (q_1, .inr (10, [.ref q_3])), (q_3, .inl (gI G, 148, .inl (fl 148 (-1) (fun _ => 0)))), (q_4, .inr (10, [.ref q_6])), (q_6, .inl (gI G, 148, .inl (fl 148 (-1) (fun _ => 0)))), (q_7, .inr (10, [.ref q_9])), (q_9, .inl (gI G, 148, .inl (fl 148 (-1) (fun _ => 0))))] := hD
  refine W.eq (g2 := F0 m 51 ls [.ref q_7, .ref h0]) rfl ?_
  refine va_putF (D := gD G) (ci := 1) (v := .ref q_7) (ty := tyX0 3) (C := RX0) (T := TX0) (N := 6) hx hb hts (fun _ h9 => (List.mem_cons_of_mem _ (List.mem_append_right _ (List.mem_append_left _ h9)))) tyX0 tyX0_ok nmX0 hown hK hP hD hS 0 rfl rfl 3 (by decide) (hts (.fieldLink RX0 27 "JudoHall$Board" "winner" "LJudoHall$Row;") (List.mem_cons_of_mem _ (List.mem_append_left _ (List.mem_of_getElem? (i := 11) rfl)))) (fun _ h9 => h9) rfl hin rfl (tyX0_ok 3 (by decide)) rfl rfl (Nat.le_of_ble_eq_true rfl) dX0_init_51 (fun H locs hP hD hS => ?_)
  have hP : va_P (gD G) vwCl [(h0, .inr (1, [.ref hk, .ref q_1, .ref q_4, .ref q_7, .null, .null])), (q_1, .inr (10, [.ref q_3])), (q_3, .inl (gI G, 148, .inl (fl 148 (-1) (fun _ => 0)))), (q_4, .inr (10, [.ref q_6])), (q_6, .inl (gI G, 148, .inl (fl 148 (-1) (fun _ => 0)))), (q_7, .inr (10, [.ref q_9])), (q_9, .inl (gI G, 148, .inl (fl 148 (-1) (fun _ => 0))))] H := hP
  have hD : va_D A [(h0, .inr (1, [.ref hk, .ref q_1, .ref q_4, .ref q_7, .null, .null])), (q_1, .inr (10, [.ref q_3])), (q_3, .inl (gI G, 148, .inl (fl 148 (-1) (fun _ => 0)))), (q_4, .inr (10, [.ref q_6])), (q_6, .inl (gI G, 148, .inl (fl 148 (-1) (fun _ => 0)))), (q_7, .inr (10, [.ref q_9])), (q_9, .inl (gI G, 148, .inl (fl 148 (-1) (fun _ => 0))))] := hD
  refine lv_aload_n hx hb dX0_init_54 rfl (lv_at hl 0 rfl) ?_
  refine va_new (D := gD G) (ci := 10) (fs := [.null]) (C := RX9) (T := TX9) (N := 1) hx hb hts (fun _ h9 => (List.mem_cons_of_mem _ (List.mem_append_right _ (List.mem_append_right _ (List.mem_append_left _ h9))))) tyX9 tyX9_ok hown (hts (.classLink RX0 15 RX9) (List.mem_cons_of_mem _ (List.mem_append_left _ (List.mem_of_getElem? (i := 4) rfl)))) (hts (.instantiable RX9 1) (List.mem_cons_of_mem _ (List.mem_append_left _ (List.mem_of_getElem? (i := 5) rfl)))) (hts (.initialized RX9) (List.mem_cons_of_mem _ (List.mem_append_left _ (List.mem_of_getElem? (i := 6) rfl)))) hK hP hD hS hA rfl dvX9 (Nat.le_of_ble_eq_true rfl) (Nat.le_of_ble_eq_true rfl) dX0_init_55 (fun q_10 H hP hD hS => ?_)
  have hP : va_P (gD G) vwCl [(h0, .inr (1, [.ref hk, .ref q_1, .ref q_4, .ref q_7, .null, .null])), (q_1, .inr (10, [.ref q_3])), (q_3, .inl (gI G, 148, .inl (fl 148 (-1) (fun _ => 0)))), (q_4, .inr (10, [.ref q_6])), (q_6, .inl (gI G, 148, .inl (fl 148 (-1) (fun _ => 0)))), (q_7, .inr (10, [.ref q_9])), (q_9, .inl (gI G, 148, .inl (fl 148 (-1) (fun _ => 0)))), (q_10, .inr (10, [.null]))] H := hP
  have hD : va_D A [(h0, .inr (1, [.ref hk, .ref q_1, .ref q_4, .ref q_7, .null, .null])), (q_1, .inr (10, [.ref q_3])), (q_3, .inl (gI G, 148, .inl (fl 148 (-1) (fun _ => 0)))), (q_4, .inr (10, [.ref q_6])), (q_6, .inl (gI G, 148, .inl (fl 148 (-1) (fun _ => 0)))), (q_7, .inr (10, [.ref q_9])), (q_9, .inl (gI G, 148, .inl (fl 148 (-1) (fun _ => 0)))), (q_10, .inr (10, [.null]))] := hD
  refine lv_dup hx hb dX0_init_58 rfl ?_
  refine lv_sipush (v := 148) hx hb dX0_init_59 (by decide) ?_
  refine lv_iconst (v := 0) hx hb dX0_init_62 (by decide) ?_
  have hPc := hP.sub (ws' := [(q_10, .inr (10, [.null]))]) [7] rfl
  have hDc := hD.sub (ws' := [(q_10, .inr (10, [.null]))]) [7] (by decide) rfl
  have hFc := va_free (wc := [(q_10, .inr (10, [.null]))]) hD hS hA [7] rfl
  refine va_callv (va_runI (As := [.int 148, .int 0]) (rest := [.ref q_10, .ref h0]) ⟨hx, hb, hml, hown, hts⟩ (c_Row_init l G q_10 148 0 H.size (by decide)) (cwI 2 hts (fun w9 h9 => ⟨(List.mem_cons_of_mem _ (List.mem_append_right _ (List.mem_append_right _ (List.mem_append_right _ (List.mem_append_left _ h9))))), gd_c_Row_init w9 h9⟩) rfl rfl rfl (hts (.initialized RX9) (List.mem_cons_of_mem _ (List.mem_append_left _ (List.mem_of_getElem? (i := 6) rfl)))) (hts (.methodLink RX0 17 yX9_init) (List.mem_cons_of_mem _ (List.mem_append_left _ (List.mem_of_getElem? (i := 7) rfl)))) (hts (.instanceMethod yX9_init) (List.mem_cons_of_mem _ (List.mem_append_left _ (List.mem_of_getElem? (i := 8) rfl)))) rfl kSX9_init ⟨Nat.le_of_ble_eq_true rfl, Nat.le_of_ble_eq_true rfl⟩) (preS_m (As := [.ref q_10, .int 148, .int 0]) hPc hB hDc) rfl rfl hl.1 rfl (lv_room (Nat.le_of_ble_eq_true rfl)) dX0_init_63 ⟨Nat.le_of_ble_eq_true rfl, Nat.le_of_ble_eq_true rfl⟩) hS (fun q _ h => hFc q h) hFc (fun u t H1 locs ht hvm hw hB1 hz1 hk1 hS => ?_)
  obtain ⟨q_12, hP1, hD1⟩ := hB1
  rw [ht] at hP1
  obtain ⟨hP, hD⟩ := va_join (wr := [(h0, .inr (1, [.ref hk, .ref q_1, .ref q_4, .ref q_7, .null, .null])), (q_1, .inr (10, [.ref q_3])), (q_3, .inl (gI G, 148, .inl (fl 148 (-1) (fun _ => 0)))), (q_4, .inr (10, [.ref q_6])), (q_6, .inl (gI G, 148, .inl (fl 148 (-1) (fun _ => 0)))), (q_7, .inr (10, [.ref q_9])), (q_9, .inl (gI G, 148, .inl (fl 148 (-1) (fun _ => 0))))]) (w1 := [(q_10, .inr (10, [.ref q_12])), (q_12, .inl (gI G, 148, .inl (fl 148 0 (fun _ => 0))))]) hP hD [7] [0, 1, 2, 3, 4, 5, 6] rfl rfl (by decide) (by decide) hk1 hFc hP1 hD1
  generalize H1 = H at hP hS ⊢
  have hP : va_P (gD G) vwCl [(h0, .inr (1, [.ref hk, .ref q_1, .ref q_4, .ref q_7, .null, .null])), (q_1, .inr (10, [.ref q_3])), (q_3, .inl (gI G, 148, .inl (fl 148 (-1) (fun _ => 0)))), (q_4, .inr (10, [.ref q_6])), (q_6, .inl (gI G, 148, .inl (fl 148 (-1) (fun _ => 0)))), (q_7, .inr (10, [.ref q_9])), (q_9, .inl (gI G, 148, .inl (fl 148 (-1) (fun _ => 0)))), (q_10, .inr (10, [.ref q_12])), (q_12, .inl (gI G, 148, .inl (fl 148 0 (fun _ => 0))))] H := hP
  have hD : va_D A [(h0, .inr (1, [.ref hk, .ref q_1, .ref q_4, .ref q_7, .null, .null])), (q_1, .inr (10, [.ref q_3])), (q_3, .inl (gI G, 148, .inl (fl 148 (-1) (fun _ => 0)))), (q_4, .inr (10, [.ref q_6])), (q_6, .inl (gI G, 148, .inl (fl 148 (-1) (fun _ => 0)))), (q_7, .inr (10, [.ref q_9])), (q_9, .inl (gI G, 148, .inl (fl 148 (-1) (fun _ => 0)))), (q_10, .inr (10, [.ref q_12])), (q_12, .inl (gI G, 148, .inl (fl 148 0 (fun _ => 0))))] := hD
  refine W.eq (g2 := F0 m 66 ls [.ref q_10, .ref h0]) rfl ?_
  refine va_putF (D := gD G) (ci := 1) (v := .ref q_10) (ty := tyX0 4) (C := RX0) (T := TX0) (N := 6) hx hb hts (fun _ h9 => (List.mem_cons_of_mem _ (List.mem_append_right _ (List.mem_append_left _ h9)))) tyX0 tyX0_ok nmX0 hown hK hP hD hS 0 rfl rfl 4 (by decide) (hts (.fieldLink RX0 30 "JudoHall$Board" "state" "LJudoHall$Row;") (List.mem_cons_of_mem _ (List.mem_append_left _ (List.mem_of_getElem? (i := 12) rfl)))) (fun _ h9 => h9) rfl hin rfl (tyX0_ok 4 (by decide)) rfl rfl (Nat.le_of_ble_eq_true rfl) dX0_init_66 (fun H locs hP hD hS => ?_)
  have hP : va_P (gD G) vwCl [(h0, .inr (1, [.ref hk, .ref q_1, .ref q_4, .ref q_7, .ref q_10, .null])), (q_1, .inr (10, [.ref q_3])), (q_3, .inl (gI G, 148, .inl (fl 148 (-1) (fun _ => 0)))), (q_4, .inr (10, [.ref q_6])), (q_6, .inl (gI G, 148, .inl (fl 148 (-1) (fun _ => 0)))), (q_7, .inr (10, [.ref q_9])), (q_9, .inl (gI G, 148, .inl (fl 148 (-1) (fun _ => 0)))), (q_10, .inr (10, [.ref q_12])), (q_12, .inl (gI G, 148, .inl (fl 148 0 (fun _ => 0))))] H := hP
  have hD : va_D A [(h0, .inr (1, [.ref hk, .ref q_1, .ref q_4, .ref q_7, .ref q_10, .null])), (q_1, .inr (10, [.ref q_3])), (q_3, .inl (gI G, 148, .inl (fl 148 (-1) (fun _ => 0)))), (q_4, .inr (10, [.ref q_6])), (q_6, .inl (gI G, 148, .inl (fl 148 (-1) (fun _ => 0)))), (q_7, .inr (10, [.ref q_9])), (q_9, .inl (gI G, 148, .inl (fl 148 (-1) (fun _ => 0)))), (q_10, .inr (10, [.ref q_12])), (q_12, .inl (gI G, 148, .inl (fl 148 0 (fun _ => 0))))] := hD
  refine lv_aload_n hx hb dX0_init_69 rfl (lv_at hl 0 rfl) ?_
  refine va_new (D := gD G) (ci := 10) (fs := [.null]) (C := RX9) (T := TX9) (N := 1) hx hb hts (fun _ h9 => (List.mem_cons_of_mem _ (List.mem_append_right _ (List.mem_append_right _ (List.mem_append_left _ h9))))) tyX9 tyX9_ok hown (hts (.classLink RX0 15 RX9) (List.mem_cons_of_mem _ (List.mem_append_left _ (List.mem_of_getElem? (i := 4) rfl)))) (hts (.instantiable RX9 1) (List.mem_cons_of_mem _ (List.mem_append_left _ (List.mem_of_getElem? (i := 5) rfl)))) (hts (.initialized RX9) (List.mem_cons_of_mem _ (List.mem_append_left _ (List.mem_of_getElem? (i := 6) rfl)))) hK hP hD hS hA rfl dvX9 (Nat.le_of_ble_eq_true rfl) (Nat.le_of_ble_eq_true rfl) dX0_init_70 (fun q_13 H hP hD hS => ?_)
  have hP : va_P (gD G) vwCl [(h0, .inr (1, [.ref hk, .ref q_1, .ref q_4, .ref q_7, .ref q_10, .null])), (q_1, .inr (10, [.ref q_3])), (q_3, .inl (gI G, 148, .inl (fl 148 (-1) (fun _ => 0)))), (q_4, .inr (10, [.ref q_6])), (q_6, .inl (gI G, 148, .inl (fl 148 (-1) (fun _ => 0)))), (q_7, .inr (10, [.ref q_9])), (q_9, .inl (gI G, 148, .inl (fl 148 (-1) (fun _ => 0)))), (q_10, .inr (10, [.ref q_12])), (q_12, .inl (gI G, 148, .inl (fl 148 0 (fun _ => 0)))), (q_13, .inr (10, [.null]))] H := hP
  have hD : va_D A [(h0, .inr (1, [.ref hk, .ref q_1, .ref q_4, .ref q_7, .ref q_10, .null])), (q_1, .inr (10, [.ref q_3])), (q_3, .inl (gI G, 148, .inl (fl 148 (-1) (fun _ => 0)))), (q_4, .inr (10, [.ref q_6])), (q_6, .inl (gI G, 148, .inl (fl 148 (-1) (fun _ => 0)))), (q_7, .inr (10, [.ref q_9])), (q_9, .inl (gI G, 148, .inl (fl 148 (-1) (fun _ => 0)))), (q_10, .inr (10, [.ref q_12])), (q_12, .inl (gI G, 148, .inl (fl 148 0 (fun _ => 0)))), (q_13, .inr (10, [.null]))] := hD
  refine lv_dup hx hb dX0_init_73 rfl ?_
  refine lv_iconst (v := 4) hx hb dX0_init_74 (by decide) ?_
  refine lv_iconst (v := (-1)) hx hb dX0_init_75 (by decide) ?_
  have hPc := hP.sub (ws' := [(q_13, .inr (10, [.null]))]) [9] rfl
  have hDc := hD.sub (ws' := [(q_13, .inr (10, [.null]))]) [9] (by decide) rfl
  have hFc := va_free (wc := [(q_13, .inr (10, [.null]))]) hD hS hA [9] rfl
  refine va_callv (va_runI (As := [.int 4, .int (-1)]) (rest := [.ref q_13, .ref h0]) ⟨hx, hb, hml, hown, hts⟩ (c_Row_init l G q_13 4 (-1) H.size (by decide)) (cwI 2 hts (fun w9 h9 => ⟨(List.mem_cons_of_mem _ (List.mem_append_right _ (List.mem_append_right _ (List.mem_append_right _ (List.mem_append_left _ h9))))), gd_c_Row_init w9 h9⟩) rfl rfl rfl (hts (.initialized RX9) (List.mem_cons_of_mem _ (List.mem_append_left _ (List.mem_of_getElem? (i := 6) rfl)))) (hts (.methodLink RX0 17 yX9_init) (List.mem_cons_of_mem _ (List.mem_append_left _ (List.mem_of_getElem? (i := 7) rfl)))) (hts (.instanceMethod yX9_init) (List.mem_cons_of_mem _ (List.mem_append_left _ (List.mem_of_getElem? (i := 8) rfl)))) rfl kSX9_init ⟨Nat.le_of_ble_eq_true rfl, Nat.le_of_ble_eq_true rfl⟩) (preS_m (As := [.ref q_13, .int 4, .int (-1)]) hPc hB hDc) rfl rfl hl.1 rfl (lv_room (Nat.le_of_ble_eq_true rfl)) dX0_init_76 ⟨Nat.le_of_ble_eq_true rfl, Nat.le_of_ble_eq_true rfl⟩) hS (fun q _ h => hFc q h) hFc (fun u t H1 locs ht hvm hw hB1 hz1 hk1 hS => ?_)
  obtain ⟨q_15, hP1, hD1⟩ := hB1
  rw [ht] at hP1
  obtain ⟨hP, hD⟩ := va_join (wr := [(h0, .inr (1, [.ref hk, .ref q_1, .ref q_4, .ref q_7, .ref q_10, .null])), (q_1, .inr (10, [.ref q_3])), (q_3, .inl (gI G, 148, .inl (fl 148 (-1) (fun _ => 0)))), (q_4, .inr (10, [.ref q_6])), (q_6, .inl (gI G, 148, .inl (fl 148 (-1) (fun _ => 0)))), (q_7, .inr (10, [.ref q_9])), (q_9, .inl (gI G, 148, .inl (fl 148 (-1) (fun _ => 0)))), (q_10, .inr (10, [.ref q_12])), (q_12, .inl (gI G, 148, .inl (fl 148 0 (fun _ => 0))))]) (w1 := [(q_13, .inr (10, [.ref q_15])), (q_15, .inl (gI G, 4, .inl (fl 4 (-1) (fun _ => 0))))]) hP hD [9] [0, 1, 2, 3, 4, 5, 6, 7, 8] rfl rfl (by decide) (by decide) hk1 hFc hP1 hD1
  generalize H1 = H at hP hS ⊢
  have hP : va_P (gD G) vwCl [(h0, .inr (1, [.ref hk, .ref q_1, .ref q_4, .ref q_7, .ref q_10, .null])), (q_1, .inr (10, [.ref q_3])), (q_3, .inl (gI G, 148, .inl (fl 148 (-1) (fun _ => 0)))), (q_4, .inr (10, [.ref q_6])), (q_6, .inl (gI G, 148, .inl (fl 148 (-1) (fun _ => 0)))), (q_7, .inr (10, [.ref q_9])), (q_9, .inl (gI G, 148, .inl (fl 148 (-1) (fun _ => 0)))), (q_10, .inr (10, [.ref q_12])), (q_12, .inl (gI G, 148, .inl (fl 148 0 (fun _ => 0)))), (q_13, .inr (10, [.ref q_15])), (q_15, .inl (gI G, 4, .inl (fl 4 (-1) (fun _ => 0))))] H := hP
  have hD : va_D A [(h0, .inr (1, [.ref hk, .ref q_1, .ref q_4, .ref q_7, .ref q_10, .null])), (q_1, .inr (10, [.ref q_3])), (q_3, .inl (gI G, 148, .inl (fl 148 (-1) (fun _ => 0)))), (q_4, .inr (10, [.ref q_6])), (q_6, .inl (gI G, 148, .inl (fl 148 (-1) (fun _ => 0)))), (q_7, .inr (10, [.ref q_9])), (q_9, .inl (gI G, 148, .inl (fl 148 (-1) (fun _ => 0)))), (q_10, .inr (10, [.ref q_12])), (q_12, .inl (gI G, 148, .inl (fl 148 0 (fun _ => 0)))), (q_13, .inr (10, [.ref q_15])), (q_15, .inl (gI G, 4, .inl (fl 4 (-1) (fun _ => 0))))] := hD
  refine W.eq (g2 := F0 m 79 ls [.ref q_13, .ref h0]) rfl ?_
  refine va_putF (D := gD G) (ci := 1) (v := .ref q_13) (ty := tyX0 5) (C := RX0) (T := TX0) (N := 6) hx hb hts (fun _ h9 => (List.mem_cons_of_mem _ (List.mem_append_right _ (List.mem_append_left _ h9)))) tyX0 tyX0_ok nmX0 hown hK hP hD hS 0 rfl rfl 5 (by decide) (hts (.fieldLink RX0 33 "JudoHall$Board" "lost" "LJudoHall$Row;") (List.mem_cons_of_mem _ (List.mem_append_left _ (List.mem_of_getElem? (i := 13) rfl)))) (fun _ h9 => h9) rfl hin rfl (tyX0_ok 5 (by decide)) rfl rfl (Nat.le_of_ble_eq_true rfl) dX0_init_79 (fun H locs hP hD hS => ?_)
  have hP : va_P (gD G) vwCl [(h0, .inr (1, [.ref hk, .ref q_1, .ref q_4, .ref q_7, .ref q_10, .ref q_13])), (q_1, .inr (10, [.ref q_3])), (q_3, .inl (gI G, 148, .inl (fl 148 (-1) (fun _ => 0)))), (q_4, .inr (10, [.ref q_6])), (q_6, .inl (gI G, 148, .inl (fl 148 (-1) (fun _ => 0)))), (q_7, .inr (10, [.ref q_9])), (q_9, .inl (gI G, 148, .inl (fl 148 (-1) (fun _ => 0)))), (q_10, .inr (10, [.ref q_12])), (q_12, .inl (gI G, 148, .inl (fl 148 0 (fun _ => 0)))), (q_13, .inr (10, [.ref q_15])), (q_15, .inl (gI G, 4, .inl (fl 4 (-1) (fun _ => 0))))] H := hP
  have hD : va_D A [(h0, .inr (1, [.ref hk, .ref q_1, .ref q_4, .ref q_7, .ref q_10, .ref q_13])), (q_1, .inr (10, [.ref q_3])), (q_3, .inl (gI G, 148, .inl (fl 148 (-1) (fun _ => 0)))), (q_4, .inr (10, [.ref q_6])), (q_6, .inl (gI G, 148, .inl (fl 148 (-1) (fun _ => 0)))), (q_7, .inr (10, [.ref q_9])), (q_9, .inl (gI G, 148, .inl (fl 148 (-1) (fun _ => 0)))), (q_10, .inr (10, [.ref q_12])), (q_12, .inl (gI G, 148, .inl (fl 148 0 (fun _ => 0)))), (q_13, .inr (10, [.ref q_15])), (q_15, .inl (gI G, 4, .inl (fl 4 (-1) (fun _ => 0))))] := hD
  have hP9 := hP.sub (ws' := [(h0, .inr (1, [.ref hk, .ref q_1, .ref q_4, .ref q_7, .ref q_10, .ref q_13])), (q_1, .inr (10, [.ref q_3])), (q_3, .inl (gI G, 148, .inl (fl 148 (-1) (fun _ => 0)))), (q_4, .inr (10, [.ref q_6])), (q_6, .inl (gI G, 148, .inl (fl 148 (-1) (fun _ => 0)))), (q_7, .inr (10, [.ref q_9])), (q_9, .inl (gI G, 148, .inl (fl 148 (-1) (fun _ => 0)))), (q_10, .inr (10, [.ref q_12])), (q_12, .inl (gI G, 148, .inl (fl 148 0 (fun _ => 0)))), (q_13, .inr (10, [.ref q_15])), (q_15, .inl (gI G, 4, .inl (fl 4 (-1) (fun _ => 0))))]) [0, 1, 2, 3, 4, 5, 6, 7, 8, 9, 10] rfl
  have hD9 := hD.sub (ws' := [(h0, .inr (1, [.ref hk, .ref q_1, .ref q_4, .ref q_7, .ref q_10, .ref q_13])), (q_1, .inr (10, [.ref q_3])), (q_3, .inl (gI G, 148, .inl (fl 148 (-1) (fun _ => 0)))), (q_4, .inr (10, [.ref q_6])), (q_6, .inl (gI G, 148, .inl (fl 148 (-1) (fun _ => 0)))), (q_7, .inr (10, [.ref q_9])), (q_9, .inl (gI G, 148, .inl (fl 148 (-1) (fun _ => 0)))), (q_10, .inr (10, [.ref q_12])), (q_12, .inl (gI G, 148, .inl (fl 148 0 (fun _ => 0)))), (q_13, .inr (10, [.ref q_15])), (q_15, .inl (gI G, 4, .inl (fl 4 (-1) (fun _ => 0))))]) [0, 1, 2, 3, 4, 5, 6, 7, 8, 9, 10] (by decide) rfl
  exact W.vret hx hb hr (fun t ht hW => ⟨⟨(), rfl, trivial, q_1, q_3, q_4, q_6, q_7, q_9, q_10, q_12, q_13, q_15, by rw [ht]; exact hP9, hD9⟩, hS.F ht⟩) hS.2.2 dX0_init_82

def wo_k_Floor_init : List Cond := [.methodLink RX3 3 objectInit, .instanceMethod objectInit, .code objectInit ⟨#[0xb1]⟩ 1 none, .fieldLink RX3 9 "JudoHall$Floor" "book" "LJudoHall$Book;", .fieldLink RX3 15 "JudoHall$Floor" "board" "LJudoHall$Board;", .classLink RX3 19 RX9, .instantiable RX9 1, .initialized RX9, .methodLink RX3 21 yX9_init, .instanceMethod yX9_init, .fieldLink RX3 24 "JudoHall$Floor" "stack" "LJudoHall$Row;"]
def wq_k_Floor_init : List Cond := .code yX3_init cX3_init 3 none :: (wo_k_Floor_init ++ (wsX30 ++ (wsX90 ++ (wq_c_Row_init ++ []))))
theorem gd_k_Floor_init : ∀ w ∈ wq_k_Floor_init, Gd w := List.forall_mem_cons.mpr ⟨Or.inl rfl, List.forall_mem_append.mpr ⟨gdl wo_k_Floor_init (by decide +kernel), (List.forall_mem_append.mpr ⟨gd_wsX30, (List.forall_mem_append.mpr ⟨gd_wsX90, (List.forall_mem_append.mpr ⟨gd_c_Row_init, (fun _ h => absurd h List.not_mem_nil)⟩)⟩)⟩)⟩⟩
theorem in_k_Floor_init : ∀ w ∈ wq_k_Floor_init, w ∈ lw_tbl := List.forall_mem_cons.mpr ⟨List.mem_of_getElem? (i := 438) (by decide +kernel), List.forall_mem_append.mpr ⟨inT2 wo_k_Floor_init [(2, 46), (1, 36), (1, 37), (2, 49), (2, 50), (2, 47), (1, 45), (1, 3), (2, 48), (1, 47), (2, 51)] (by decide +kernel), (List.forall_mem_append.mpr ⟨in_wsX30, (List.forall_mem_append.mpr ⟨in_wsX90, (List.forall_mem_append.mpr ⟨in_c_Row_init, (fun _ h => absurd h List.not_mem_nil)⟩)⟩)⟩)⟩⟩
set_option maxHeartbeats 4000000 in
set_option maxRecDepth 100000 in
theorem k_Floor_init (l : Launch) (G : gG) (h0 : Nat) (hk : Nat) (hd : Nat) (sz : Nat) : Met l yX3_init wq_k_Floor_init ({ frames := 2, cells := 2, slots := 65, locals := 45 }) (va_Pc [.ref h0, .ref hk, .ref hd] (mP G [(h0, .inr (4, [.null, .null, .null, .int 0]))] sz)) (va_Qv (fun _ : Unit => True) (fun (_ : Unit) (t : State) => ∃ (f1 : Nat) (f2 : Nat), va_P (gD G) vwCl [(h0, .inr (4, [.ref hk, .ref hd, .ref f1, .int 0])), (f1, .inr (10, [.ref f2])), (f2, .inl (gI G, 64, .inl (fl 64 0 (fun _ => 0))))] t.heap ∧ va_D (va_A [(h0, .inr (4, [.null, .null, .null, .int 0]))] sz) [(h0, .inr (4, [.ref hk, .ref hd, .ref f1, .int 0])), (f1, .inr (10, [.ref f2])), (f2, .inl (gI G, 64, .inl (fl 64 0 (fun _ => 0))))]) (va_A [(h0, .inr (4, [.null, .null, .null, .int 0]))] sz)) 2 65 (va_A [(h0, .inr (4, [.null, .null, .null, .int 0]))] sz) := by
  refine Met.ofW (cc := cX3_init) (maxL := 3) (ret := none) (by decide) rfl ?_
  intro p e s m args below meth c s₁ B hml hv
  obtain ⟨rfl, hsz, hP, hB, hD0⟩ := hv
  have hx := B.exec
  have hb := B.bytes
  have hr := B.returns
  have hts := atoms_spec (ws := wq_k_Floor_init) B.pre
  have hown : s.vm.findClass RX3 = some m.cls := findClass_of_methodNamed B.named
  have hlocks := B.notSynchronized
  have hK := hB.1
  have hin : meth.name = "<init>" := (name_of_methodNamed B.named B.method).1
  subst hsz
  have hD := hD0.self (sz := s.heap.size)
  generalize hAe : va_A [(h0, .inr (4, [.null, .null, .null, .int 0]))] s.heap.size = A at hD ⊢
  have hA : ∀ q : Nat, s.heap.size ≤ q → A q := fun q h => by rw [← hAe]; exact Or.inr h
  have hS : va_S A s.heap s.heap [] := va_S.rf
  have hP : va_P (gD G) vwCl [(h0, .inr (4, [.null, .null, .null, .int 0]))] s.heap := hP
  have hD : va_D A [(h0, .inr (4, [.null, .null, .null, .int 0]))] := hD
  have hl := lv_entry ([.ref h0, .ref hk, .ref hd]) (n := 3) (Nat.le_of_ble_eq_true rfl)
  rw [lg_entry_eq]
  generalize (lg_sl ([.ref h0, .ref hk, .ref hd]) ++ List.replicate (3 - (lg_sl ([.ref h0, .ref hk, .ref hd])).length) Slot.unset).toArray = ls at hl ⊢
  have hl : lv_has ls 3 [(0, .ref h0), (1, .ref hk), (2, .ref hd)] := hl
  refine lv_aload_n hx hb dX3_init_0 rfl (lv_at hl 0 rfl) ?_
  refine W.objInit hx hb hown (hts (.methodLink RX3 3 objectInit) (List.mem_cons_of_mem _ (List.mem_append_left _ (List.mem_of_getElem? (i := 0) rfl)))) (hts (.instanceMethod objectInit) (List.mem_cons_of_mem _ (List.mem_append_left _ (List.mem_of_getElem? (i := 1) rfl)))) (hts _ (List.mem_cons_of_mem _ (List.mem_append_left _ (List.mem_of_getElem? (i := 2) rfl)))) rfl (by rw [hml]; exact hl.1) rfl dX3_init_1 (Nat.le_of_ble_eq_true rfl) (Nat.le_of_ble_eq_true rfl) ?_
  refine W.eq (g2 := F0 m 4 ls []) rfl ?_
  refine lv_aload_n hx hb dX3_init_4 rfl (lv_at hl 0 rfl) ?_
  refine lv_aload_n hx hb dX3_init_5 rfl (lv_at hl 1 rfl) ?_
  refine va_putF (D := gD G) (ci := 4) (v := .ref hk) (ty := tyX3 0) (C := RX3) (T := TX3) (N := 4) hx hb hts (fun _ h9 => (List.mem_cons_of_mem _ (List.mem_append_right _ (List.mem_append_left _ h9)))) tyX3 tyX3_ok nmX3 hown hK hP hD hS 0 rfl rfl 0 (by decide) (hts (.fieldLink RX3 9 "JudoHall$Floor" "book" "LJudoHall$Book;") (List.mem_cons_of_mem _ (List.mem_append_left _ (List.mem_of_getElem? (i := 3) rfl)))) (fun _ h9 => h9) rfl hin rfl (tyX3_ok 0 (by decide)) rfl rfl (Nat.le_of_ble_eq_true rfl) dX3_init_6 (fun H locs hP hD hS => ?_)
  have hP : va_P (gD G) vwCl [(h0, .inr (4, [.ref hk, .null, .null, .int 0]))] H := hP
  have hD : va_D A [(h0, .inr (4, [.ref hk, .null, .null, .int 0]))] := hD
  refine lv_aload_n hx hb dX3_init_9 rfl (lv_at hl 0 rfl) ?_
  refine lv_aload_n hx hb dX3_init_10 rfl (lv_at hl 2 rfl) ?_
  refine va_putF (D := gD G) (ci := 4) (v := .ref hd) (ty := tyX3 1) (C := RX3) (T := TX3) (N := 4) hx hb hts (fun _ h9 => (List.mem_cons_of_mem _ (List.mem_append_right _ (List.mem_append_left _ h9)))) tyX3 tyX3_ok nmX3 hown hK hP hD hS 0 rfl rfl 1 (by decide) (hts (.fieldLink RX3 15 "JudoHall$Floor" "board" "LJudoHall$Board;") (List.mem_cons_of_mem _ (List.mem_append_left _ (List.mem_of_getElem? (i := 4) rfl)))) (fun _ h9 => h9) rfl hin rfl (tyX3_ok 1 (by decide)) rfl rfl (Nat.le_of_ble_eq_true rfl) dX3_init_11 (fun H locs hP hD hS => ?_)
  have hP : va_P (gD G) vwCl [(h0, .inr (4, [.ref hk, .ref hd, .null, .int 0]))] H := hP
  have hD : va_D A [(h0, .inr (4, [.ref hk, .ref hd, .null, .int 0]))] := hD
  refine lv_aload_n hx hb dX3_init_14 rfl (lv_at hl 0 rfl) ?_
  refine va_new (D := gD G) (ci := 10) (fs := [.null]) (C := RX9) (T := TX9) (N := 1) hx hb hts (fun _ h9 => (List.mem_cons_of_mem _ (List.mem_append_right _ (List.mem_append_right _ (List.mem_append_left _ h9))))) tyX9 tyX9_ok hown (hts (.classLink RX3 19 RX9) (List.mem_cons_of_mem _ (List.mem_append_left _ (List.mem_of_getElem? (i := 5) rfl)))) (hts (.instantiable RX9 1) (List.mem_cons_of_mem _ (List.mem_append_left _ (List.mem_of_getElem? (i := 6) rfl)))) (hts (.initialized RX9) (List.mem_cons_of_mem _ (List.mem_append_left _ (List.mem_of_getElem? (i := 7) rfl)))) hK hP hD hS hA rfl dvX9 (Nat.le_of_ble_eq_true rfl) (Nat.le_of_ble_eq_true rfl) dX3_init_15 (fun q_1 H hP hD hS => ?_)
  have hP : va_P (gD G) vwCl [(h0, .inr (4, [.ref hk, .ref hd, .null, .int 0])), (q_1, .inr (10, [.null]))] H := hP
  have hD : va_D A [(h0, .inr (4, [.ref hk, .ref hd, .null, .int 0])), (q_1, .inr (10, [.null]))] := hD
  refine lv_dup hx hb dX3_init_18 rfl ?_
  refine lv_bipush (v := 64) hx hb dX3_init_19 (by decide) ?_
  refine lv_iconst (v := 0) hx hb dX3_init_21 (by decide) ?_
  have hPc := hP.sub (ws' := [(q_1, .inr (10, [.null]))]) [1] rfl
  have hDc := hD.sub (ws' := [(q_1, .inr (10, [.null]))]) [1] (by decide) rfl
  have hFc := va_free (wc := [(q_1, .inr (10, [.null]))]) hD hS hA [1] rfl
  refine va_callv (va_runI (As := [.int 64, .int 0]) (rest := [.ref q_1, .ref h0]) ⟨hx, hb, hml, hown, hts⟩ (c_Row_init l G q_1 64 0 H.size (by decide)) (cwI 2 hts (fun w9 h9 => ⟨(List.mem_cons_of_mem _ (List.mem_append_right _ (List.mem_append_right _ (List.mem_append_right _ (List.mem_append_left _ h9))))), gd_c_Row_init w9 h9⟩) rfl rfl rfl (hts (.initialized RX9) (List.mem_cons_of_mem _ (List.mem_append_left _ (List.mem_of_getElem? (i := 7) rfl)))) (hts (.methodLink RX3 21 yX9_init) (List.mem_cons_of_mem _ (List.mem_append_left _ (List.mem_of_getElem? (i := 8) rfl)))) (hts (.instanceMethod yX9_init) (List.mem_cons_of_mem _ (List.mem_append_left _ (List.mem_of_getElem? (i := 9) rfl)))) rfl kSX9_init ⟨Nat.le_of_ble_eq_true rfl, Nat.le_of_ble_eq_true rfl⟩) (preS_m (As := [.ref q_1, .int 64, .int 0]) hPc hB hDc) rfl rfl hl.1 rfl (lv_room (Nat.le_of_ble_eq_true rfl)) dX3_init_22 ⟨Nat.le_of_ble_eq_true rfl, Nat.le_of_ble_eq_true rfl⟩) hS (fun q _ h => hFc q h) hFc (fun u t H1 locs ht hvm hw hB1 hz1 hk1 hS => ?_)
  obtain ⟨q_3, hP1, hD1⟩ := hB1
  rw [ht] at hP1
  obtain ⟨hP, hD⟩ := va_join (wr := [(h0, .inr (4, [.ref hk, .ref hd, .null, .int 0]))]) (w1 := [(q_1, .inr (10, [.ref q_3])), (q_3, .inl (gI G, 64, .inl (fl 64 0 (fun _ => 0))))]) hP hD [1] [0] rfl rfl (by decide) (by decide) hk1 hFc hP1 hD1
  generalize H1 = H at hP hS ⊢
  have hP : va_P (gD G) vwCl [(h0, .inr (4, [.ref hk, .ref hd, .null, .int 0])), (q_1, .inr (10, [.ref q_3])), (q_3, .inl (gI G, 64, .inl (fl 64 0 (fun _ => 0))))] H := hP
  have hD : va_D A [(h0, .inr (4, [.ref hk, .ref hd, .null, .int 0])), (q_1, .inr (10, [.ref q_3])), (q_3, .inl (gI G, 64, .inl (fl 64 0 (fun _ => 0))))] := hD
  refine W.eq (g2 := F0 m 25 ls [.ref q_1, .ref h0]) rfl ?_
  refine va_putF (D := gD G) (ci := 4) (v := .ref q_1) (ty := tyX3 2) (C := RX3) (T := TX3) (N := 4) hx hb hts (fun _ h9 => (List.mem_cons_of_mem _ (List.mem_append_right _ (List.mem_append_left _ h9)))) tyX3 tyX3_ok nmX3 hown hK hP hD hS 0 rfl rfl 2 (by decide) (hts (.fieldLink RX3 24 "JudoHall$Floor" "stack" "LJudoHall$Row;") (List.mem_cons_of_mem _ (List.mem_append_left _ (List.mem_of_getElem? (i := 10) rfl)))) (fun _ h9 => h9) rfl hin rfl (tyX3_ok 2 (by decide)) rfl rfl (Nat.le_of_ble_eq_true rfl) dX3_init_25 (fun H locs hP hD hS => ?_)
  have hP : va_P (gD G) vwCl [(h0, .inr (4, [.ref hk, .ref hd, .ref q_1, .int 0])), (q_1, .inr (10, [.ref q_3])), (q_3, .inl (gI G, 64, .inl (fl 64 0 (fun _ => 0))))] H := hP
  have hD : va_D A [(h0, .inr (4, [.ref hk, .ref hd, .ref q_1, .int 0])), (q_1, .inr (10, [.ref q_3])), (q_3, .inl (gI G, 64, .inl (fl 64 0 (fun _ => 0))))] := hD
  have hP9 := hP.sub (ws' := [(h0, .inr (4, [.ref hk, .ref hd, .ref q_1, .int 0])), (q_1, .inr (10, [.ref q_3])), (q_3, .inl (gI G, 64, .inl (fl 64 0 (fun _ => 0))))]) [0, 1, 2] rfl
  have hD9 := hD.sub (ws' := [(h0, .inr (4, [.ref hk, .ref hd, .ref q_1, .int 0])), (q_1, .inr (10, [.ref q_3])), (q_3, .inl (gI G, 64, .inl (fl 64 0 (fun _ => 0))))]) [0, 1, 2] (by decide) rfl
  exact W.vret hx hb hr (fun t ht hW => ⟨⟨(), rfl, trivial, q_1, q_3, by rw [ht]; exact hP9, hD9⟩, hS.F ht⟩) hS.2.2 dX3_init_28

def wo_k_Podium_init : List Cond := [.methodLink RX7 3 objectInit, .instanceMethod objectInit, .code objectInit ⟨#[0xb1]⟩ 1 none, .fieldLink RX7 9 "JudoHall$Podium" "book" "LJudoHall$Book;", .fieldLink RX7 15 "JudoHall$Podium" "board" "LJudoHall$Board;", .classLink RX7 19 RX9, .instantiable RX9 1, .initialized RX9, .methodLink RX7 21 yX9_init, .instanceMethod yX9_init, .fieldLink RX7 24 "JudoHall$Podium" "wins" "LJudoHall$Row;", .fieldLink RX7 28 "JudoHall$Podium" "sums" "LJudoHall$Row;"]
def wq_k_Podium_init : List Cond := .code yX7_init cX7_init 3 none :: (wo_k_Podium_init ++ (wsX70 ++ (wsX90 ++ (wq_c_Row_init ++ []))))
theorem gd_k_Podium_init : ∀ w ∈ wq_k_Podium_init, Gd w := List.forall_mem_cons.mpr ⟨Or.inl rfl, List.forall_mem_append.mpr ⟨gdl wo_k_Podium_init (by decide +kernel), (List.forall_mem_append.mpr ⟨gd_wsX70, (List.forall_mem_append.mpr ⟨gd_wsX90, (List.forall_mem_append.mpr ⟨gd_c_Row_init, (fun _ h => absurd h List.not_mem_nil)⟩)⟩)⟩)⟩⟩
theorem in_k_Podium_init : ∀ w ∈ wq_k_Podium_init, w ∈ lw_tbl := List.forall_mem_cons.mpr ⟨List.mem_of_getElem? (i := 459) (by decide +kernel), List.forall_mem_append.mpr ⟨inT2 wo_k_Podium_init [(2, 67), (1, 36), (1, 37), (2, 70), (2, 71), (2, 68), (1, 45), (1, 3), (2, 69), (1, 47), (2, 72), (2, 73)] (by decide +kernel), (List.forall_mem_append.mpr ⟨in_wsX70, (List.forall_mem_append.mpr ⟨in_wsX90, (List.forall_mem_append.mpr ⟨in_c_Row_init, (fun _ h => absurd h List.not_mem_nil)⟩)⟩)⟩)⟩⟩
set_option maxHeartbeats 4000000 in
set_option maxRecDepth 100000 in
theorem k_Podium_init (l : Launch) (G : gG) (h0 : Nat) (hk : Nat) (hd : Nat) (sz : Nat) : Met l yX7_init wq_k_Podium_init ({ frames := 2, cells := 4, slots := 194, locals := 45 }) (va_Pc [.ref h0, .ref hk, .ref hd] (mP G [(h0, .inr (8, [.null, .null, .null, .null]))] sz)) (va_Qv (fun _ : Unit => True) (fun (_ : Unit) (t : State) => ∃ (w1 : Nat) (w2 : Nat) (s1 : Nat) (s2 : Nat), va_P (gD G) vwCl [(h0, .inr (8, [.ref hk, .ref hd, .ref w1, .ref s1])), (w1, .inr (10, [.ref w2])), (w2, .inl (gI G, 96, .inl (fl 96 0 (fun _ => 0)))), (s1, .inr (10, [.ref s2])), (s2, .inl (gI G, 96, .inl (fl 96 0 (fun _ => 0))))] t.heap ∧ va_D (va_A [(h0, .inr (8, [.null, .null, .null, .null]))] sz) [(h0, .inr (8, [.ref hk, .ref hd, .ref w1, .ref s1])), (w1, .inr (10, [.ref w2])), (w2, .inl (gI G, 96, .inl (fl 96 0 (fun _ => 0)))), (s1, .inr (10, [.ref s2])), (s2, .inl (gI G, 96, .inl (fl 96 0 (fun _ => 0))))]) (va_A [(h0, .inr (8, [.null, .null, .null, .null]))] sz)) 4 194 (va_A [(h0, .inr (8, [.null, .null, .null, .null]))] sz) := by
  refine Met.ofW (cc := cX7_init) (maxL := 3) (ret := none) (by decide) rfl ?_
  intro p e s m args below meth c s₁ B hml hv
  obtain ⟨rfl, hsz, hP, hB, hD0⟩ := hv
  have hx := B.exec
  have hb := B.bytes
  have hr := B.returns
  have hts := atoms_spec (ws := wq_k_Podium_init) B.pre
  have hown : s.vm.findClass RX7 = some m.cls := findClass_of_methodNamed B.named
  have hlocks := B.notSynchronized
  have hK := hB.1
  have hin : meth.name = "<init>" := (name_of_methodNamed B.named B.method).1
  subst hsz
  have hD := hD0.self (sz := s.heap.size)
  generalize hAe : va_A [(h0, .inr (8, [.null, .null, .null, .null]))] s.heap.size = A at hD ⊢
  have hA : ∀ q : Nat, s.heap.size ≤ q → A q := fun q h => by rw [← hAe]; exact Or.inr h
  have hS : va_S A s.heap s.heap [] := va_S.rf
  have hP : va_P (gD G) vwCl [(h0, .inr (8, [.null, .null, .null, .null]))] s.heap := hP
  have hD : va_D A [(h0, .inr (8, [.null, .null, .null, .null]))] := hD
  have hl := lv_entry ([.ref h0, .ref hk, .ref hd]) (n := 3) (Nat.le_of_ble_eq_true rfl)
  rw [lg_entry_eq]
  generalize (lg_sl ([.ref h0, .ref hk, .ref hd]) ++ List.replicate (3 - (lg_sl ([.ref h0, .ref hk, .ref hd])).length) Slot.unset).toArray = ls at hl ⊢
  have hl : lv_has ls 3 [(0, .ref h0), (1, .ref hk), (2, .ref hd)] := hl
  refine lv_aload_n hx hb dX7_init_0 rfl (lv_at hl 0 rfl) ?_
  refine W.objInit hx hb hown (hts (.methodLink RX7 3 objectInit) (List.mem_cons_of_mem _ (List.mem_append_left _ (List.mem_of_getElem? (i := 0) rfl)))) (hts (.instanceMethod objectInit) (List.mem_cons_of_mem _ (List.mem_append_left _ (List.mem_of_getElem? (i := 1) rfl)))) (hts _ (List.mem_cons_of_mem _ (List.mem_append_left _ (List.mem_of_getElem? (i := 2) rfl)))) rfl (by rw [hml]; exact hl.1) rfl dX7_init_1 (Nat.le_of_ble_eq_true rfl) (Nat.le_of_ble_eq_true rfl) ?_
  refine W.eq (g2 := F0 m 4 ls []) rfl ?_
  refine lv_aload_n hx hb dX7_init_4 rfl (lv_at hl 0 rfl) ?_
  refine lv_aload_n hx hb dX7_init_5 rfl (lv_at hl 1 rfl) ?_
  refine va_putF (D := gD G) (ci := 8) (v := .ref hk) (ty := tyX7 0) (C := RX7) (T := TX7) (N := 4) hx hb hts (fun _ h9 => (List.mem_cons_of_mem _ (List.mem_append_right _ (List.mem_append_left _ h9)))) tyX7 tyX7_ok nmX7 hown hK hP hD hS 0 rfl rfl 0 (by decide) (hts (.fieldLink RX7 9 "JudoHall$Podium" "book" "LJudoHall$Book;") (List.mem_cons_of_mem _ (List.mem_append_left _ (List.mem_of_getElem? (i := 3) rfl)))) (fun _ h9 => h9) rfl hin rfl (tyX7_ok 0 (by decide)) rfl rfl (Nat.le_of_ble_eq_true rfl) dX7_init_6 (fun H locs hP hD hS => ?_)
  have hP : va_P (gD G) vwCl [(h0, .inr (8, [.ref hk, .null, .null, .null]))] H := hP
  have hD : va_D A [(h0, .inr (8, [.ref hk, .null, .null, .null]))] := hD
  refine lv_aload_n hx hb dX7_init_9 rfl (lv_at hl 0 rfl) ?_
  refine lv_aload_n hx hb dX7_init_10 rfl (lv_at hl 2 rfl) ?_
  refine va_putF (D := gD G) (ci := 8) (v := .ref hd) (ty := tyX7 1) (C := RX7) (T := TX7) (N := 4) hx hb hts (fun _ h9 => (List.mem_cons_of_mem _ (List.mem_append_right _ (List.mem_append_left _ h9)))) tyX7 tyX7_ok nmX7 hown hK hP hD hS 0 rfl rfl 1 (by decide) (hts (.fieldLink RX7 15 "JudoHall$Podium" "board" "LJudoHall$Board;") (List.mem_cons_of_mem _ (List.mem_append_left _ (List.mem_of_getElem? (i := 4) rfl)))) (fun _ h9 => h9) rfl hin rfl (tyX7_ok 1 (by decide)) rfl rfl (Nat.le_of_ble_eq_true rfl) dX7_init_11 (fun H locs hP hD hS => ?_)
  have hP : va_P (gD G) vwCl [(h0, .inr (8, [.ref hk, .ref hd, .null, .null]))] H := hP
  have hD : va_D A [(h0, .inr (8, [.ref hk, .ref hd, .null, .null]))] := hD
  refine lv_aload_n hx hb dX7_init_14 rfl (lv_at hl 0 rfl) ?_
  refine va_new (D := gD G) (ci := 10) (fs := [.null]) (C := RX9) (T := TX9) (N := 1) hx hb hts (fun _ h9 => (List.mem_cons_of_mem _ (List.mem_append_right _ (List.mem_append_right _ (List.mem_append_left _ h9))))) tyX9 tyX9_ok hown (hts (.classLink RX7 19 RX9) (List.mem_cons_of_mem _ (List.mem_append_left _ (List.mem_of_getElem? (i := 5) rfl)))) (hts (.instantiable RX9 1) (List.mem_cons_of_mem _ (List.mem_append_left _ (List.mem_of_getElem? (i := 6) rfl)))) (hts (.initialized RX9) (List.mem_cons_of_mem _ (List.mem_append_left _ (List.mem_of_getElem? (i := 7) rfl)))) hK hP hD hS hA rfl dvX9 (Nat.le_of_ble_eq_true rfl) (Nat.le_of_ble_eq_true rfl) dX7_init_15 (fun q_1 H hP hD hS => ?_)
  have hP : va_P (gD G) vwCl [(h0, .inr (8, [.ref hk, .ref hd, .null, .null])), (q_1, .inr (10, [.null]))] H := hP
  have hD : va_D A [(h0, .inr (8, [.ref hk, .ref hd, .null, .null])), (q_1, .inr (10, [.null]))] := hD
  refine lv_dup hx hb dX7_init_18 rfl ?_
  refine lv_bipush (v := 96) hx hb dX7_init_19 (by decide) ?_
  refine lv_iconst (v := 0) hx hb dX7_init_21 (by decide) ?_
  have hPc := hP.sub (ws' := [(q_1, .inr (10, [.null]))]) [1] rfl
  have hDc := hD.sub (ws' := [(q_1, .inr (10, [.null]))]) [1] (by decide) rfl
  have hFc := va_free (wc := [(q_1, .inr (10, [.null]))]) hD hS hA [1] rfl
  refine va_callv (va_runI (As := [.int 96, .int 0]) (rest := [.ref q_1, .ref h0]) ⟨hx, hb, hml, hown, hts⟩ (c_Row_init l G q_1 96 0 H.size (by decide)) (cwI 2 hts (fun w9 h9 => ⟨(List.mem_cons_of_mem _ (List.mem_append_right _ (List.mem_append_right _ (List.mem_append_right _ (List.mem_append_left _ h9))))), gd_c_Row_init w9 h9⟩) rfl rfl rfl (hts (.initialized RX9) (List.mem_cons_of_mem _ (List.mem_append_left _ (List.mem_of_getElem? (i := 7) rfl)))) (hts (.methodLink RX7 21 yX9_init) (List.mem_cons_of_mem _ (List.mem_append_left _ (List.mem_of_getElem? (i := 8) rfl)))) (hts (.instanceMethod yX9_init) (List.mem_cons_of_mem _ (List.mem_append_left _ (List.mem_of_getElem? (i := 9) rfl)))) rfl kSX9_init ⟨Nat.le_of_ble_eq_true rfl, Nat.le_of_ble_eq_true rfl⟩) (preS_m (As := [.ref q_1, .int 96, .int 0]) hPc hB hDc) rfl rfl hl.1 rfl (lv_room (Nat.le_of_ble_eq_true rfl)) dX7_init_22 ⟨Nat.le_of_ble_eq_true rfl, Nat.le_of_ble_eq_true rfl⟩) hS (fun q _ h => hFc q h) hFc (fun u t H1 locs ht hvm hw hB1 hz1 hk1 hS => ?_)
  obtain ⟨q_3, hP1, hD1⟩ := hB1
  rw [ht] at hP1
  obtain ⟨hP, hD⟩ := va_join (wr := [(h0, .inr (8, [.ref hk, .ref hd, .null, .null]))]) (w1 := [(q_1, .inr (10, [.ref q_3])), (q_3, .inl (gI G, 96, .inl (fl 96 0 (fun _ => 0))))]) hP hD [1] [0] rfl rfl (by decide) (by decide) hk1 hFc hP1 hD1
  generalize H1 = H at hP hS ⊢
  have hP : va_P (gD G) vwCl [(h0, .inr (8, [.ref hk, .ref hd, .null, .null])), (q_1, .inr (10, [.ref q_3])), (q_3, .inl (gI G, 96, .inl (fl 96 0 (fun _ => 0))))] H := hP
  have hD : va_D A [(h0, .inr (8, [.ref hk, .ref hd, .null, .null])), (q_1, .inr (10, [.ref q_3])), (q_3, .inl (gI G, 96, .inl (fl 96 0 (fun _ => 0))))] := hD
  refine W.eq (g2 := F0 m 25 ls [.ref q_1, .ref h0]) rfl ?_
  refine va_putF (D := gD G) (ci := 8) (v := .ref q_1) (ty := tyX7 2) (C := RX7) (T := TX7) (N := 4) hx hb hts (fun _ h9 => (List.mem_cons_of_mem _ (List.mem_append_right _ (List.mem_append_left _ h9)))) tyX7 tyX7_ok nmX7 hown hK hP hD hS 0 rfl rfl 2 (by decide) (hts (.fieldLink RX7 24 "JudoHall$Podium" "wins" "LJudoHall$Row;") (List.mem_cons_of_mem _ (List.mem_append_left _ (List.mem_of_getElem? (i := 10) rfl)))) (fun _ h9 => h9) rfl hin rfl (tyX7_ok 2 (by decide)) rfl rfl (Nat.le_of_ble_eq_true rfl) dX7_init_25 (fun H locs hP hD hS => ?_)
  have hP : va_P (gD G) vwCl [(h0, .inr (8, [.ref hk, .ref hd, .ref q_1, .null])), (q_1, .inr (10, [.ref q_3])), (q_3, .inl (gI G, 96, .inl (fl 96 0 (fun _ => 0))))] H := hP
  have hD : va_D A [(h0, .inr (8, [.ref hk, .ref hd, .ref q_1, .null])), (q_1, .inr (10, [.ref q_3])), (q_3, .inl (gI G, 96, .inl (fl 96 0 (fun _ => 0))))] := hD
  refine lv_aload_n hx hb dX7_init_28 rfl (lv_at hl 0 rfl) ?_
  refine va_new (D := gD G) (ci := 10) (fs := [.null]) (C := RX9) (T := TX9) (N := 1) hx hb hts (fun _ h9 => (List.mem_cons_of_mem _ (List.mem_append_right _ (List.mem_append_right _ (List.mem_append_left _ h9))))) tyX9 tyX9_ok hown (hts (.classLink RX7 19 RX9) (List.mem_cons_of_mem _ (List.mem_append_left _ (List.mem_of_getElem? (i := 5) rfl)))) (hts (.instantiable RX9 1) (List.mem_cons_of_mem _ (List.mem_append_left _ (List.mem_of_getElem? (i := 6) rfl)))) (hts (.initialized RX9) (List.mem_cons_of_mem _ (List.mem_append_left _ (List.mem_of_getElem? (i := 7) rfl)))) hK hP hD hS hA rfl dvX9 (Nat.le_of_ble_eq_true rfl) (Nat.le_of_ble_eq_true rfl) dX7_init_29 (fun q_4 H hP hD hS => ?_)
  have hP : va_P (gD G) vwCl [(h0, .inr (8, [.ref hk, .ref hd, .ref q_1, .null])), (q_1, .inr (10, [.ref q_3])), (q_3, .inl (gI G, 96, .inl (fl 96 0 (fun _ => 0)))), (q_4, .inr (10, [.null]))] H := hP
  have hD : va_D A [(h0, .inr (8, [.ref hk, .ref hd, .ref q_1, .null])), (q_1, .inr (10, [.ref q_3])), (q_3, .inl (gI G, 96, .inl (fl 96 0 (fun _ => 0)))), (q_4, .inr (10, [.null]))] := hD
  refine lv_dup hx hb dX7_init_32 rfl ?_
  refine lv_bipush (v := 96) hx hb dX7_init_33 (by decide) ?_
  refine lv_iconst (v := 0) hx hb dX7_init_35 (by decide) ?_
  have hPc := hP.sub (ws' := [(q_4, .inr (10, [.null]))]) [3] rfl
  have hDc := hD.sub (ws' := [(q_4, .inr (10, [.null]))]) [3] (by decide) rfl
  have hFc := va_free (wc := [(q_4, .inr (10, [.null]))]) hD hS hA [3] rfl
  refine va_callv (va_runI (As := [.int 96, .int 0]) (rest := [.ref q_4, .ref h0]) ⟨hx, hb, hml, hown, hts⟩ (c_Row_init l G q_4 96 0 H.size (by decide)) (cwI 2 hts (fun w9 h9 => ⟨(List.mem_cons_of_mem _ (List.mem_append_right _ (List.mem_append_right _ (List.mem_append_right _ (List.mem_append_left _ h9))))), gd_c_Row_init w9 h9⟩) rfl rfl rfl (hts (.initialized RX9) (List.mem_cons_of_mem _ (List.mem_append_left _ (List.mem_of_getElem? (i := 7) rfl)))) (hts (.methodLink RX7 21 yX9_init) (List.mem_cons_of_mem _ (List.mem_append_left _ (List.mem_of_getElem? (i := 8) rfl)))) (hts (.instanceMethod yX9_init) (List.mem_cons_of_mem _ (List.mem_append_left _ (List.mem_of_getElem? (i := 9) rfl)))) rfl kSX9_init ⟨Nat.le_of_ble_eq_true rfl, Nat.le_of_ble_eq_true rfl⟩) (preS_m (As := [.ref q_4, .int 96, .int 0]) hPc hB hDc) rfl rfl hl.1 rfl (lv_room (Nat.le_of_ble_eq_true rfl)) dX7_init_36 ⟨Nat.le_of_ble_eq_true rfl, Nat.le_of_ble_eq_true rfl⟩) hS (fun q _ h => hFc q h) hFc (fun u t H1 locs ht hvm hw hB1 hz1 hk1 hS => ?_)
  obtain ⟨q_6, hP1, hD1⟩ := hB1
  rw [ht] at hP1
  obtain ⟨hP, hD⟩ := va_join (wr := [(h0, .inr (8, [.ref hk, .ref hd, .ref q_1, .null])), (q_1, .inr (10, [.ref q_3])), (q_3, .inl (gI G, 96, .inl (fl 96 0 (fun _ => 0))))]) (w1 := [(q_4, .inr (10, [.ref q_6])), (q_6, .inl (gI G, 96, .inl (fl 96 0 (fun _ => 0))))]) hP hD [3] [0, 1, 2] rfl rfl (by decide) (by decide) hk1 hFc hP1 hD1
  generalize H1 = H at hP hS ⊢
  have hP : va_P (gD G) vwCl [(h0, .inr (8, [.ref hk, .ref hd, .ref q_1, .null])), (q_1, .inr (10, [.ref q_3])), (q_3, .inl (gI G, 96, .inl (fl 96 0 (fun _ => 0)))), (q_4, .inr (10, [.ref q_6])), (q_6, .inl (gI G, 96, .inl (fl 96 0 (fun _ => 0))))] H := hP
  have hD : va_D A [(h0, .inr (8, [.ref hk, .ref hd, .ref q_1, .null])), (q_1, .inr (10, [.ref q_3])), (q_3, .inl (gI G, 96, .inl (fl 96 0 (fun _ => 0)))), (q_4, .inr (10, [.ref q_6])), (q_6, .inl (gI G, 96, .inl (fl 96 0 (fun _ => 0))))] := hD
  refine W.eq (g2 := F0 m 39 ls [.ref q_4, .ref h0]) rfl ?_
  refine va_putF (D := gD G) (ci := 8) (v := .ref q_4) (ty := tyX7 3) (C := RX7) (T := TX7) (N := 4) hx hb hts (fun _ h9 => (List.mem_cons_of_mem _ (List.mem_append_right _ (List.mem_append_left _ h9)))) tyX7 tyX7_ok nmX7 hown hK hP hD hS 0 rfl rfl 3 (by decide) (hts (.fieldLink RX7 28 "JudoHall$Podium" "sums" "LJudoHall$Row;") (List.mem_cons_of_mem _ (List.mem_append_left _ (List.mem_of_getElem? (i := 11) rfl)))) (fun _ h9 => h9) rfl hin rfl (tyX7_ok 3 (by decide)) rfl rfl (Nat.le_of_ble_eq_true rfl) dX7_init_39 (fun H locs hP hD hS => ?_)
  have hP : va_P (gD G) vwCl [(h0, .inr (8, [.ref hk, .ref hd, .ref q_1, .ref q_4])), (q_1, .inr (10, [.ref q_3])), (q_3, .inl (gI G, 96, .inl (fl 96 0 (fun _ => 0)))), (q_4, .inr (10, [.ref q_6])), (q_6, .inl (gI G, 96, .inl (fl 96 0 (fun _ => 0))))] H := hP
  have hD : va_D A [(h0, .inr (8, [.ref hk, .ref hd, .ref q_1, .ref q_4])), (q_1, .inr (10, [.ref q_3])), (q_3, .inl (gI G, 96, .inl (fl 96 0 (fun _ => 0)))), (q_4, .inr (10, [.ref q_6])), (q_6, .inl (gI G, 96, .inl (fl 96 0 (fun _ => 0))))] := hD
  have hP9 := hP.sub (ws' := [(h0, .inr (8, [.ref hk, .ref hd, .ref q_1, .ref q_4])), (q_1, .inr (10, [.ref q_3])), (q_3, .inl (gI G, 96, .inl (fl 96 0 (fun _ => 0)))), (q_4, .inr (10, [.ref q_6])), (q_6, .inl (gI G, 96, .inl (fl 96 0 (fun _ => 0))))]) [0, 1, 2, 3, 4] rfl
  have hD9 := hD.sub (ws' := [(h0, .inr (8, [.ref hk, .ref hd, .ref q_1, .ref q_4])), (q_1, .inr (10, [.ref q_3])), (q_3, .inl (gI G, 96, .inl (fl 96 0 (fun _ => 0)))), (q_4, .inr (10, [.ref q_6])), (q_6, .inl (gI G, 96, .inl (fl 96 0 (fun _ => 0))))]) [0, 1, 2, 3, 4] (by decide) rfl
  exact W.vret hx hb hr (fun t ht hW => ⟨⟨(), rfl, trivial, q_1, q_3, q_4, q_6, by rw [ht]; exact hP9, hD9⟩, hS.F ht⟩) hS.2.2 dX7_init_42

def wo_k_Planner_init : List Cond := [.methodLink RX6 3 objectInit, .instanceMethod objectInit, .code objectInit ⟨#[0xb1]⟩ 1 none, .fieldLink RX6 9 "JudoHall$Planner" "book" "LJudoHall$Book;", .fieldLink RX6 15 "JudoHall$Planner" "board" "LJudoHall$Board;", .classLink RX6 19 RX9, .instantiable RX9 1, .initialized RX9, .methodLink RX6 23 yX9_init, .instanceMethod yX9_init, .fieldLink RX6 26 "JudoHall$Planner" "order" "LJudoHall$Row;", .fieldLink RX6 30 "JudoHall$Planner" "ends" "LJudoHall$Row;", .fieldLink RX6 33 "JudoHall$Planner" "matFree" "LJudoHall$Row;", .fieldLink RX6 36 "JudoHall$Planner" "fighterFree" "LJudoHall$Row;", .fieldLink RX6 39 "JudoHall$Planner" "earliest" "LJudoHall$Row;", .fieldLink RX6 42 "JudoHall$Planner" "mats" "LJudoHall$Row;", .fieldLink RX6 45 "JudoHall$Planner" "begins" "LJudoHall$Row;", .fieldLink RX6 48 "JudoHall$Planner" "newMats" "LJudoHall$Row;", .fieldLink RX6 51 "JudoHall$Planner" "newBegins" "LJudoHall$Row;"]
def wq_k_Planner_init : List Cond := .code yX6_init cX6_init 3 none :: (wo_k_Planner_init ++ (wsX60 ++ (wsX90 ++ (wq_c_Row_init ++ []))))
theorem gd_k_Planner_init : ∀ w ∈ wq_k_Planner_init, Gd w := List.forall_mem_cons.mpr ⟨Or.inl rfl, List.forall_mem_append.mpr ⟨gdl wo_k_Planner_init (by decide +kernel), (List.forall_mem_append.mpr ⟨gd_wsX60, (List.forall_mem_append.mpr ⟨gd_wsX90, (List.forall_mem_append.mpr ⟨gd_c_Row_init, (fun _ h => absurd h List.not_mem_nil)⟩)⟩)⟩)⟩⟩
theorem in_k_Planner_init : ∀ w ∈ wq_k_Planner_init, w ∈ lw_tbl := List.forall_mem_cons.mpr ⟨List.mem_of_getElem? (i := 480) (by decide +kernel), List.forall_mem_append.mpr ⟨inT2 wo_k_Planner_init [(2, 88), (1, 36), (1, 37), (2, 91), (2, 92), (2, 89), (1, 45), (1, 3), (2, 90), (1, 47), (2, 93), (2, 94), (2, 95), (2, 96), (2, 97), (2, 98), (2, 99), (2, 100), (2, 101)] (by decide +kernel), (List.forall_mem_append.mpr ⟨in_wsX60, (List.forall_mem_append.mpr ⟨in_wsX90, (List.forall_mem_append.mpr ⟨in_c_Row_init, (fun _ h => absurd h List.not_mem_nil)⟩)⟩)⟩)⟩⟩
set_option maxHeartbeats 4000000 in
set_option maxRecDepth 100000 in
theorem k_Planner_init (l : Launch) (G : gG) (h0 : Nat) (hk : Nat) (hd : Nat) (sz : Nat) : Met l yX6_init wq_k_Planner_init ({ frames := 2, cells := 18, slots := 1145, locals := 45 }) (va_Pc [.ref h0, .ref hk, .ref hd] (mP G [(h0, .inr (7, [.null, .null, .null, .null, .null, .null, .null, .null, .null, .null, .null, .int 0, .int 0, .int 0]))] sz)) (va_Qv (fun _ : Unit => True) (fun (_ : Unit) (t : State) => ∃ (p1 : Nat) (p2 : Nat) (p3 : Nat) (p4 : Nat) (p5 : Nat) (p6 : Nat) (p7 : Nat) (p8 : Nat) (p9 : Nat) (pa : Nat) (q1 : Nat) (q2 : Nat) (q3 : Nat) (q4 : Nat) (q5 : Nat) (q6 : Nat) (q7 : Nat) (q8 : Nat), va_P (gD G) vwCl [(h0, .inr (7, [.ref hk, .ref hd, .ref p1, .ref p3, .ref p5, .ref p7, .ref p9, .ref q1, .ref q3, .ref q5, .ref q7, .int 0, .int 0, .int 0])), (p1, .inr (10, [.ref p2])), (p2, .inl (gI G, 148, .inl (fl 148 0 (fun _ => 0)))), (p3, .inr (10, [.ref p4])), (p4, .inl (gI G, 148, .inl (fl 148 (-1) (fun _ => 0)))), (p5, .inr (10, [.ref p6])), (p6, .inl (gI G, 4, .inl (fl 4 0 (fun _ => 0)))), (p7, .inr (10, [.ref p8])), (p8, .inl (gI G, 96, .inl (fl 96 0 (fun _ => 0)))), (p9, .inr (10, [.ref pa])), (pa, .inl (gI G, 148, .inl (fl 148 0 (fun _ => 0)))), (q1, .inr (10, [.ref q2])), (q2, .inl (gI G, 148, .inl (fl 148 (-1) (fun _ => 0)))), (q3, .inr (10, [.ref q4])), (q4, .inl (gI G, 148, .inl (fl 148 (-1) (fun _ => 0)))), (q5, .inr (10, [.ref q6])), (q6, .inl (gI G, 148, .inl (fl 148 (-1) (fun _ => 0)))), (q7, .inr (10, [.ref q8])), (q8, .inl (gI G, 148, .inl (fl 148 (-1) (fun _ => 0))))] t.heap ∧ va_D (va_A [(h0, .inr (7, [.null, .null, .null, .null, .null, .null, .null, .null, .null, .null, .null, .int 0, .int 0, .int 0]))] sz) [(h0, .inr (7, [.ref hk, .ref hd, .ref p1, .ref p3, .ref p5, .ref p7, .ref p9, .ref q1, .ref q3, .ref q5, .ref q7, .int 0, .int 0, .int 0])), (p1, .inr (10, [.ref p2])), (p2, .inl (gI G, 148, .inl (fl 148 0 (fun _ => 0)))), (p3, .inr (10, [.ref p4])), (p4, .inl (gI G, 148, .inl (fl 148 (-1) (fun _ => 0)))), (p5, .inr (10, [.ref p6])), (p6, .inl (gI G, 4, .inl (fl 4 0 (fun _ => 0)))), (p7, .inr (10, [.ref p8])), (p8, .inl (gI G, 96, .inl (fl 96 0 (fun _ => 0)))), (p9, .inr (10, [.ref pa])), (pa, .inl (gI G, 148, .inl (fl 148 0 (fun _ => 0)))), (q1, .inr (10, [.ref q2])), (q2, .inl (gI G, 148, .inl (fl 148 (-1) (fun _ => 0)))), (q3, .inr (10, [.ref q4])), (q4, .inl (gI G, 148, .inl (fl 148 (-1) (fun _ => 0)))), (q5, .inr (10, [.ref q6])), (q6, .inl (gI G, 148, .inl (fl 148 (-1) (fun _ => 0)))), (q7, .inr (10, [.ref q8])), (q8, .inl (gI G, 148, .inl (fl 148 (-1) (fun _ => 0))))]) (va_A [(h0, .inr (7, [.null, .null, .null, .null, .null, .null, .null, .null, .null, .null, .null, .int 0, .int 0, .int 0]))] sz)) 18 1145 (va_A [(h0, .inr (7, [.null, .null, .null, .null, .null, .null, .null, .null, .null, .null, .null, .int 0, .int 0, .int 0]))] sz) := by
  refine Met.ofW (cc := cX6_init) (maxL := 3) (ret := none) (by decide) rfl ?_
  intro p e s m args below meth c s₁ B hml hv
  obtain ⟨rfl, hsz, hP, hB, hD0⟩ := hv
  have hx := B.exec
  have hb := B.bytes
  have hr := B.returns
  have hts := atoms_spec (ws := wq_k_Planner_init) B.pre
  have hown : s.vm.findClass RX6 = some m.cls := findClass_of_methodNamed B.named
  have hlocks := B.notSynchronized
  have hK := hB.1
  have hin : meth.name = "<init>" := (name_of_methodNamed B.named B.method).1
  subst hsz
  have hD := hD0.self (sz := s.heap.size)
  generalize hAe : va_A [(h0, .inr (7, [.null, .null, .null, .null, .null, .null, .null, .null, .null, .null, .null, .int 0, .int 0, .int 0]))] s.heap.size = A at hD ⊢
  have hA : ∀ q : Nat, s.heap.size ≤ q → A q := fun q h => by rw [← hAe]; exact Or.inr h
  have hS : va_S A s.heap s.heap [] := va_S.rf
  have hP : va_P (gD G) vwCl [(h0, .inr (7, [.null, .null, .null, .null, .null, .null, .null, .null, .null, .null, .null, .int 0, .int 0, .int 0]))] s.heap := hP
  have hD : va_D A [(h0, .inr (7, [.null, .null, .null, .null, .null, .null, .null, .null, .null, .null, .null, .int 0, .int 0, .int 0]))] := hD
  have hl := lv_entry ([.ref h0, .ref hk, .ref hd]) (n := 3) (Nat.le_of_ble_eq_true rfl)
  rw [lg_entry_eq]
  generalize (lg_sl ([.ref h0, .ref hk, .ref hd]) ++ List.replicate (3 - (lg_sl ([.ref h0, .ref hk, .ref hd])).length) Slot.unset).toArray = ls at hl ⊢
  have hl : lv_has ls 3 [(0, .ref h0), (1, .ref hk), (2, .ref hd)] := hl
  refine lv_aload_n hx hb dX6_init_0 rfl (lv_at hl 0 rfl) ?_
  refine W.objInit hx hb hown (hts (.methodLink RX6 3 objectInit) (List.mem_cons_of_mem _ (List.mem_append_left _ (List.mem_of_getElem? (i := 0) rfl)))) (hts (.instanceMethod objectInit) (List.mem_cons_of_mem _ (List.mem_append_left _ (List.mem_of_getElem? (i := 1) rfl)))) (hts _ (List.mem_cons_of_mem _ (List.mem_append_left _ (List.mem_of_getElem? (i := 2) rfl)))) rfl (by rw [hml]; exact hl.1) rfl dX6_init_1 (Nat.le_of_ble_eq_true rfl) (Nat.le_of_ble_eq_true rfl) ?_
  refine W.eq (g2 := F0 m 4 ls []) rfl ?_
  refine lv_aload_n hx hb dX6_init_4 rfl (lv_at hl 0 rfl) ?_
  refine lv_aload_n hx hb dX6_init_5 rfl (lv_at hl 1 rfl) ?_
  refine va_putF (D := gD G) (ci := 7) (v := .ref hk) (ty := tyX6 0) (C := RX6) (T := TX6) (N := 14) hx hb hts (fun _ h9 => (List.mem_cons_of_mem _ (List.mem_append_right _ (List.mem_append_left _ h9)))) tyX6 tyX6_ok nmX6 hown hK hP hD hS 0 rfl rfl 0 (by decide) (hts (.fieldLink RX6 9 "JudoHall$Planner" "book" "LJudoHall$Book;") (List.mem_cons_of_mem _ (List.mem_append_left _ (List.mem_of_getElem? (i := 3) rfl)))) (fun _ h9 => h9) rfl hin rfl (tyX6_ok 0 (by decide)) rfl rfl (Nat.le_of_ble_eq_true rfl) dX6_init_6 (fun H locs hP hD hS => ?_)
  have hP : va_P (gD G) vwCl [(h0, .inr (7, [.ref hk, .null, .null, .null, .null, .null, .null, .null, .null, .null, .null, .int 0, .int 0, .int 0]))] H := hP
  have hD : va_D A [(h0, .inr (7, [.ref hk, .null, .null, .null, .null, .null, .null, .null, .null, .null, .null, .int 0, .int 0, .int 0]))] := hD
  refine lv_aload_n hx hb dX6_init_9 rfl (lv_at hl 0 rfl) ?_
  refine lv_aload_n hx hb dX6_init_10 rfl (lv_at hl 2 rfl) ?_
  refine va_putF (D := gD G) (ci := 7) (v := .ref hd) (ty := tyX6 1) (C := RX6) (T := TX6) (N := 14) hx hb hts (fun _ h9 => (List.mem_cons_of_mem _ (List.mem_append_right _ (List.mem_append_left _ h9)))) tyX6 tyX6_ok nmX6 hown hK hP hD hS 0 rfl rfl 1 (by decide) (hts (.fieldLink RX6 15 "JudoHall$Planner" "board" "LJudoHall$Board;") (List.mem_cons_of_mem _ (List.mem_append_left _ (List.mem_of_getElem? (i := 4) rfl)))) (fun _ h9 => h9) rfl hin rfl (tyX6_ok 1 (by decide)) rfl rfl (Nat.le_of_ble_eq_true rfl) dX6_init_11 (fun H locs hP hD hS => ?_)
  have hP : va_P (gD G) vwCl [(h0, .inr (7, [.ref hk, .ref hd, .null, .null, .null, .null, .null, .null, .null, .null, .null, .int 0, .int 0, .int 0]))] H := hP
  have hD : va_D A [(h0, .inr (7, [.ref hk, .ref hd, .null, .null, .null, .null, .null, .null, .null, .null, .null, .int 0, .int 0, .int 0]))] := hD
  refine lv_aload_n hx hb dX6_init_14 rfl (lv_at hl 0 rfl) ?_
  refine va_new (D := gD G) (ci := 10) (fs := [.null]) (C := RX9) (T := TX9) (N := 1) hx hb hts (fun _ h9 => (List.mem_cons_of_mem _ (List.mem_append_right _ (List.mem_append_right _ (List.mem_append_left _ h9))))) tyX9 tyX9_ok hown (hts (.classLink RX6 19 RX9) (List.mem_cons_of_mem _ (List.mem_append_left _ (List.mem_of_getElem? (i := 5) rfl)))) (hts (.instantiable RX9 1) (List.mem_cons_of_mem _ (List.mem_append_left _ (List.mem_of_getElem? (i := 6) rfl)))) (hts (.initialized RX9) (List.mem_cons_of_mem _ (List.mem_append_left _ (List.mem_of_getElem? (i := 7) rfl)))) hK hP hD hS hA rfl dvX9 (Nat.le_of_ble_eq_true rfl) (Nat.le_of_ble_eq_true rfl) dX6_init_15 (fun q_1 H hP hD hS => ?_)
  have hP : va_P (gD G) vwCl [(h0, .inr (7, [.ref hk, .ref hd, .null, .null, .null, .null, .null, .null, .null, .null, .null, .int 0, .int 0, .int 0])), (q_1, .inr (10, [.null]))] H := hP
  have hD : va_D A [(h0, .inr (7, [.ref hk, .ref hd, .null, .null, .null, .null, .null, .null, .null, .null, .null, .int 0, .int 0, .int 0])), (q_1, .inr (10, [.null]))] := hD
  refine lv_dup hx hb dX6_init_18 rfl ?_
  refine lv_sipush (v := 148) hx hb dX6_init_19 (by decide) ?_
  refine lv_iconst (v := 0) hx hb dX6_init_22 (by decide) ?_
  have hPc := hP.sub (ws' := [(q_1, .inr (10, [.null]))]) [1] rfl
  have hDc := hD.sub (ws' := [(q_1, .inr (10, [.null]))]) [1] (by decide) rfl
  have hFc := va_free (wc := [(q_1, .inr (10, [.null]))]) hD hS hA [1] rfl
  refine va_callv (va_runI (As := [.int 148, .int 0]) (rest := [.ref q_1, .ref h0]) ⟨hx, hb, hml, hown, hts⟩ (c_Row_init l G q_1 148 0 H.size (by decide)) (cwI 2 hts (fun w9 h9 => ⟨(List.mem_cons_of_mem _ (List.mem_append_right _ (List.mem_append_right _ (List.mem_append_right _ (List.mem_append_left _ h9))))), gd_c_Row_init w9 h9⟩) rfl rfl rfl (hts (.initialized RX9) (List.mem_cons_of_mem _ (List.mem_append_left _ (List.mem_of_getElem? (i := 7) rfl)))) (hts (.methodLink RX6 23 yX9_init) (List.mem_cons_of_mem _ (List.mem_append_left _ (List.mem_of_getElem? (i := 8) rfl)))) (hts (.instanceMethod yX9_init) (List.mem_cons_of_mem _ (List.mem_append_left _ (List.mem_of_getElem? (i := 9) rfl)))) rfl kSX9_init ⟨Nat.le_of_ble_eq_true rfl, Nat.le_of_ble_eq_true rfl⟩) (preS_m (As := [.ref q_1, .int 148, .int 0]) hPc hB hDc) rfl rfl hl.1 rfl (lv_room (Nat.le_of_ble_eq_true rfl)) dX6_init_23 ⟨Nat.le_of_ble_eq_true rfl, Nat.le_of_ble_eq_true rfl⟩) hS (fun q _ h => hFc q h) hFc (fun u t H1 locs ht hvm hw hB1 hz1 hk1 hS => ?_)
  obtain ⟨q_3, hP1, hD1⟩ := hB1
  rw [ht] at hP1
  obtain ⟨hP, hD⟩ := va_join (wr := [(h0, .inr (7, [.ref hk, .ref hd, .null, .null, .null, .null, .null, .null, .null, .null, .null, .int 0, .int 0, .int 0]))]) (w1 := [(q_1, .inr (10, [.ref q_3])), (q_3, .inl (gI G, 148, .inl (fl 148 0 (fun _ => 0))))]) hP hD [1] [0] rfl rfl (by decide) (by decide) hk1 hFc hP1 hD1
  generalize H1 = H at hP hS ⊢
  have hP : va_P (gD G) vwCl [(h0, .inr (7, [.ref hk, .ref hd, .null, .null, .null, .null, .null, .null, .null, .null, .null, .int 0, .int 0, .int 0])), (q_1, .inr (10, [.ref q_3])), (q_3, .inl (gI G, 148, .inl (fl 148 0 (fun _ => 0))))] H := hP
  have hD : va_D A [(h0, .inr (7, [.ref hk, .ref hd, .null, .null, .null, .null, .null, .null, .null, .null, .null, .int 0, .int 0, .int 0])), (q_1, .inr (10, [.ref q_3])), (q_3, .inl (gI G, 148, .inl (fl 148 0 (fun _ => 0))))] := hD
  refine W.eq (g2 := F0 m 26 ls [.ref q_1, .ref h0]) rfl ?_
  refine va_putF (D := gD G) (ci := 7) (v := .ref q_1) (ty := tyX6 2) (C := RX6) (T := TX6) (N := 14) hx hb hts (fun _ h9 => (List.mem_cons_of_mem _ (List.mem_append_right _ (List.mem_append_left _ h9)))) tyX6 tyX6_ok nmX6 hown hK hP hD hS 0 rfl rfl 2 (by decide) (hts (.fieldLink RX6 26 "JudoHall$Planner" "order" "LJudoHall$Row;") (List.mem_cons_of_mem _ (List.mem_append_left _ (List.mem_of_getElem? (i := 10) rfl)))) (fun _ h9 => h9) rfl hin rfl (tyX6_ok 2 (by decide)) rfl rfl (Nat.le_of_ble_eq_true rfl) dX6_init_26 (fun H locs hP hD hS => ?_)
  have hP : va_P (gD G) vwCl [(h0, .inr (7, [.ref hk, .ref hd, .ref q_1, .null, .null, .null, .null, .null, .null, .null, .null, .int 0, .int 0, .int 0])), (q_1, .inr (10, [.ref q_3])), (q_3, .inl (gI G, 148, .inl (fl 148 0 (fun _ => 0))))] H := hP
  have hD : va_D A [(h0, .inr (7, [.ref hk, .ref hd, .ref q_1, .null, .null, .null, .null, .null, .null, .null, .null, .int 0, .int 0, .int 0])), (q_1, .inr (10, [.ref q_3])), (q_3, .inl (gI G, 148, .inl (fl 148 0 (fun _ => 0))))] := hD
  refine lv_aload_n hx hb dX6_init_29 rfl (lv_at hl 0 rfl) ?_
  refine va_new (D := gD G) (ci := 10) (fs := [.null]) (C := RX9) (T := TX9) (N := 1) hx hb hts (fun _ h9 => (List.mem_cons_of_mem _ (List.mem_append_right _ (List.mem_append_right _ (List.mem_append_left _ h9))))) tyX9 tyX9_ok hown (hts (.classLink RX6 19 RX9) (List.mem_cons_of_mem _ (List.mem_append_left _ (List.mem_of_getElem? (i := 5) rfl)))) (hts (.instantiable RX9 1) (List.mem_cons_of_mem _ (List.mem_append_left _ (List.mem_of_getElem? (i := 6) rfl)))) (hts (.initialized RX9) (List.mem_cons_of_mem _ (List.mem_append_left _ (List.mem_of_getElem? (i := 7) rfl)))) hK hP hD hS hA rfl dvX9 (Nat.le_of_ble_eq_true rfl) (Nat.le_of_ble_eq_true rfl) dX6_init_30 (fun q_4 H hP hD hS => ?_)
  have hP : va_P (gD G) vwCl [(h0, .inr (7, [.ref hk, .ref hd, .ref q_1, .null, .null, .null, .null, .null, .null, .null, .null, .int 0, .int 0, .int 0])), (q_1, .inr (10, [.ref q_3])), (q_3, .inl (gI G, 148, .inl (fl 148 0 (fun _ => 0)))), (q_4, .inr (10, [.null]))] H := hP
  have hD : va_D A [(h0, .inr (7, [.ref hk, .ref hd, .ref q_1, .null, .null, .null, .null, .null, .null, .null, .null, .int 0, .int 0, .int 0])), (q_1, .inr (10, [.ref q_3])), (q_3, .inl (gI G, 148, .inl (fl 148 0 (fun _ => 0)))), (q_4, .inr (10, [.null]))] := hD
  refine lv_dup hx hb dX6_init_33 rfl ?_
  refine lv_sipush (v := 148) hx hb dX6_init_34 (by decide) ?_
  refine lv_iconst (v := (-1)) hx hb dX6_init_37 (by decide) ?_
  have hPc := hP.sub (ws' := [(q_4, .inr (10, [.null]))]) [3] rfl
  have hDc := hD.sub (ws' := [(q_4, .inr (10, [.null]))]) [3] (by decide) rfl
  have hFc := va_free (wc := [(q_4, .inr (10, [.null]))]) hD hS hA [3] rfl
  refine va_callv (va_runI (As := [.int 148, .int (-1)]) (rest := [.ref q_4, .ref h0]) ⟨hx, hb, hml, hown, hts⟩ (c_Row_init l G q_4 148 (-1) H.size (by decide)) (cwI 2 hts (fun w9 h9 => ⟨(List.mem_cons_of_mem _ (List.mem_append_right _ (List.mem_append_right _ (List.mem_append_right _ (List.mem_append_left _ h9))))), gd_c_Row_init w9 h9⟩) rfl rfl rfl (hts (.initialized RX9) (List.mem_cons_of_mem _ (List.mem_append_left _ (List.mem_of_getElem? (i := 7) rfl)))) (hts (.methodLink RX6 23 yX9_init) (List.mem_cons_of_mem _ (List.mem_append_left _ (List.mem_of_getElem? (i := 8) rfl)))) (hts (.instanceMethod yX9_init) (List.mem_cons_of_mem _ (List.mem_append_left _ (List.mem_of_getElem? (i := 9) rfl)))) rfl kSX9_init ⟨Nat.le_of_ble_eq_true rfl, Nat.le_of_ble_eq_true rfl⟩) (preS_m (As := [.ref q_4, .int 148, .int (-1)]) hPc hB hDc) rfl rfl hl.1 rfl (lv_room (Nat.le_of_ble_eq_true rfl)) dX6_init_38 ⟨Nat.le_of_ble_eq_true rfl, Nat.le_of_ble_eq_true rfl⟩) hS (fun q _ h => hFc q h) hFc (fun u t H1 locs ht hvm hw hB1 hz1 hk1 hS => ?_)
  obtain ⟨q_6, hP1, hD1⟩ := hB1
  rw [ht] at hP1
  obtain ⟨hP, hD⟩ := va_join (wr := [(h0, .inr (7, [.ref hk, .ref hd, .ref q_1, .null, .null, .null, .null, .null, .null, .null, .null, .int 0, .int 0, .int 0])), (q_1, .inr (10, [.ref q_3])), (q_3, .inl (gI G, 148, .inl (fl 148 0 (fun _ => 0))))]) (w1 := [(q_4, .inr (10, [.ref q_6])), (q_6, .inl (gI G, 148, .inl (fl 148 (-1) (fun _ => 0))))]) hP hD [3] [0, 1, 2] rfl rfl (by decide) (by decide) hk1 hFc hP1 hD1
  generalize H1 = H at hP hS ⊢
  have hP : va_P (gD G) vwCl [(h0, .inr (7, [.ref hk, .ref hd, .ref q_1, .null, .null, .null, .null, .null, .null, .null, .null, .int 0, .int 0, .int 0])), (q_1, .inr (10, [.ref q_3])), (q_3, .inl (gI G, 148, .inl (fl 148 0 (fun _ => 0)))), (q_4, .inr (10, [.ref q_6])), (q_6, .inl (gI G, 148, .inl (fl 148 (-1) (fun _ => 0))))] H := hP
  have hD : va_D A [(h0, .inr (7, [.ref hk, .ref hd, .ref q_1, .null, .null, .null, .null, .null, .null, .null, .null, .int 0, .int 0, .int 0])), (q_1, .inr (10, [.ref q_3])), (q_3, .inl (gI G, 148, .inl (fl 148 0 (fun _ => 0)))), (q_4, .inr (10, [.ref q_6])), (q_6, .inl (gI G, 148, .inl (fl 148 (-1) (fun _ => 0))))] := hD
  refine W.eq (g2 := F0 m 41 ls [.ref q_4, .ref h0]) rfl ?_
  refine va_putF (D := gD G) (ci := 7) (v := .ref q_4) (ty := tyX6 3) (C := RX6) (T := TX6) (N := 14) hx hb hts (fun _ h9 => (List.mem_cons_of_mem _ (List.mem_append_right _ (List.mem_append_left _ h9)))) tyX6 tyX6_ok nmX6 hown hK hP hD hS 0 rfl rfl 3 (by decide) (hts (.fieldLink RX6 30 "JudoHall$Planner" "ends" "LJudoHall$Row;") (List.mem_cons_of_mem _ (List.mem_append_left _ (List.mem_of_getElem? (i := 11) rfl)))) (fun _ h9 => h9) rfl hin rfl (tyX6_ok 3 (by decide)) rfl rfl (Nat.le_of_ble_eq_true rfl) dX6_init_41 (fun H locs hP hD hS => ?_)
  have hP : va_P (gD G) vwCl [(h0, .inr (7, [.ref hk, .ref hd, .ref q_1, .ref q_4, .null, .null, .null, .null, .null, .null, .null, .int 0, .int 0, .int 0])), (q_1, .inr (10, [.ref q_3])), (q_3, .inl (gI G, 148, .inl (fl 148 0 (fun _ => 0)))), (q_4, .inr (10, [.ref q_6])), (q_6, .inl (gI G, 148, .inl (fl 148 (-1) (fun _ => 0))))] H := hP
  have hD : va_D A [(h0, .inr (7, [.ref hk, .ref hd, .ref q_1, .ref q_4, .null, .null, .null, .null, .null, .null, .null, .int 0, .int 0, .int 0])), (q_1, .inr (10, [.ref q_3])), (q_3, .inl (gI G, 148, .inl (fl 148 0 (fun _ => 0)))), (q_4, .inr (10, [.ref q_6])), (q_6, .inl (gI G, 148, .inl (fl 148 (-1) (fun _ => 0))))] := hD
  refine lv_aload_n hx hb dX6_init_44 rfl (lv_at hl 0 rfl) ?_
  refine va_new (D := gD G) (ci := 10) (fs := [.null]) (C := RX9) (T := TX9) (N := 1) hx hb hts (fun _ h9 => (List.mem_cons_of_mem _ (List.mem_append_right _ (List.mem_append_right _ (List.mem_append_left _ h9))))) tyX9 tyX9_ok hown (hts (.classLink RX6 19 RX9) (List.mem_cons_of_mem _ (List.mem_append_left _ (List.mem_of_getElem? (i := 5) rfl)))) (hts (.instantiable RX9 1) (List.mem_cons_of_mem _ (List.mem_append_left _ (List.mem_of_getElem? (i := 6) rfl)))) (hts (.initialized RX9) (List.mem_cons_of_mem _ (List.mem_append_left _ (List.mem_of_getElem? (i := 7) rfl)))) hK hP hD hS hA rfl dvX9 (Nat.le_of_ble_eq_true rfl) (Nat.le_of_ble_eq_true rfl) dX6_init_45 (fun q_7 H hP hD hS => ?_)
  have hP : va_P (gD G) vwCl [(h0, .inr (7, [.ref hk, .ref hd, .ref q_1, .ref q_4, .null, .null, .null, .null, .null, .null, .null, .int 0, .int 0, .int 0])), (q_1, .inr (10, [.ref q_3])), (q_3, .inl (gI G, 148, .inl (fl 148 0 (fun _ => 0)))), (q_4, .inr (10, [.ref q_6])), (q_6, .inl (gI G, 148, .inl (fl 148 (-1) (fun _ => 0)))), (q_7, .inr (10, [.null]))] H := hP
  have hD : va_D A [(h0, .inr (7, [.ref hk, .ref hd, .ref q_1, .ref q_4, .null, .null, .null, .null, .null, .null, .null, .int 0, .int 0, .int 0])), (q_1, .inr (10, [.ref q_3])), (q_3, .inl (gI G, 148, .inl (fl 148 0 (fun _ => 0)))), (q_4, .inr (10, [.ref q_6])), (q_6, .inl (gI G, 148, .inl (fl 148 (-1) (fun _ => 0)))), (q_7, .inr (10, [.null]))] := hD
  refine lv_dup hx hb dX6_init_48 rfl ?_
  refine lv_iconst (v := 4) hx hb dX6_init_49 (by decide) ?_
  refine lv_iconst (v := 0) hx hb dX6_init_50 (by decide) ?_
  have hPc := hP.sub (ws' := [(q_7, .inr (10, [.null]))]) [5] rfl
  have hDc := hD.sub (ws' := [(q_7, .inr (10, [.null]))]) [5] (by decide) rfl
  have hFc := va_free (wc := [(q_7, .inr (10, [.null]))]) hD hS hA [5] rfl
  refine va_callv (va_runI (As := [.int 4, .int 0]) (rest := [.ref q_7, .ref h0]) ⟨hx, hb, hml, hown, hts⟩ (c_Row_init l G q_7 4 0 H.size (by decide)) (cwI 2 hts (fun w9 h9 => ⟨(List.mem_cons_of_mem _ (List.mem_append_right _ (List.mem_append_right _ (List.mem_append_right _ (List.mem_append_left _ h9))))), gd_c_Row_init w9 h9⟩) rfl rfl rfl (hts (.initialized RX9) (List.mem_cons_of_mem _ (List.mem_append_left _ (List.mem_of_getElem? (i := 7) rfl)))) (hts (.methodLink RX6 23 yX9_init) (List.mem_cons_of_mem _ (List.mem_append_left _ (List.mem_of_getElem? (i := 8) rfl)))) (hts (.instanceMethod yX9_init) (List.mem_cons_of_mem _ (List.mem_append_left _ (List.mem_of_getElem? (i := 9) rfl)))) rfl kSX9_init ⟨Nat.le_of_ble_eq_true rfl, Nat.le_of_ble_eq_true rfl⟩) (preS_m (As := [.ref q_7, .int 4, .int 0]) hPc hB hDc) rfl rfl hl.1 rfl (lv_room (Nat.le_of_ble_eq_true rfl)) dX6_init_51 ⟨Nat.le_of_ble_eq_true rfl, Nat.le_of_ble_eq_true rfl⟩) hS (fun q _ h => hFc q h) hFc (fun u t H1 locs ht hvm hw hB1 hz1 hk1 hS => ?_)
  obtain ⟨q_9, hP1, hD1⟩ := hB1
  rw [ht] at hP1
  obtain ⟨hP, hD⟩ := va_join (wr := [(h0, .inr (7, [.ref hk, .ref hd, .ref q_1, .ref q_4, .null, .null, .null, .null, .null, .null, .null, .int 0, .int 0, .int 0])), (q_1, .inr (10, [.ref q_3])), (q_3, .inl (gI G, 148, .inl (fl 148 0 (fun _ => 0)))), (q_4, .inr (10, [.ref q_6])), (q_6, .inl (gI G, 148, .inl (fl 148 (-1) (fun _ => 0))))]) (w1 := [(q_7, .inr (10, [.ref q_9])), (q_9, .inl (gI G, 4, .inl (fl 4 0 (fun _ => 0))))]) hP hD [5] [0, 1, 2, 3, 4] rfl rfl (by decide) (by decide) hk1 hFc hP1 hD1
  generalize H1 = H at hP hS ⊢
  have hP : va_P (gD G) vwCl [(h0, .inr (7, [.ref hk, .ref hd, .ref q_1, .ref q_4, .null, .null, .null, .null, .null, .null, .null, .int 0, .int 0, .int 0])), (q_1, .inr (10, [.ref q_3])), (q_3, .inl (gI G, 148, .inl (fl 148 0 (fun _ => 0)))), (q_4, .inr (10, [.ref q_6])), (q_6, .inl (gI G, 148, .inl (fl 148 (-1) (fun _ => 0)))), (q_7, .inr (10, [.ref q_9])), (q_9, .inl (gI G, 4, .inl (fl 4 0 (fun _ => 0))))] H := hP
  have hD : va_D A [(h0, .inr (7, [.ref hk, .ref hd, .ref q_1, .ref q_4, .null, .null, .null, .null, .null, .null, .null, .int 0, .int 0, .int 0])), (q_1, .inr (10, [.ref q_3])), (q_3, .inl (gI G, 148, .inl (fl 148 0 (fun _ => 0)))), (q_4, .inr (10, [.ref q_6])), (q_6, .inl (gI G, 148, .inl (fl 148 (-1) (fun _ => 0)))), (q_7, .inr (10, [.ref q_9])), (q_9, .inl (gI G, 4, .inl (fl 4 0 (fun _ => 0))))] := hD
  refine W.eq (g2 := F0 m 54 ls [.ref q_7, .ref h0]) rfl ?_
  refine va_putF (D := gD G) (ci := 7) (v := .ref q_7) (ty := tyX6 4) (C := RX6) (T := TX6) (N := 14) hx hb hts (fun _ h9 => (List.mem_cons_of_mem _ (List.mem_append_right _ (List.mem_append_left _ h9)))) tyX6 tyX6_ok nmX6 hown hK hP hD hS 0 rfl rfl 4 (by decide) (hts (.fieldLink RX6 33 "JudoHall$Planner" "matFree" "LJudoHall$Row;") (List.mem_cons_of_mem _ (List.mem_append_left _ (List.mem_of_getElem? (i := 12) rfl)))) (fun _ h9 => h9) rfl hin rfl (tyX6_ok 4 (by decide)) rfl rfl (Nat.le_of_ble_eq_true rfl) dX6_init_54 (fun H locs hP hD hS => ?_)
  have hP : va_P (gD G) vwCl [(h0, .inr (7, [.ref hk, .ref hd, .ref q_1, .ref q_4, .ref q_7, .null, .null, .null, .null, .null, .null, .int 0, .int 0, .int 0])), (q_1, .inr (10, [.ref q_3])), (q_3, .inl (gI G, 148, .inl (fl 148 0 (fun _ => 0)))), (q_4, .inr (10, [.ref q_6])), (q_6, .inl (gI G, 148, .inl (fl 148 (-1) (fun _ => 0)))), (q_7, .inr (10, [.ref q_9])), (q_9, .inl (gI G, 4, .inl (fl 4 0 (fun _ => 0))))] H := hP
  have hD : va_D A [(h0, .inr (7, [.ref hk, .ref hd, .ref q_1, .ref q_4, .ref q_7, .null, .null, .null, .null, .null, .null, .int 0, .int 0, .int 0])), (q_1, .inr (10, [.ref q_3])), (q_3, .inl (gI G, 148, .inl (fl 148 0 (fun _ => 0)))), (q_4, .inr (10, [.ref q_6])), (q_6, .inl (gI G, 148, .inl (fl 148 (-1) (fun _ => 0)))), (q_7, .inr (10, [.ref q_9])), (q_9, .inl (gI G, 4, .inl (fl 4 0 (fun _ => 0))))] := hD
  refine lv_aload_n hx hb dX6_init_57 rfl (lv_at hl 0 rfl) ?_
  refine va_new (D := gD G) (ci := 10) (fs := [.null]) (C := RX9) (T := TX9) (N := 1) hx hb hts (fun _ h9 => (List.mem_cons_of_mem _ (List.mem_append_right _ (List.mem_append_right _ (List.mem_append_left _ h9))))) tyX9 tyX9_ok hown (hts (.classLink RX6 19 RX9) (List.mem_cons_of_mem _ (List.mem_append_left _ (List.mem_of_getElem? (i := 5) rfl)))) (hts (.instantiable RX9 1) (List.mem_cons_of_mem _ (List.mem_append_left _ (List.mem_of_getElem? (i := 6) rfl)))) (hts (.initialized RX9) (List.mem_cons_of_mem _ (List.mem_append_left _ (List.mem_of_getElem? (i := 7) rfl)))) hK hP hD hS hA rfl dvX9 (Nat.le_of_ble_eq_true rfl) (Nat.le_of_ble_eq_true rfl) dX6_init_58 (fun q_10 H hP hD hS => ?_)
  have hP : va_P (gD G) vwCl [(h0, .inr (7, [.ref hk, .ref hd, .ref q_1, .ref q_4, .ref q_7, .null, .null, .null, .null, .null, .null, .int 0, .int 0, .int 0])), (q_1, .inr (10, [.ref q_3])), (q_3, .inl (gI G, 148, .inl (fl 148 0 (fun _ => 0)))), (q_4, .inr (10, [.ref q_6])), (q_6, .inl (gI G, 148, .inl (fl 148 (-1) (fun _ => 0)))), (q_7, .inr (10, [.ref q_9])), (q_9, .inl (gI G, 4, .inl (fl 4 0 (fun _ => 0)))), (q_10, .inr (10, [.null]))] H := hP
  have hD : va_D A [(h0, .inr (7, [.ref hk, .ref hd, .ref q_1, .ref q_4, .ref q_7, .null, .null, .null, .null, .null, .null, .int 0, .int 0, .int 0])), (q_1, .inr (10, [.ref q_3])), (q_3, .inl (gI G, 148, .inl (fl 148 0 (fun _ => 0)))), (q_4, .inr (10, [.ref q_6])), (q_6, .inl (gI G, 148, .inl (fl 148 (-1) (fun _ => 0)))), (q_7, .inr (10, [.ref q_9])), (q_9, .inl (gI G, 4, .inl (fl 4 0 (fun _ => 0)))), (q_10, .inr (10, [.null]))] := hD
  refine lv_dup hx hb dX6_init_61 rfl ?_
  refine lv_bipush (v := 96) hx hb dX6_init_62 (by decide) ?_
  refine lv_iconst (v := 0) hx hb dX6_init_64 (by decide) ?_
  have hPc := hP.sub (ws' := [(q_10, .inr (10, [.null]))]) [7] rfl
  have hDc := hD.sub (ws' := [(q_10, .inr (10, [.null]))]) [7] (by decide) rfl
  have hFc := va_free (wc := [(q_10, .inr (10, [.null]))]) hD hS hA [7] rfl
  refine va_callv (va_runI (As := [.int 96, .int 0]) (rest := [.ref q_10, .ref h0]) ⟨hx, hb, hml, hown, hts⟩ (c_Row_init l G q_10 96 0 H.size (by decide)) (cwI 2 hts (fun w9 h9 => ⟨(List.mem_cons_of_mem _ (List.mem_append_right _ (List.mem_append_right _ (List.mem_append_right _ (List.mem_append_left _ h9))))), gd_c_Row_init w9 h9⟩) rfl rfl rfl (hts (.initialized RX9) (List.mem_cons_of_mem _ (List.mem_append_left _ (List.mem_of_getElem? (i := 7) rfl)))) (hts (.methodLink RX6 23 yX9_init) (List.mem_cons_of_mem _ (List.mem_append_left _ (List.mem_of_getElem? (i := 8) rfl)))) (hts (.instanceMethod yX9_init) (List.mem_cons_of_mem _ (List.mem_append_left _ (List.mem_of_getElem? (i := 9) rfl)))) rfl kSX9_init ⟨Nat.le_of_ble_eq_true rfl, Nat.le_of_ble_eq_true rfl⟩) (preS_m (As := [.ref q_10, .int 96, .int 0]) hPc hB hDc) rfl rfl hl.1 rfl (lv_room (Nat.le_of_ble_eq_true rfl)) dX6_init_65 ⟨Nat.le_of_ble_eq_true rfl, Nat.le_of_ble_eq_true rfl⟩) hS (fun q _ h => hFc q h) hFc (fun u t H1 locs ht hvm hw hB1 hz1 hk1 hS => ?_)
  obtain ⟨q_12, hP1, hD1⟩ := hB1
  rw [ht] at hP1
  obtain ⟨hP, hD⟩ := va_join (wr := [(h0, .inr (7, [.ref hk, .ref hd, .ref q_1, .ref q_4, .ref q_7, .null, .null, .null, .null, .null, .null, .int 0, .int 0, .int 0])), (q_1, .inr (10, [.ref q_3])), (q_3, .inl (gI G, 148, .inl (fl 148 0 (fun _ => 0)))), (q_4, .inr (10, [.ref q_6])), (q_6, .inl (gI G, 148, .inl (fl 148 (-1) (fun _ => 0)))), (q_7, .inr (10, [.ref q_9])), (q_9, .inl (gI G, 4, .inl (fl 4 0 (fun _ => 0))))]) (w1 := [(q_10, .inr (10, [.ref q_12])), (q_12, .inl (gI G, 96, .inl (fl 96 0 (fun _ => 0))))]) hP hD [7] [0, 1, 2, 3, 4, 5, 6] rfl rfl (by decide) (by decide) hk1 hFc hP1 hD1
  generalize H1 = H at hP hS ⊢
  have hP : va_P (gD G) vwCl [(h0, .inr (7, [.ref hk, .ref hd, .ref q_1, .ref q_4, .ref q_7, .null, .null, .null, .null, .null, .null, .int 0, .int 0, .int 0])), (q_1, .inr (10, [.ref q_3])), (q_3, .inl (gI G, 148, .inl (fl 148 0 (fun _ => 0)))), (q_4, .inr (10, [.ref q_6])), (q_6, .inl (gI G, 148, .inl (fl 148 (-1) (fun _ => 0)))), (q_7, .inr (10, [.ref q_9])), (q_9, .inl (gI G, 4, .inl (fl 4 0 (fun _ => 0)))), (q_10, .inr (10, [.ref q_12])), (q_12, .inl (gI G, 96, .inl (fl 96 0 (fun _ => 0))))] H := hP
  have hD : va_D A [(h0, .inr (7, [.ref hk, .ref hd, .ref q_1, .ref q_4, .ref q_7, .null, .null, .null, .null, .null, .null, .int 0, .int 0, .int 0])), (q_1, .inr (10, [.ref q_3])), (q_3, .inl (gI G, 148, .inl (fl 148 0 (fun _ => 0)))), (q_4, .inr (10, [.ref q_6])), (q_6, .inl (gI G, 148, .inl (fl 148 (-1) (fun _ => 0)))), (q_7, .inr (10, [.ref q_9])), (q_9, .inl (gI G, 4, .inl (fl 4 0 (fun _ => 0)))), (q_10, .inr (10, [.ref q_12])), (q_12, .inl (gI G, 96, .inl (fl 96 0 (fun _ => 0))))] := hD
  refine W.eq (g2 := F0 m 68 ls [.ref q_10, .ref h0]) rfl ?_
  refine va_putF (D := gD G) (ci := 7) (v := .ref q_10) (ty := tyX6 5) (C := RX6) (T := TX6) (N := 14) hx hb hts (fun _ h9 => (List.mem_cons_of_mem _ (List.mem_append_right _ (List.mem_append_left _ h9)))) tyX6 tyX6_ok nmX6 hown hK hP hD hS 0 rfl rfl 5 (by decide) (hts (.fieldLink RX6 36 "JudoHall$Planner" "fighterFree" "LJudoHall$Row;") (List.mem_cons_of_mem _ (List.mem_append_left _ (List.mem_of_getElem? (i := 13) rfl)))) (fun _ h9 => h9) rfl hin rfl (tyX6_ok 5 (by decide)) rfl rfl (Nat.le_of_ble_eq_true rfl) dX6_init_68 (fun H locs hP hD hS => ?_)
  have hP : va_P (gD G) vwCl [(h0, .inr (7, [.ref hk, .ref hd, .ref q_1, .ref q_4, .ref q_7, .ref q_10, .null, .null, .null, .null, .null, .int 0, .int 0, .int 0])), (q_1, .inr (10, [.ref q_3])), (q_3, .inl (gI G, 148, .inl (fl 148 0 (fun _ => 0)))), (q_4, .inr (10, [.ref q_6])), (q_6, .inl (gI G, 148, .inl (fl 148 (-1) (fun _ => 0)))), (q_7, .inr (10, [.ref q_9])), (q_9, .inl (gI G, 4, .inl (fl 4 0 (fun _ => 0)))), (q_10, .inr (10, [.ref q_12])), (q_12, .inl (gI G, 96, .inl (fl 96 0 (fun _ => 0))))] H := hP
  have hD : va_D A [(h0, .inr (7, [.ref hk, .ref hd, .ref q_1, .ref q_4, .ref q_7, .ref q_10, .null, .null, .null, .null, .null, .int 0, .int 0, .int 0])), (q_1, .inr (10, [.ref q_3])), (q_3, .inl (gI G, 148, .inl (fl 148 0 (fun _ => 0)))), (q_4, .inr (10, [.ref q_6])), (q_6, .inl (gI G, 148, .inl (fl 148 (-1) (fun _ => 0)))), (q_7, .inr (10, [.ref q_9])), (q_9, .inl (gI G, 4, .inl (fl 4 0 (fun _ => 0)))), (q_10, .inr (10, [.ref q_12])), (q_12, .inl (gI G, 96, .inl (fl 96 0 (fun _ => 0))))] := hD
  refine lv_aload_n hx hb dX6_init_71 rfl (lv_at hl 0 rfl) ?_
  refine va_new (D := gD G) (ci := 10) (fs := [.null]) (C := RX9) (T := TX9) (N := 1) hx hb hts (fun _ h9 => (List.mem_cons_of_mem _ (List.mem_append_right _ (List.mem_append_right _ (List.mem_append_left _ h9))))) tyX9 tyX9_ok hown (hts (.classLink RX6 19 RX9) (List.mem_cons_of_mem _ (List.mem_append_left _ (List.mem_of_getElem? (i := 5) rfl)))) (hts (.instantiable RX9 1) (List.mem_cons_of_mem _ (List.mem_append_left _ (List.mem_of_getElem? (i := 6) rfl)))) (hts (.initialized RX9) (List.mem_cons_of_mem _ (List.mem_append_left _ (List.mem_of_getElem? (i := 7) rfl)))) hK hP hD hS hA rfl dvX9 (Nat.le_of_ble_eq_true rfl) (Nat.le_of_ble_eq_true rfl) dX6_init_72 (fun q_13 H hP hD hS => ?_)
  have hP : va_P (gD G) vwCl [(h0, .inr (7, [.ref hk, .ref hd, .ref q_1, .ref q_4, .ref q_7, .ref q_10, .null, .null, .null, .null, .null, .int 0, .int 0, .int 0])), (q_1, .inr (10, [.ref q_3])), (q_3, .inl (gI G, 148, .inl (fl 148 0 (fun _ => 0)))), (q_4, .inr (10, [.ref q_6])), (q_6, .inl (gI G, 148, .inl (fl 148 (-1) (fun _ => 0)))), (q_7, .inr (10, [.ref q_9])), (q_9, .inl (gI G, 4, .inl (fl 4 0 (fun _ => 0)))), (q_10, .inr (10, [.ref q_12])), (q_12, .inl (gI G, 96, .inl (fl 96 0 (fun _ => 0)))), (q_13, .inr (10, [.null]))] H := hP
  have hD : va_D A [(h0, .inr (7, [.ref hk, .ref hd, .ref q_1, .ref q_4, .ref q_7, .ref q_10, .null, .null, .null, .null, .null, .int 0, .int 0, .int 0])), (q_1, .inr (10, [.ref q_3])), (q_3, .inl (gI G, 148, .inl (fl 148 0 (fun _ => 0)))), (q_4, .inr (10, [.ref q_6])), (q_6, .inl (gI G, 148, .inl (fl 148 (-1) (fun _ => 0)))), (q_7, .inr (10, [.ref q_9])), (q_9, .inl (gI G, 4, .inl (fl 4 0 (fun _ => 0)))), (q_10, .inr (10, [.ref q_12])), (q_12, .inl (gI G, 96, .inl (fl 96 0 (fun _ => 0)))), (q_13, .inr (10, [.null]))] := hD
  refine lv_dup hx hb dX6_init_75 rfl ?_
  refine lv_sipush (v := 148) hx hb dX6_init_76 (by decide) ?_
  refine lv_iconst (v := 0) hx hb dX6_init_79 (by decide) ?_
  have hPc := hP.sub (ws' := [(q_13, .inr (10, [.null]))]) [9] rfl
  have hDc := hD.sub (ws' := [(q_13, .inr (10, [.null]))]) [9] (by decide) rfl
  have hFc := va_free (wc := [(q_13, .inr (10, [.null]))]) hD hS hA [9] rfl
  refine va_callv (va_runI (As := [.int 148, .int 0]) (rest := [.ref q_13, .ref h0]) ⟨hx, hb, hml, hown, hts⟩ (c_Row_init l G q_13 148 0 H.size (by decide)) (cwI 2 hts (fun w9 h9 => ⟨(List.mem_cons_of_mem _ (List.mem_append_right _ (List.mem_append_right _ (List.mem_append_right _ (List.mem_append_left _ h9))))), gd_c_Row_init w9 h9⟩) rfl rfl rfl (hts (.initialized RX9) (List.mem_cons_of_mem _ (List.mem_append_left _ (List.mem_of_getElem? (i := 7) rfl)))) (hts (.methodLink RX6 23 yX9_init) (List.mem_cons_of_mem _ (List.mem_append_left _ (List.mem_of_getElem? (i := 8) rfl)))) (hts (.instanceMethod yX9_init) (List.mem_cons_of_mem _ (List.mem_append_left _ (List.mem_of_getElem? (i := 9) rfl)))) rfl kSX9_init ⟨Nat.le_of_ble_eq_true rfl, Nat.le_of_ble_eq_true rfl⟩) (preS_m (As := [.ref q_13, .int 148, .int 0]) hPc hB hDc) rfl rfl hl.1 rfl (lv_room (Nat.le_of_ble_eq_true rfl)) dX6_init_80 ⟨Nat.le_of_ble_eq_true rfl, Nat.le_of_ble_eq_true rfl⟩) hS (fun q _ h => hFc q h) hFc (fun u t H1 locs ht hvm hw hB1 hz1 hk1 hS => ?_)
  obtain ⟨q_15, hP1, hD1⟩ := hB1
  rw [ht] at hP1
  obtain ⟨hP, hD⟩ := va_join (wr := [(h0, .inr (7, [.ref hk, .ref hd, .ref q_1, .ref q_4, .ref q_7, .ref q_10, .null, .null, .null, .null, .null, .int 0, .int 0, .int 0])), (q_1, .inr (10, [.ref q_3])), (q_3, .inl (gI G, 148, .inl (fl 148 0 (fun _ => 0)))), (q_4, .inr (10, [.ref q_6])), (q_6, .inl (gI G, 148, .inl (fl 148 (-1) (fun _ => 0)))), (q_7, .inr (10, [.ref q_9])), (q_9, .inl (gI G, 4, .inl (fl 4 0 (fun _ => 0)))), (q_10, .inr (10, [.ref q_12])), (q_12, .inl (gI G, 96, .inl (fl 96 0 (fun _ => 0))))]) (w1 := [(q_13, .inr (10, [.ref q_15])), (q_15, .inl (gI G, 148, .inl (fl 148 0 (fun _ => 0))))]) hP hD [9] [0, 1, 2, 3, 4, 5, 6, 7, 8] rfl rfl (by decide) (by decide) hk1 hFc hP1 hD1
  generalize H1 = H at hP hS ⊢
  have hP : va_P (gD G) vwCl [(h0, .inr (7, [.ref hk, .ref hd, .ref q_1, .ref q_4, .ref q_7, .ref q_10, .null, .null, .null, .null, .null, .int 0, .int 0, .int 0])), (q_1, .inr (10, [.ref q_3])), (q_3, .inl (gI G, 148, .inl (fl 148 0 (fun _ => 0)))), (q_4, .inr (10, [.ref q_6])), (q_6, .inl (gI G, 148, .inl (fl 148 (-1) (fun _ => 0)))), (q_7, .inr (10, [.ref q_9])), (q_9, .inl (gI G, 4, .inl (fl 4 0 (fun _ => 0)))), (q_10, .inr (10, [.ref q_12])), (q_12, .inl (gI G, 96, .inl (fl 96 0 (fun _ => 0)))), (q_13, .inr (10, [.ref q_15])), (q_15, .inl (gI G, 148, .inl (fl 148 0 (fun _ => 0))))] H := hP
  have hD : va_D A [(h0, .inr (7, [.ref hk, .ref hd, .ref q_1, .ref q_4, .ref q_7, .ref q_10, .null, .null, .null, .null, .null, .int 0, .int 0, .int 0])), (q_1, .inr (10, [.ref q_3])), (q_3, .inl (gI G, 148, .inl (fl 148 0 (fun _ => 0)))), (q_4, .inr (10, [.ref q_6])), (q_6, .inl (gI G, 148, .inl (fl 148 (-1) (fun _ => 0)))), (q_7, .inr (10, [.ref q_9])), (q_9, .inl (gI G, 4, .inl (fl 4 0 (fun _ => 0)))), (q_10, .inr (10, [.ref q_12])), (q_12, .inl (gI G, 96, .inl (fl 96 0 (fun _ => 0)))), (q_13, .inr (10, [.ref q_15])), (q_15, .inl (gI G, 148, .inl (fl 148 0 (fun _ => 0))))] := hD
  refine W.eq (g2 := F0 m 83 ls [.ref q_13, .ref h0]) rfl ?_
  refine va_putF (D := gD G) (ci := 7) (v := .ref q_13) (ty := tyX6 6) (C := RX6) (T := TX6) (N := 14) hx hb hts (fun _ h9 => (List.mem_cons_of_mem _ (List.mem_append_right _ (List.mem_append_left _ h9)))) tyX6 tyX6_ok nmX6 hown hK hP hD hS 0 rfl rfl 6 (by decide) (hts (.fieldLink RX6 39 "JudoHall$Planner" "earliest" "LJudoHall$Row;") (List.mem_cons_of_mem _ (List.mem_append_left _ (List.mem_of_getElem? (i := 14) rfl)))) (fun _ h9 => h9) rfl hin rfl (tyX6_ok 6 (by decide)) rfl rfl (Nat.le_of_ble_eq_true rfl) dX6_init_83 (fun H locs hP hD hS => ?_)
  have hP : va_P (gD G) vwCl [(h0, .inr (7, [.ref hk, .ref hd, .ref q_1, .ref q_4, .ref q_7, .ref q_10, .ref q_13, .null, .null, .null, .null, .int 0, .int 0, .int 0])), (q_1, .inr (10, [.ref q_3])), (q_3, .inl (gI G, 148, .inl (fl 148 0 (fun _ => 0)))), (q_4, .inr (10, [.ref q_6])), (q_6, .inl (gI G, 148, .inl (fl 148 (-1) (fun _ => 0)))), (q_7, .inr (10, [.ref q_9])), (q_9, .inl (gI G, 4, .inl (fl 4 0 (fun _ => 0)))), (q_10, .inr (10, [.ref q_12])), (q_12, .inl (gI G, 96, .inl (fl 96 0 (fun _ => 0)))), (q_13, .inr (10, [.ref q_15])), (q_15, .inl (gI G, 148, .inl (fl 148 0 (fun _ => 0))))] H := hP
  have hD : va_D A [(h0, .inr (7, [.ref hk, .ref hd, .ref q_1, .ref q_4, .ref q_7, .ref q_10, .ref q_13, .null, .null, .null, .null, .int 0, .int 0, .int 0])), (q_1, .inr (10, [.ref q_3])), (q_3, .inl (gI G, 148, .inl (fl 148 0 (fun _ => 0)))), (q_4, .inr (10, [.ref q_6])), (q_6, .inl (gI G, 148, .inl (fl 148 (-1) (fun _ => 0)))), (q_7, .inr (10, [.ref q_9])), (q_9, .inl (gI G, 4, .inl (fl 4 0 (fun _ => 0)))), (q_10, .inr (10, [.ref q_12])), (q_12, .inl (gI G, 96, .inl (fl 96 0 (fun _ => 0)))), (q_13, .inr (10, [.ref q_15])), (q_15, .inl (gI G, 148, .inl (fl 148 0 (fun _ => 0))))] := hD
  refine lv_aload_n hx hb dX6_init_86 rfl (lv_at hl 0 rfl) ?_
  refine va_new (D := gD G) (ci := 10) (fs := [.null]) (C := RX9) (T := TX9) (N := 1) hx hb hts (fun _ h9 => (List.mem_cons_of_mem _ (List.mem_append_right _ (List.mem_append_right _ (List.mem_append_left _ h9))))) tyX9 tyX9_ok hown (hts (.classLink RX6 19 RX9) (List.mem_cons_of_mem _ (List.mem_append_left _ (List.mem_of_getElem? (i := 5) rfl)))) (hts (.instantiable RX9 1) (List.mem_cons_of_mem _ (List.mem_append_left _ (List.mem_of_getElem? (i := 6) rfl)))) (hts (.initialized RX9) (List.mem_cons_of_mem _ (List.mem_append_left _ (List.mem_of_getElem? (i := 7) rfl)))) hK hP hD hS hA rfl dvX9 (Nat.le_of_ble_eq_true rfl) (Nat.le_of_ble_eq_true rfl) dX6_init_87 (fun q_16 H hP hD hS => ?_)
  have hP : va_P (gD G) vwCl [(h0, .inr (7, [.ref hk, .ref hd, .ref q_1, .ref q_4, .ref q_7, .ref q_10, .ref q_13, .null, .null, .null, .null, .int 0, .int 0, .int 0])), (q_1, .inr (10, [.ref q_3])), (q_3, .inl (gI G, 148, .inl (fl 148 0 (fun _ => 0)))), (q_4, .inr (10, [.ref q_6])), (q_6, .inl (gI G, 148, .inl (fl 148 (-1) (fun _ => 0)))), (q_7, .inr (10, [.ref q_9])), (q_9, .inl (gI G, 4, .inl (fl 4 0 (fun _ => 0)))), (q_10, .inr (10, [.ref q_12])), (q_12, .inl (gI G, 96, .inl (fl 96 0 (fun _ => 0)))), (q_13, .inr (10, [.ref q_15])), (q_15, .inl (gI G, 148, .inl (fl 148 0 (fun _ => 0)))), (q_16, .inr (10, [.null]))] H := hP
  have hD : va_D A [(h0, .inr (7, [.ref hk, .ref hd, .ref q_1, .ref q_4, .ref q_7, .ref q_10, .ref q_13, .null, .null, .null, .null, .int 0, .int 0, .int 0])), (q_1, .inr (10, [.ref q_3])), (q_3, .inl (gI G, 148, .inl (fl 148 0 (fun _ => 0)))), (q_4, .inr (10, [.ref q_6])), (q_6, .inl (gI G, 148, .inl (fl 148 (-1) (fun _ => 0)))), (q_7, .inr (10, [.ref q_9])), (q_9, .inl (gI G, 4, .inl (fl 4 0 (fun _ => 0)))), (q_10, .inr (10, [.ref q_12])), (q_12, .inl (gI G, 96, .inl (fl 96 0 (fun _ => 0)))), (q_13, .inr (10, [.ref q_15])), (q_15, .inl (gI G, 148, .inl (fl 148 0 (fun _ => 0)))), (q_16, .inr (10, [.null]))] := hD
  refine lv_dup hx hb dX6_init_90 rfl ?_
  refine lv_sipush (v := 148) hx hb dX6_init_91 (by decide) ?_
  refine lv_iconst (v := (-1)) hx hb dX6_init_94 (by decide) ?_
  have hPc := hP.sub (ws' := [(q_16, .inr (10, [.null]))]) [11] rfl
  have hDc := hD.sub (ws' := [(q_16, .inr (10, [.null]))]) [11] (by decide) rfl
  have hFc := va_free (wc := [(q_16, .inr (10, [.null]))]) hD hS hA [11] rfl
  refine va_callv (va_runI (As := [.int 148, .int (-1)]) (rest := [.ref q_16, .ref h0]) ⟨hx, hb, hml, hown, hts⟩ (c_Row_init l G q_16 148 (-1) H.size (by decide)) (cwI 2 hts (fun w9 h9 => ⟨(List.mem_cons_of_mem _ (List.mem_append_right _ (List.mem_append_right _ (List.mem_append_right _ (List.mem_append_left _ h9))))), gd_c_Row_init w9 h9⟩) rfl rfl rfl (hts (.initialized RX9) (List.mem_cons_of_mem _ (List.mem_append_left _ (List.mem_of_getElem? (i := 7) rfl)))) (hts (.methodLink RX6 23 yX9_init) (List.mem_cons_of_mem _ (List.mem_append_left _ (List.mem_of_getElem? (i := 8) rfl)))) (hts (.instanceMethod yX9_init) (List.mem_cons_of_mem _ (List.mem_append_left _ (List.mem_of_getElem? (i := 9) rfl)))) rfl kSX9_init ⟨Nat.le_of_ble_eq_true rfl, Nat.le_of_ble_eq_true rfl⟩) (preS_m (As := [.ref q_16, .int 148, .int (-1)]) hPc hB hDc) rfl rfl hl.1 rfl (lv_room (Nat.le_of_ble_eq_true rfl)) dX6_init_95 ⟨Nat.le_of_ble_eq_true rfl, Nat.le_of_ble_eq_true rfl⟩) hS (fun q _ h => hFc q h) hFc (fun u t H1 locs ht hvm hw hB1 hz1 hk1 hS => ?_)
  obtain ⟨q_18, hP1, hD1⟩ := hB1
  rw [ht] at hP1
  obtain ⟨hP, hD⟩ := va_join (wr := [(h0, .inr (7, [.ref hk, .ref hd, .ref q_1, .ref q_4, .ref q_7, .ref q_10, .ref q_13, .null, .null, .null, .null, .int 0, .int 0, .int 0])), (q_1, .inr (10, [.ref q_3])), (q_3, .inl (gI G, 148, .inl (fl 148 0 (fun _ => 0)))), (q_4, .inr (10, [.ref q_6])), (q_6, .inl (gI G, 148, .inl (fl 148 (-1) (fun _ => 0)))), (q_7, .inr (10, [.ref q_9])), (q_9, .inl (gI G, 4, .inl (fl 4 0 (fun _ => 0)))), (q_10, .inr (10, [.ref q_12])), (q_12, .inl (gI G, 96, .inl (fl 96 0 (fun _ => 0)))), (q_13, .inr (10, [.ref q_15])), (q_15, .inl (gI G, 148, .inl (fl 148 0 (fun _ => 0))))]) (w1 := [(q_16, .inr (10, [.ref q_18])), (q_18, .inl (gI G, 148, .inl (fl 148 (-1) (fun _ => 0))))]) hP hD [11] [0, 1, 2, 3, 4, 5, 6, 7, 8, 9, 10] rfl rfl (by decide) (by decide) hk1 hFc hP1 hD1
  generalize H1 = H at hP hS ⊢
  have hP : va_P (gD G) vwCl [(h0, .inr (7, [.ref hk, .ref hd, .ref q_1, .ref q_4, .ref q_7, .ref q_10, .ref q_13, .null, .null, .null, .null, .int 0, .int 0, .int 0])), (q_1, .inr (10, [.ref q_3])), (q_3, .inl (gI G, 148, .inl (fl 148 0 (fun _ => 0)))), (q_4, .inr (10, [.ref q_6])), (q_6, .inl (gI G, 148, .inl (fl 148 (-1) (fun _ => 0)))), (q_7, .inr (10, [.ref q_9])), (q_9, .inl (gI G, 4, .inl (fl 4 0 (fun _ => 0)))), (q_10, .inr (10, [.ref q_12])), (q_12, .inl (gI G, 96, .inl (fl 96 0 (fun _ => 0)))), (q_13, .inr (10, [.ref q_15])), (q_15, .inl (gI G, 148, .inl (fl 148 0 (fun _ => 0)))), (q_16, .inr (10, [.ref q_18])), (q_18, .inl (gI G, 148, .inl (fl 148 (-1) (fun _ => 0))))] H := hP
  have hD : va_D A [(h0, .inr (7, [.ref hk, .ref hd, .ref q_1, .ref q_4, .ref q_7, .ref q_10, .ref q_13, .null, .null, .null, .null, .int 0, .int 0, .int 0])), (q_1, .inr (10, [.ref q_3])), (q_3, .inl (gI G, 148, .inl (fl 148 0 (fun _ => 0)))), (q_4, .inr (10, [.ref q_6])), (q_6, .inl (gI G, 148, .inl (fl 148 (-1) (fun _ => 0)))), (q_7, .inr (10, [.ref q_9])), (q_9, .inl (gI G, 4, .inl (fl 4 0 (fun _ => 0)))), (q_10, .inr (10, [.ref q_12])), (q_12, .inl (gI G, 96, .inl (fl 96 0 (fun _ => 0)))), (q_13, .inr (10, [.ref q_15])), (q_15, .inl (gI G, 148, .inl (fl 148 0 (fun _ => 0)))), (q_16, .inr (10, [.ref q_18])), (q_18, .inl (gI G, 148, .inl (fl 148 (-1) (fun _ => 0))))] := hD
  refine W.eq (g2 := F0 m 98 ls [.ref q_16, .ref h0]) rfl ?_
  refine va_put (D := gD G) (ci := 7) (v := .ref q_16) (ty := tyX6 7) (C := RX6) (T := TX6) (N := 14) hx hb hts (fun _ h9 => (List.mem_cons_of_mem _ (List.mem_append_right _ (List.mem_append_left _ h9)))) tyX6 tyX6_ok nmX6 hown hK hP hD hS 0 rfl rfl 7 (by decide) (hts (.fieldLink RX6 42 "JudoHall$Planner" "mats" "LJudoHall$Row;") (List.mem_cons_of_mem _ (List.mem_append_left _ (List.mem_of_getElem? (i := 15) rfl)))) (fun _ h9 => h9) rfl (tyX6_ok 7 (by decide)) rfl rfl (Nat.le_of_ble_eq_true rfl) dX6_init_98 (fun H locs hP hD hS => ?_)
  have hP : va_P (gD G) vwCl [(h0, .inr (7, [.ref hk, .ref hd, .ref q_1, .ref q_4, .ref q_7, .ref q_10, .ref q_13, .ref q_16, .null, .null, .null, .int 0, .int 0, .int 0])), (q_1, .inr (10, [.ref q_3])), (q_3, .inl (gI G, 148, .inl (fl 148 0 (fun _ => 0)))), (q_4, .inr (10, [.ref q_6])), (q_6, .inl (gI G, 148, .inl (fl 148 (-1) (fun _ => 0)))), (q_7, .inr (10, [.ref q_9])), (q_9, .inl (gI G, 4, .inl (fl 4 0 (fun _ => 0)))), (q_10, .inr (10, [.ref q_12])), (q_12, .inl (gI G, 96, .inl (fl 96 0 (fun _ => 0)))), (q_13, .inr (10, [.ref q_15])), (q_15, .inl (gI G, 148, .inl (fl 148 0 (fun _ => 0)))), (q_16, .inr (10, [.ref q_18])), (q_18, .inl (gI G, 148, .inl (fl 148 (-1) (fun _ => 0))))] H := hP
  have hD : va_D A [(h0, .inr (7, [.ref hk, .ref hd, .ref q_1, .ref q_4, .ref q_7, .ref q_10, .ref q_13, .ref q_16, .null, .null, .null, .int 0, .int 0, .int 0])), (q_1, .inr (10, [.ref q_3])), (q_3, .inl (gI G, 148, .inl (fl 148 0 (fun _ => 0)))), (q_4, .inr (10, [.ref q_6])), (q_6, .inl (gI G, 148, .inl (fl 148 (-1) (fun _ => 0)))), (q_7, .inr (10, [.ref q_9])), (q_9, .inl (gI G, 4, .inl (fl 4 0 (fun _ => 0)))), (q_10, .inr (10, [.ref q_12])), (q_12, .inl (gI G, 96, .inl (fl 96 0 (fun _ => 0)))), (q_13, .inr (10, [.ref q_15])), (q_15, .inl (gI G, 148, .inl (fl 148 0 (fun _ => 0)))), (q_16, .inr (10, [.ref q_18])), (q_18, .inl (gI G, 148, .inl (fl 148 (-1) (fun _ => 0))))] := hD
  refine lv_aload_n hx hb dX6_init_101 rfl (lv_at hl 0 rfl) ?_
  refine va_new (D := gD G) (ci := 10) (fs := [.null]) (C := RX9) (T := TX9) (N := 1) hx hb hts (fun _ h9 => (List.mem_cons_of_mem _ (List.mem_append_right _ (List.mem_append_right _ (List.mem_append_left _ h9))))) tyX9 tyX9_ok hown (hts (.classLink RX6 19 RX9) (List.mem_cons_of_mem _ (List.mem_append_left _ (List.mem_of_getElem? (i := 5) rfl)))) (hts (.instantiable RX9 1) (List.mem_cons_of_mem _ (List.mem_append_left _ (List.mem_of_getElem? (i := 6) rfl)))) (hts (.initialized RX9) (List.mem_cons_of_mem _ (List.mem_append_left _ (List.mem_of_getElem? (i := 7) rfl)))) hK hP hD hS hA rfl dvX9 (Nat.le_of_ble_eq_true rfl) (Nat.le_of_ble_eq_true rfl) dX6_init_102 (fun q_19 H hP hD hS => ?_)
  have hP : va_P (gD G) vwCl [(h0, .inr (7, [.ref hk, .ref hd, .ref q_1, .ref q_4, .ref q_7, .ref q_10, .ref q_13, .ref q_16, .null, .null, .null, .int 0, .int 0, .int 0])), (q_1, .inr (10, [.ref q_3])), (q_3, .inl (gI G, 148, .inl (fl 148 0 (fun _ => 0)))), (q_4, .inr (10, [.ref q_6])), (q_6, .inl (gI G, 148, .inl (fl 148 (-1) (fun _ => 0)))), (q_7, .inr (10, [.ref q_9])), (q_9, .inl (gI G, 4, .inl (fl 4 0 (fun _ => 0)))), (q_10, .inr (10, [.ref q_12])), (q_12, .inl (gI G, 96, .inl (fl 96 0 (fun _ => 0)))), (q_13, .inr (10, [.ref q_15])), (q_15, .inl (gI G, 148, .inl (fl 148 0 (fun _ => 0)))), (q_16, .inr (10, [.ref q_18])), (q_18, .inl (gI G, 148, .inl (fl 148 (-1) (fun _ => 0)))), (q_19, .inr (10, [.null]))] H := hP
  have hD : va_D A [(h0, .inr (7, [.ref hk, .ref hd, .ref q_1, .ref q_4, .ref q_7, .ref q_10, .ref q_13, .ref q_16, .null, .null, .null, .int 0, .int 0, .int 0])), (q_1, .inr (10, [.ref q_3])), (q_3, .inl (gI G, 148, .inl (fl 148 0 (fun _ => 0)))), (q_4, .inr (10, [.ref q_6])), (q_6, .inl (gI G, 148, .inl (fl 148 (-1) (fun _ => 0)))), (q_7, .inr (10, [.ref q_9])), (q_9, .inl (gI G, 4, .inl (fl 4 0 (fun _ => 0)))), (q_10, .inr (10, [.ref q_12])), (q_12, .inl (gI G, 96, .inl (fl 96 0 (fun _ => 0)))), (q_13, .inr (10, [.ref q_15])), (q_15, .inl (gI G, 148, .inl (fl 148 0 (fun _ => 0)))), (q_16, .inr (10, [.ref q_18])), (q_18, .inl (gI G, 148, .inl (fl 148 (-1) (fun _ => 0)))), (q_19, .inr (10, [.null]))] := hD
  refine lv_dup hx hb dX6_init_105 rfl ?_
  refine lv_sipush (v := 148) hx hb dX6_init_106 (by decide) ?_
  refine lv_iconst (v := (-1)) hx hb dX6_init_109 (by decide) ?_
  have hPc := hP.sub (ws' := [(q_19, .inr (10, [.null]))]) [13] rfl
  have hDc := hD.sub (ws' := [(q_19, .inr (10, [.null]))]) [13] (by decide) rfl
  have hFc := va_free (wc := [(q_19, .inr (10, [.null]))]) hD hS hA [13] rfl
  refine va_callv (va_runI (As := [.int 148, .int (-1)]) (rest := [.ref q_19, .ref h0]) ⟨hx, hb, hml, hown, hts⟩ (c_Row_init l G q_19 148 (-1) H.size (by decide)) (cwI 2 hts (fun w9 h9 => ⟨(List.mem_cons_of_mem _ (List.mem_append_right _ (List.mem_append_right _ (List.mem_append_right _ (List.mem_append_left _ h9))))), gd_c_Row_init w9 h9⟩) rfl rfl rfl (hts (.initialized RX9) (List.mem_cons_of_mem _ (List.mem_append_left _ (List.mem_of_getElem? (i := 7) rfl)))) (hts (.methodLink RX6 23 yX9_init) (List.mem_cons_of_mem _ (List.mem_append_left _ (List.mem_of_getElem? (i := 8) rfl)))) (hts (.instanceMethod yX9_init) (List.mem_cons_of_mem _ (List.mem_append_left _ (List.mem_of_getElem? (i := 9) rfl)))) rfl kSX9_init ⟨Nat.le_of_ble_eq_true rfl, Nat.le_of_ble_eq_true rfl⟩) (preS_m (As := [.ref q_19, .int 148, .int (-1)]) hPc hB hDc) rfl rfl hl.1 rfl (lv_room (Nat.le_of_ble_eq_true rfl)) dX6_init_110 ⟨Nat.le_of_ble_eq_true rfl, Nat.le_of_ble_eq_true rfl⟩) hS (fun q _ h => hFc q h) hFc (fun u t H1 locs ht hvm hw hB1 hz1 hk1 hS => ?_)
  obtain ⟨q_21, hP1, hD1⟩ := hB1
  rw [ht] at hP1
  obtain ⟨hP, hD⟩ := va_join (wr := [(h0, .inr (7, [.ref hk, .ref hd, .ref q_1, .ref q_4, .ref q_7, .ref q_10, .ref q_13, .ref q_16, .null, .null, .null, .int 0, .int 0, .int 0])), (q_1, .inr (10, [.ref q_3])), (q_3, .inl (gI G, 148, .inl (fl 148 0 (fun _ => 0)))), (q_4, .inr (10, [.ref q_6])), (q_6, .inl (gI G, 148, .inl (fl 148 (-1) (fun _ => 0)))), (q_7, .inr (10, [.ref q_9])), (q_9, .inl (gI G, 4, .inl (fl 4 0 (fun _ => 0)))), (q_10, .inr (10, [.ref q_12])), (q_12, .inl (gI G, 96, .inl (fl 96 0 (fun _ => 0)))), (q_13, .inr (10, [.ref q_15])), (q_15, .inl (gI G, 148, .inl (fl 148 0 (fun _ => 0)))), (q_16, .inr (10, [.ref q_18])), (q_18, .inl (gI G, 148, .inl (fl 148 (-1) (fun _ => 0))))]) (w1 := [(q_19, .inr (10, [.ref q_21])), (q_21, .inl (gI G, 148, .inl (fl 148 (-1) (fun _ => 0))))]) hP hD [13] [0, 1, 2, 3, 4, 5, 6, 7, 8, 9, 10, 11, 12] rfl rfl (by decide) (by decide) hk1 hFc hP1 hD1
  generalize H1 = H at hP hS ⊢
  have hP : va_P (gD G) vwCl [(h0, .inr (7, [.ref hk, .ref hd, .ref q_1, .ref q_4, .ref q_7, .ref q_10, .ref q_13, .ref q_16, .null, .null, .null, .int 0, .int 0, .int 0])), (q_1, .inr (10, [.ref q_3])), (q_3, .inl (gI G, 148, .inl (fl 148 0 (fun _ => 0)))), (q_4, .inr (10, [.ref q_6])), (q_6, .inl (gI G, 148, .inl (fl 148 (-1) (fun _ => 0)))), (q_7, .inr (10, [.ref q_9])), (q_9, .inl (gI G, 4, .inl (fl 4 0 (fun _ => 0)))), (q_10, .inr (10, [.ref q_12])), (q_12, .inl (gI G, 96, .inl (fl 96 0 (fun _ => 0)))), (q_13, .inr (10, [.ref q_15])), (q_15, .inl (gI G, 148, .inl (fl 148 0 (fun _ => 0)))), (q_16, .inr (10, [.ref q_18])), (q_18, .inl (gI G, 148, .inl (fl 148 (-1) (fun _ => 0)))), (q_19, .inr (10, [.ref q_21])), (q_21, .inl (gI G, 148, .inl (fl 148 (-1) (fun _ => 0))))] H := hP
  have hD : va_D A [(h0, .inr (7, [.ref hk, .ref hd, .ref q_1, .ref q_4, .ref q_7, .ref q_10, .ref q_13, .ref q_16, .null, .null, .null, .int 0, .int 0, .int 0])), (q_1, .inr (10, [.ref q_3])), (q_3, .inl (gI G, 148, .inl (fl 148 0 (fun _ => 0)))), (q_4, .inr (10, [.ref q_6])), (q_6, .inl (gI G, 148, .inl (fl 148 (-1) (fun _ => 0)))), (q_7, .inr (10, [.ref q_9])), (q_9, .inl (gI G, 4, .inl (fl 4 0 (fun _ => 0)))), (q_10, .inr (10, [.ref q_12])), (q_12, .inl (gI G, 96, .inl (fl 96 0 (fun _ => 0)))), (q_13, .inr (10, [.ref q_15])), (q_15, .inl (gI G, 148, .inl (fl 148 0 (fun _ => 0)))), (q_16, .inr (10, [.ref q_18])), (q_18, .inl (gI G, 148, .inl (fl 148 (-1) (fun _ => 0)))), (q_19, .inr (10, [.ref q_21])), (q_21, .inl (gI G, 148, .inl (fl 148 (-1) (fun _ => 0))))] := hD
  refine W.eq (g2 := F0 m 113 ls [.ref q_19, .ref h0]) rfl ?_
  refine va_put (D := gD G) (ci := 7) (v := .ref q_19) (ty := tyX6 8) (C := RX6) (T := TX6) (N := 14) hx hb hts (fun _ h9 => (List.mem_cons_of_mem _ (List.mem_append_right _ (List.mem_append_left _ h9)))) tyX6 tyX6_ok nmX6 hown hK hP hD hS 0 rfl rfl 8 (by decide) (hts (.fieldLink RX6 45 "JudoHall$Planner" "begins" "LJudoHall$Row;") (List.mem_cons_of_mem _ (List.mem_append_left _ (List.mem_of_getElem? (i := 16) rfl)))) (fun _ h9 => h9) rfl (tyX6_ok 8 (by decide)) rfl rfl (Nat.le_of_ble_eq_true rfl) dX6_init_113 (fun H locs hP hD hS => ?_)
  have hP : va_P (gD G) vwCl [(h0, .inr (7, [.ref hk, .ref hd, .ref q_1, .ref q_4, .ref q_7, .ref q_10, .ref q_13, .ref q_16, .ref q_19, .null, .null, .int 0, .int 0, .int 0])), (q_1, .inr (10, [.ref q_3])), (q_3, .inl (gI G, 148, .inl (fl 148 0 (fun _ => 0)))), (q_4, .inr (10, [.ref q_6])), (q_6, .inl (gI G, 148, .inl (fl 148 (-1) (fun _ => 0)))), (q_7, .inr (10, [.ref q_9])), (q_9, .inl (gI G, 4, .inl (fl 4 0 (fun _ => 0)))), (q_10, .inr (10, [.ref q_12])), (q_12, .inl (gI G, 96, .inl (fl 96 0 (fun _ => 0)))), (q_13, .inr (10, [.ref q_15])), (q_15, .inl (gI G, 148, .inl (fl 148 0 (fun _ => 0)))), (q_16, .inr (10, [.ref q_18])), (q_18, .inl (gI G, 148, .inl (fl 148 (-1) (fun _ => 0)))), (q_19, .inr (10, [.ref q_21])), (q_21, .inl (gI G, 148, .inl (fl 148 (-1) (fun _ => 0))))] H := hP
  have hD : va_D A [(h0, .inr (7, [.ref hk, .ref hd, .ref q_1, .ref q_4, .ref q_7, .ref q_10, .ref q_13, .ref q_16, .ref q_19, .null, .null, .int 0, .int 0, .int 0])), (q_1, .inr (10, [.ref q_3])), (q_3, .inl (gI G, 148, .inl (fl 148 0 (fun _ => 0)))), (q_4, .inr (10, [.ref q_6])), (q_6, .inl (gI G, 148, .inl (fl 148 (-1) (fun _ => 0)))), (q_7, .inr (10, [.ref q_9])), (q_9, .inl (gI G, 4, .inl (fl 4 0 (fun _ => 0)))), (q_10, .inr (10, [.ref q_12])), (q_12, .inl (gI G, 96, .inl (fl 96 0 (fun _ => 0)))), (q_13, .inr (10, [.ref q_15])), (q_15, .inl (gI G, 148, .inl (fl 148 0 (fun _ => 0)))), (q_16, .inr (10, [.ref q_18])), (q_18, .inl (gI G, 148, .inl (fl 148 (-1) (fun _ => 0)))), (q_19, .inr (10, [.ref q_21])), (q_21, .inl (gI G, 148, .inl (fl 148 (-1) (fun _ => 0))))] := hD
  refine lv_aload_n hx hb dX6_init_116 rfl (lv_at hl 0 rfl) ?_
  refine va_new (D := gD G) (ci := 10) (fs := [.null]) (C := RX9) (T := TX9) (N := 1) hx hb hts (fun _ h9 => (List.mem_cons_of_mem _ (List.mem_append_right _ (List.mem_append_right _ (List.mem_append_left _ h9))))) tyX9 tyX9_ok hown (hts (.classLink RX6 19 RX9) (List.mem_cons_of_mem _ (List.mem_append_left _ (List.mem_of_getElem? (i := 5) rfl)))) (hts (.instantiable RX9 1) (List.mem_cons_of_mem _ (List.mem_append_left _ (List.mem_of_getElem? (i := 6) rfl)))) (hts (.initialized RX9) (List.mem_cons_of_mem _ (List.mem_append_left _ (List.mem_of_getElem? (i := 7) rfl)))) hK hP hD hS hA rfl dvX9 (Nat.le_of_ble_eq_true rfl) (Nat.le_of_ble_eq_true rfl) dX6_init_117 (fun q_22 H hP hD hS => ?_)
  have hP : va_P (gD G) vwCl [(h0, .inr (7, [.ref hk, .ref hd, .ref q_1, .ref q_4, .ref q_7, .ref q_10, .ref q_13, .ref q_16, .ref q_19, .null, .null, .int 0, .int 0, .int 0])), (q_1, .inr (10, [.ref q_3])), (q_3, .inl (gI G, 148, .inl (fl 148 0 (fun _ => 0)))), (q_4, .inr (10, [.ref q_6])), (q_6, .inl (gI G, 148, .inl (fl 148 (-1) (fun _ => 0)))), (q_7, .inr (10, [.ref q_9])), (q_9, .inl (gI G, 4, .inl (fl 4 0 (fun _ => 0)))), (q_10, .inr (10, [.ref q_12])), (q_12, .inl (gI G, 96, .inl (fl 96 0 (fun _ => 0)))), (q_13, .inr (10, [.ref q_15])), (q_15, .inl (gI G, 148, .inl (fl 148 0 (fun _ => 0)))), (q_16, .inr (10, [.ref q_18])), (q_18, .inl (gI G, 148, .inl (fl 148 (-1) (fun _ => 0)))), (q_19, .inr (10, [.ref q_21])), (q_21, .inl (gI G, 148, .inl (fl 148 (-1) (fun _ => 0)))), (q_22, .inr (10, [.null]))] H := hP
  have hD : va_D A [(h0, .inr (7, [.ref hk, .ref hd, .ref q_1, .ref q_4, .ref q_7, .ref q_10, .ref q_13, .ref q_16, .ref q_19, .null, .null, .int 0, .int 0, .int 0])), (q_1, .inr (10, [.ref q_3])), (q_3, .inl (gI G, 148, .inl (fl 148 0 (fun _ => 0)))), (q_4, .inr (10, [.ref q_6])), (q_6, .inl (gI G, 148, .inl (fl 148 (-1) (fun _ => 0)))), (q_7, .inr (10, [.ref q_9])), (q_9, .inl (gI G, 4, .inl (fl 4 0 (fun _ => 0)))), (q_10, .inr (10, [.ref q_12])), (q_12, .inl (gI G, 96, .inl (fl 96 0 (fun _ => 0)))), (q_13, .inr (10, [.ref q_15])), (q_15, .inl (gI G, 148, .inl (fl 148 0 (fun _ => 0)))), (q_16, .inr (10, [.ref q_18])), (q_18, .inl (gI G, 148, .inl (fl 148 (-1) (fun _ => 0)))), (q_19, .inr (10, [.ref q_21])), (q_21, .inl (gI G, 148, .inl (fl 148 (-1) (fun _ => 0)))), (q_22, .inr (10, [.null]))] := hD
  refine lv_dup hx hb dX6_init_120 rfl ?_
  refine lv_sipush (v := 148) hx hb dX6_init_121 (by decide) ?_
  refine lv_iconst (v := (-1)) hx hb dX6_init_124 (by decide) ?_
  have hPc := hP.sub (ws' := [(q_22, .inr (10, [.null]))]) [15] rfl
  have hDc := hD.sub (ws' := [(q_22, .inr (10, [.null]))]) [15] (by decide) rfl
  have hFc := va_free (wc := [(q_22, .inr (10, [.null]))]) hD hS hA [15] rfl
  refine va_callv (va_runI (As := [.int 148, .int (-1)]) (rest := [.ref q_22, .ref h0]) ⟨hx, hb, hml, hown, hts⟩ (c_Row_init l G q_22 148 (-1) H.size (by decide)) (cwI 2 hts (fun w9 h9 => ⟨(List.mem_cons_of_mem _ (List.mem_append_right _ (List.mem_append_right _ (List.mem_append_right _ (List.mem_append_left _ h9))))), gd_c_Row_init w9 h9⟩) rfl rfl rfl (hts (.initialized RX9) (List.mem_cons_of_mem _ (List.mem_append_left _ (List.mem_of_getElem? (i := 7) rfl)))) (hts (.methodLink RX6 23 yX9_init) (List.mem_cons_of_mem _ (List.mem_append_left _ (List.mem_of_getElem? (i := 8) rfl)))) (hts (.instanceMethod yX9_init) (List.mem_cons_of_mem _ (List.mem_append_left _ (List.mem_of_getElem? (i := 9) rfl)))) rfl kSX9_init ⟨Nat.le_of_ble_eq_true rfl, Nat.le_of_ble_eq_true rfl⟩) (preS_m (As := [.ref q_22, .int 148, .int (-1)]) hPc hB hDc) rfl rfl hl.1 rfl (lv_room (Nat.le_of_ble_eq_true rfl)) dX6_init_125 ⟨Nat.le_of_ble_eq_true rfl, Nat.le_of_ble_eq_true rfl⟩) hS (fun q _ h => hFc q h) hFc (fun u t H1 locs ht hvm hw hB1 hz1 hk1 hS => ?_)
  obtain ⟨q_24, hP1, hD1⟩ := hB1
  rw [ht] at hP1
  obtain ⟨hP, hD⟩ := va_join (wr := [(h0, .inr (7, [.ref hk, .ref hd, .ref q_1, .ref q_4, .ref q_7, .ref q_10, .ref q_13, .ref q_16, .ref q_19, .null, .null, .int 0, .int 0, .int 0])), (q_1, .inr (10, [.ref q_3])), (q_3, .inl (gI G, 148, .inl (fl 148 0 (fun _ => 0)))), (q_4, .inr (10, [.ref q_6])), (q_6, .inl (gI G, 148, .inl (fl 148 (-1) (fun _ => 0)))), (q_7, .inr (10, [.ref q_9])), (q_9, .inl (gI G, 4, .inl (fl 4 0 (fun _ => 0)))), (q_10, .inr (10, [.ref q_12])), (q_12, .inl (gI G, 96, .inl (fl 96 0 (fun _ => 0)))), (q_13, .inr (10, [.ref q_15])), (q_15, .inl (gI G, 148, .inl (fl 148 0 (fun _ => 0)))), (q_16, .inr (10, [.ref q_18])), (q_18, .inl (gI G, 148, .inl (fl 148 (-1) (fun _ => 0)))), (q_19, .inr (10, [.ref q_21])), (q_21, .inl (gI G, 148, .inl (fl 148 (-1) (fun _ => 0))))]) (w1 := [(q_22, .inr (10, [.ref q_24])), (q_24, .inl (gI G, 148, .inl (fl 148 (-1) (fun _ => 0))))]) hP hD [15] [0, 1, 2, 3, 4, 5, 6, 7, 8, 9, 10, 11, 12, 13, 14] rfl rfl (by decide) (by decide) hk1 hFc hP1 hD1
  generalize H1 = H at hP hS ⊢
  have hP : va_P (gD G) vwCl [(h0, .inr (7, [.ref hk, .ref hd, .ref q_1, .ref q_4, .ref q_7, .ref q_10, .ref q_13, .ref q_16, .ref q_19, .null, .null, .int 0, .int 0, .int 0])), (q_1, .inr (10, [.ref q_3])), (q_3, .inl (gI G, 148, .inl (fl 148 0 (fun _ => 0)))), (q_4, .inr (10, [.ref q_6])), (q_6, .inl (gI G, 148, .inl (fl 148 (-1) (fun _ => 0)))), (q_7, .inr (10, [.ref q_9])), (q_9, .inl (gI G, 4, .inl (fl 4 0 (fun _ => 0)))), (q_10, .inr (10, [.ref q_12])), (q_12, .inl (gI G, 96, .inl (fl 96 0 (fun _ => 0)))), (q_13, .inr (10, [.ref q_15])), (q_15, .inl (gI G, 148, .inl (fl 148 0 (fun _ => 0)))), (q_16, .inr (10, [.ref q_18])), (q_18, .inl (gI G, 148, .inl (fl 148 (-1) (fun _ => 0)))), (q_19, .inr (10, [.ref q_21])), (q_21, .inl (gI G, 148, .inl (fl 148 (-1) (fun _ => 0)))), (q_22, .inr (10, [.ref q_24])), (q_24, .inl (gI G, 148, .inl (fl 148 (-1) (fun _ => 0))))] H := hP
  have hD : va_D A [(h0, .inr (7, [.ref hk, .ref hd, .ref q_1, .ref q_4, .ref q_7, .ref q_10, .ref q_13, .ref q_16, .ref q_19, .null, .null, .int 0, .int 0, .int 0])), (q_1, .inr (10, [.ref q_3])), (q_3, .inl (gI G, 148, .inl (fl 148 0 (fun _ => 0)))), (q_4, .inr (10, [.ref q_6])), (q_6, .inl (gI G, 148, .inl (fl 148 (-1) (fun _ => 0)))), (q_7, .inr (10, [.ref q_9])), (q_9, .inl (gI G, 4, .inl (fl 4 0 (fun _ => 0)))), (q_10, .inr (10, [.ref q_12])), (q_12, .inl (gI G, 96, .inl (fl 96 0 (fun _ => 0)))), (q_13, .inr (10, [.ref q_15])), (q_15, .inl (gI G, 148, .inl (fl 148 0 (fun _ => 0)))), (q_16, .inr (10, [.ref q_18])), (q_18, .inl (gI G, 148, .inl (fl 148 (-1) (fun _ => 0)))), (q_19, .inr (10, [.ref q_21])), (q_21, .inl (gI G, 148, .inl (fl 148 (-1) (fun _ => 0)))), (q_22, .inr (10, [.ref q_24])), (q_24, .inl (gI G, 148, .inl (fl 148 (-1) (fun _ => 0))))] := hD
  refine W.eq (g2 := F0 m 128 ls [.ref q_22, .ref h0]) rfl ?_
  refine va_put (D := gD G) (ci := 7) (v := .ref q_22) (ty := tyX6 9) (C := RX6) (T := TX6) (N := 14) hx hb hts (fun _ h9 => (List.mem_cons_of_mem _ (List.mem_append_right _ (List.mem_append_left _ h9)))) tyX6 tyX6_ok nmX6 hown hK hP hD hS 0 rfl rfl 9 (by decide) (hts (.fieldLink RX6 48 "JudoHall$Planner" "newMats" "LJudoHall$Row;") (List.mem_cons_of_mem _ (List.mem_append_left _ (List.mem_of_getElem? (i := 17) rfl)))) (fun _ h9 => h9) rfl (tyX6_ok 9 (by decide)) rfl rfl (Nat.le_of_ble_eq_true rfl) dX6_init_128 (fun H locs hP hD hS => ?_)
  have hP : va_P (gD G) vwCl [(h0, .inr (7, [.ref hk, .ref hd, .ref q_1, .ref q_4, .ref q_7, .ref q_10, .ref q_13, .ref q_16, .ref q_19, .ref q_22, .null, .int 0, .int 0, .int 0])), (q_1, .inr (10, [.ref q_3])), (q_3, .inl (gI G, 148, .inl (fl 148 0 (fun _ => 0)))), (q_4, .inr (10, [.ref q_6])), (q_6, .inl (gI G, 148, .inl (fl 148 (-1) (fun _ => 0)))), (q_7, .inr (10, [.ref q_9])), (q_9, .inl (gI G, 4, .inl (fl 4 0 (fun _ => 0)))), (q_10, .inr (10, [.ref q_12])), (q_12, .inl (gI G, 96, .inl (fl 96 0 (fun _ => 0)))), (q_13, .inr (10, [.ref q_15])), (q_15, .inl (gI G, 148, .inl (fl 148 0 (fun _ => 0)))), (q_16, .inr (10, [.ref q_18])), (q_18, .inl (gI G, 148, .inl (fl 148 (-1) (fun _ => 0)))), (q_19, .inr (10, [.ref q_21])), (q_21, .inl (gI G, 148, .inl (fl 148 (-1) (fun _ => 0)))), (q_22, .inr (10, [.ref q_24])), (q_24, .inl (gI G, 148, .inl (fl 148 (-1) (fun _ => 0))))] H := hP
  have hD : va_D A [(h0, .inr (7, [.ref hk, .ref hd, .ref q_1, .ref q_4, .ref q_7, .ref q_10, .ref q_13, .ref q_16, .ref q_19, .ref q_22, .null, .int 0, .int 0, .int 0])), (q_1, .inr (10, [.ref q_3])), (q_3, .inl (gI G, 148, .inl (fl 148 0 (fun _ => 0)))), (q_4, .inr (10, [.ref q_6])), (q_6, .inl (gI G, 148, .inl (fl 148 (-1) (fun _ => 0)))), (q_7, .inr (10, [.ref q_9])), (q_9, .inl (gI G, 4, .inl (fl 4 0 (fun _ => 0)))), (q_10, .inr (10, [.ref q_12])), (q_12, .inl (gI G, 96, .inl (fl 96 0 (fun _ => 0)))), (q_13, .inr (10, [.ref q_15])), (q_15, .inl (gI G, 148, .inl (fl 148 0 (fun _ => 0)))), (q_16, .inr (10, [.ref q_18])), (q_18, .inl (gI G, 148, .inl (fl 148 (-1) (fun _ => 0)))), (q_19, .inr (10, [.ref q_21])), (q_21, .inl (gI G, 148, .inl (fl 148 (-1) (fun _ => 0)))), (q_22, .inr (10, [.ref q_24])), (q_24, .inl (gI G, 148, .inl (fl 148 (-1) (fun _ => 0))))] := hD
  refine lv_aload_n hx hb dX6_init_131 rfl (lv_at hl 0 rfl) ?_
  refine va_new (D := gD G) (ci := 10) (fs := [.null]) (C := RX9) (T := TX9) (N := 1) hx hb hts (fun _ h9 => (List.mem_cons_of_mem _ (List.mem_append_right _ (List.mem_append_right _ (List.mem_append_left _ h9))))) tyX9 tyX9_ok hown (hts (.classLink RX6 19 RX9) (List.mem_cons_of_mem _ (List.mem_append_left _ (List.mem_of_getElem? (i := 5) rfl)))) (hts (.instantiable RX9 1) (List.mem_cons_of_mem _ (List.mem_append_left _ (List.mem_of_getElem? (i := 6) rfl)))) (hts (.initialized RX9) (List.mem_cons_of_mem _ (List.mem_append_left _ (List.mem_of_getElem? (i := 7) rfl)))) hK hP hD hS hA rfl dvX9 (Nat.le_of_ble_eq_true rfl) (Nat.le_of_ble_eq_true rfl) dX6_init_132 (fun q_25 H hP hD hS => ?_)
  have hP : va_P (gD G) vwCl [(h0, .inr (7, [.ref hk, .ref hd, .ref q_1, .ref q_4, .ref q_7, .ref q_10, .ref q_13, .ref q_16, .ref q_19, .ref q_22, .null, .int 0, .int 0, .int 0])), (q_1, .inr (10, [.ref q_3])), (q_3, .inl (gI G, 148, .inl (fl 148 0 (fun _ => 0)))), (q_4, .inr (10, [.ref q_6])), (q_6, .inl (gI G, 148, .inl (fl 148 (-1) (fun _ => 0)))), (q_7, .inr (10, [.ref q_9])), (q_9, .inl (gI G, 4, .inl (fl 4 0 (fun _ => 0)))), (q_10, .inr (10, [.ref q_12])), (q_12, .inl (gI G, 96, .inl (fl 96 0 (fun _ => 0)))), (q_13, .inr (10, [.ref q_15])), (q_15, .inl (gI G, 148, .inl (fl 148 0 (fun _ => 0)))), (q_16, .inr (10, [.ref q_18])), (q_18, .inl (gI G, 148, .inl (fl 148 (-1) (fun _ => 0)))), (q_19, .inr (10, [.ref q_21])), (q_21, .inl (gI G, 148, .inl (fl 148 (-1) (fun _ => 0)))), (q_22, .inr (10, [.ref q_24])), (q_24, .inl (gI G, 148, .inl (fl 148 (-1) (fun _ => 0)))), (q_25, .inr (10, [.null]))] H := hP
  have hD : va_D A [(h0, .inr (7, [.ref hk, .ref hd, .ref q_1, .ref q_4, .ref q_7, .ref q_10, .ref q_13, .ref q_16, .ref q_19, .ref q_22, .null, .int 0, .int 0, .int 0])), (q_1, .inr (10, [.ref q_3])), (q_3, .inl (gI G, 148, .inl (fl 148 0 (fun _ => 0)))), (q_4, .inr (10, [.ref q_6])), (q_6, .inl (gI G, 148, .inl (fl 148 (-1) (fun _ => 0)))), (q_7, .inr (10, [.ref q_9])), (q_9, .inl (gI G, 4, .inl (fl 4 0 (fun _ => 0)))), (q_10, .inr (10, [.ref q_12])), (q_12, .inl (gI G, 96, .inl (fl 96 0 (fun _ => 0)))), (q_13, .inr (10, [.ref q_15])), (q_15, .inl (gI G, 148, .inl (fl 148 0 (fun _ => 0)))), (q_16, .inr (10, [.ref q_18])), (q_18, .inl (gI G, 148, .inl (fl 148 (-1) (fun _ => 0)))), (q_19, .inr (10, [.ref q_21])), (q_21, .inl (gI G, 148, .inl (fl 148 (-1) (fun _ => 0)))), (q_22, .inr (10, [.ref q_24])), (q_24, .inl (gI G, 148, .inl (fl 148 (-1) (fun _ => 0)))), (q_25, .inr (10, [.null]))] := hD
  refine lv_dup hx hb dX6_init_135 rfl ?_
  refine lv_sipush (v := 148) hx hb dX6_init_136 (by decide) ?_
  refine lv_iconst (v := (-1)) hx hb dX6_init_139 (by decide) ?_
  have hPc := hP.sub (ws' := [(q_25, .inr (10, [.null]))]) [17] rfl
  have hDc := hD.sub (ws' := [(q_25, .inr (10, [.null]))]) [17] (by decide) rfl
  have hFc := va_free (wc := [(q_25, .inr (10, [.null]))]) hD hS hA [17] rfl
  refine va_callv (va_runI (As := [.int 148, .int (-1)]) (rest := [.ref q_25, .ref h0]) ⟨hx, hb, hml, hown, hts⟩ (c_Row_init l G q_25 148 (-1) H.size (by decide)) (cwI 2 hts (fun w9 h9 => ⟨(List.mem_cons_of_mem _ (List.mem_append_right _ (List.mem_append_right _ (List.mem_append_right _ (List.mem_append_left _ h9))))), gd_c_Row_init w9 h9⟩) rfl rfl rfl (hts (.initialized RX9) (List.mem_cons_of_mem _ (List.mem_append_left _ (List.mem_of_getElem? (i := 7) rfl)))) (hts (.methodLink RX6 23 yX9_init) (List.mem_cons_of_mem _ (List.mem_append_left _ (List.mem_of_getElem? (i := 8) rfl)))) (hts (.instanceMethod yX9_init) (List.mem_cons_of_mem _ (List.mem_append_left _ (List.mem_of_getElem? (i := 9) rfl)))) rfl kSX9_init ⟨Nat.le_of_ble_eq_true rfl, Nat.le_of_ble_eq_true rfl⟩) (preS_m (As := [.ref q_25, .int 148, .int (-1)]) hPc hB hDc) rfl rfl hl.1 rfl (lv_room (Nat.le_of_ble_eq_true rfl)) dX6_init_140 ⟨Nat.le_of_ble_eq_true rfl, Nat.le_of_ble_eq_true rfl⟩) hS (fun q _ h => hFc q h) hFc (fun u t H1 locs ht hvm hw hB1 hz1 hk1 hS => ?_)
  obtain ⟨q_27, hP1, hD1⟩ := hB1
  rw [ht] at hP1
  obtain ⟨hP, hD⟩ := va_join (wr := [(h0, .inr (7, [.ref hk, .ref hd, .ref q_1, .ref q_4, .ref q_7, .ref q_10, .ref q_13, .ref q_16, .ref q_19, .ref q_22, .null, .int 0, .int 0, .int 0])), (q_1, .inr (10, [.ref q_3])), (q_3, .inl (gI G, 148, .inl (fl 148 0 (fun _ => 0)))), (q_4, .inr (10, [.ref q_6])), (q_6, .inl (gI G, 148, .inl (fl 148 (-1) (fun _ => 0)))), (q_7, .inr (10, [.ref q_9])), (q_9, .inl (gI G, 4, .inl (fl 4 0 (fun _ => 0)))), (q_10, .inr (10, [.ref q_12])), (q_12, .inl (gI G, 96, .inl (fl 96 0 (fun _ => 0)))), (q_13, .inr (10, [.ref q_15])), (q_15, .inl (gI G, 148, .inl (fl 148 0 (fun _ => 0)))), (q_16, .inr (10, [.ref q_18])), (q_18, .inl (gI G, 148, .inl (fl 148 (-1) (fun _ => 0)))), (q_19, .inr (10, [.ref q_21])), (q_21, .inl (gI G, 148, .inl (fl 148 (-1) (fun _ => 0)))), (q_22, .inr (10, [.ref q_24])), (q_24, .inl (gI G, 148, .inl (fl 148 (-1) (fun _ => 0))))]) (w1 := [(q_25, .inr (10, [.ref q_27])), (q_27, .inl (gI G, 148, .inl (fl 148 (-1) (fun _ => 0))))]) hP hD [17] [0, 1, 2, 3, 4, 5, 6, 7, 8, 9, 10, 11, 12, 13, 14, 15, 16] rfl rfl (by decide) (by decide) hk1 hFc hP1 hD1
  generalize H1 = H at hP hS ⊢
  have hP : va_P (gD G) vwCl [(h0, .inr (7, [.ref hk, .ref hd, .ref q_1, .ref q_4, .ref q_7, .ref q_10, .ref q_13, .ref q_16, .ref q_19, .ref q_22, .null, .int 0, .int 0, .int 0])), (q_1, .inr (10, [.ref q_3])), (q_3, .inl (gI G, 148, .inl (fl 148 0 (fun _ => 0)))), (q_4, .inr (10, [.ref q_6])), (q_6, .inl (gI G, 148, .inl (fl 148 (-1) (fun _ => 0)))), (q_7, .inr (10, [.ref q_9])), (q_9, .inl (gI G, 4, .inl (fl 4 0 (fun _ => 0)))), (q_10, .inr (10, [.ref q_12])), (q_12, .inl (gI G, 96, .inl (fl 96 0 (fun _ => 0)))), (q_13, .inr (10, [.ref q_15])), (q_15, .inl (gI G, 148, .inl (fl 148 0 (fun _ => 0)))), (q_16, .inr (10, [.ref q_18])), (q_18, .inl (gI G, 148, .inl (fl 148 (-1) (fun _ => 0)))), (q_19, .inr (10, [.ref q_21])), (q_21, .inl (gI G, 148, .inl (fl 148 (-1) (fun _ => 0)))), (q_22, .inr (10, [.ref q_24])), (q_24, .inl (gI G, 148, .inl (fl 148 (-1) (fun _ => 0)))), (q_25, .inr (10, [.ref q_27])), (q_27, .inl (gI G, 148, .inl (fl 148 (-1) (fun _ => 0))))] H := hP
  have hD : va_D A [(h0, .inr (7, [.ref hk, .ref hd, .ref q_1, .ref q_4, .ref q_7, .ref q_10, .ref q_13, .ref q_16, .ref q_19, .ref q_22, .null, .int 0, .int 0, .int 0])), (q_1, .inr (10, [.ref q_3])), (q_3, .inl (gI G, 148, .inl (fl 148 0 (fun _ => 0)))), (q_4, .inr (10, [.ref q_6])), (q_6, .inl (gI G, 148, .inl (fl 148 (-1) (fun _ => 0)))), (q_7, .inr (10, [.ref q_9])), (q_9, .inl (gI G, 4, .inl (fl 4 0 (fun _ => 0)))), (q_10, .inr (10, [.ref q_12])), (q_12, .inl (gI G, 96, .inl (fl 96 0 (fun _ => 0)))), (q_13, .inr (10, [.ref q_15])), (q_15, .inl (gI G, 148, .inl (fl 148 0 (fun _ => 0)))), (q_16, .inr (10, [.ref q_18])), (q_18, .inl (gI G, 148, .inl (fl 148 (-1) (fun _ => 0)))), (q_19, .inr (10, [.ref q_21])), (q_21, .inl (gI G, 148, .inl (fl 148 (-1) (fun _ => 0)))), (q_22, .inr (10, [.ref q_24])), (q_24, .inl (gI G, 148, .inl (fl 148 (-1) (fun _ => 0)))), (q_25, .inr (10, [.ref q_27])), (q_27, .inl (gI G, 148, .inl (fl 148 (-1) (fun _ => 0))))] := hD
  refine W.eq (g2 := F0 m 143 ls [.ref q_25, .ref h0]) rfl ?_
  refine va_put (D := gD G) (ci := 7) (v := .ref q_25) (ty := tyX6 10) (C := RX6) (T := TX6) (N := 14) hx hb hts (fun _ h9 => (List.mem_cons_of_mem _ (List.mem_append_right _ (List.mem_append_left _ h9)))) tyX6 tyX6_ok nmX6 hown hK hP hD hS 0 rfl rfl 10 (by decide) (hts (.fieldLink RX6 51 "JudoHall$Planner" "newBegins" "LJudoHall$Row;") (List.mem_cons_of_mem _ (List.mem_append_left _ (List.mem_of_getElem? (i := 18) rfl)))) (fun _ h9 => h9) rfl (tyX6_ok 10 (by decide)) rfl rfl (Nat.le_of_ble_eq_true rfl) dX6_init_143 (fun H locs hP hD hS => ?_)
  have hP : va_P (gD G) vwCl [(h0, .inr (7, [.ref hk, .ref hd, .ref q_1, .ref q_4, .ref q_7, .ref q_10, .ref q_13, .ref q_16, .ref q_19, .ref q_22, .ref q_25, .int 0, .int 0, .int 0])), (q_1, .inr (10, [.ref q_3])), (q_3, .inl (gI G, 148, .inl (fl 148 0 (fun _ => 0)))), (q_4, .inr (10, [.ref q_6])), (q_6, .inl (gI G, 148, .inl (fl 148 (-1) (fun _ => 0)))), (q_7, .inr (10, [.ref q_9])), (q_9, .inl (gI G, 4, .inl (fl 4 0 (fun _ => 0)))), (q_10, .inr (10, [.ref q_12])), (q_12, .inl (gI G, 96, .inl (fl 96 0 (fun _ => 0)))), (q_13, .inr (10, [.ref q_15])), (q_15, .inl (gI G, 148, .inl (fl 148 0 (fun _ => 0)))), (q_16, .inr (10, [.ref q_18])), (q_18, .inl (gI G, 148, .inl (fl 148 (-1) (fun _ => 0)))), (q_19, .inr (10, [.ref q_21])), (q_21, .inl (gI G, 148, .inl (fl 148 (-1) (fun _ => 0)))), (q_22, .inr (10, [.ref q_24])), (q_24, .inl (gI G, 148, .inl (fl 148 (-1) (fun _ => 0)))), (q_25, .inr (10, [.ref q_27])), (q_27, .inl (gI G, 148, .inl (fl 148 (-1) (fun _ => 0))))] H := hP
  have hD : va_D A [(h0, .inr (7, [.ref hk, .ref hd, .ref q_1, .ref q_4, .ref q_7, .ref q_10, .ref q_13, .ref q_16, .ref q_19, .ref q_22, .ref q_25, .int 0, .int 0, .int 0])), (q_1, .inr (10, [.ref q_3])), (q_3, .inl (gI G, 148, .inl (fl 148 0 (fun _ => 0)))), (q_4, .inr (10, [.ref q_6])), (q_6, .inl (gI G, 148, .inl (fl 148 (-1) (fun _ => 0)))), (q_7, .inr (10, [.ref q_9])), (q_9, .inl (gI G, 4, .inl (fl 4 0 (fun _ => 0)))), (q_10, .inr (10, [.ref q_12])), (q_12, .inl (gI G, 96, .inl (fl 96 0 (fun _ => 0)))), (q_13, .inr (10, [.ref q_15])), (q_15, .inl (gI G, 148, .inl (fl 148 0 (fun _ => 0)))), (q_16, .inr (10, [.ref q_18])), (q_18, .inl (gI G, 148, .inl (fl 148 (-1) (fun _ => 0)))), (q_19, .inr (10, [.ref q_21])), (q_21, .inl (gI G, 148, .inl (fl 148 (-1) (fun _ => 0)))), (q_22, .inr (10, [.ref q_24])), (q_24, .inl (gI G, 148, .inl (fl 148 (-1) (fun _ => 0)))), (q_25, .inr (10, [.ref q_27])), (q_27, .inl (gI G, 148, .inl (fl 148 (-1) (fun _ => 0))))] := hD
  have hP9 := hP.sub (ws' := [(h0, .inr (7, [.ref hk, .ref hd, .ref q_1, .ref q_4, .ref q_7, .ref q_10, .ref q_13, .ref q_16, .ref q_19, .ref q_22, .ref q_25, .int 0, .int 0, .int 0])), (q_1, .inr (10, [.ref q_3])), (q_3, .inl (gI G, 148, .inl (fl 148 0 (fun _ => 0)))), (q_4, .inr (10, [.ref q_6])), (q_6, .inl (gI G, 148, .inl (fl 148 (-1) (fun _ => 0)))), (q_7, .inr (10, [.ref q_9])), (q_9, .inl (gI G, 4, .inl (fl 4 0 (fun _ => 0)))), (q_10, .inr (10, [.ref q_12])), (q_12, .inl (gI G, 96, .inl (fl 96 0 (fun _ => 0)))), (q_13, .inr (10, [.ref q_15])), (q_15, .inl (gI G, 148, .inl (fl 148 0 (fun _ => 0)))), (q_16, .inr (10, [.ref q_18])), (q_18, .inl (gI G, 148, .inl (fl 148 (-1) (fun _ => 0)))), (q_19, .inr (10, [.ref q_21])), (q_21, .inl (gI G, 148, .inl (fl 148 (-1) (fun _ => 0)))), (q_22, .inr (10, [.ref q_24])), (q_24, .inl (gI G, 148, .inl (fl 148 (-1) (fun _ => 0)))), (q_25, .inr (10, [.ref q_27])), (q_27, .inl (gI G, 148, .inl (fl 148 (-1) (fun _ => 0))))]) [0, 1, 2, 3, 4, 5, 6, 7, 8, 9, 10, 11, 12, 13, 14, 15, 16, 17, 18] rfl
  have hD9 := hD.sub (ws' := [(h0, .inr (7, [.ref hk, .ref hd, .ref q_1, .ref q_4, .ref q_7, .ref q_10, .ref q_13, .ref q_16, .ref q_19, .ref q_22, .ref q_25, .int 0, .int 0, .int 0])), (q_1, .inr (10, [.ref q_3])), (q_3, .inl (gI G, 148, .inl (fl 148 0 (fun _ => 0)))), (q_4, .inr (10, [.ref q_6])), (q_6, .inl (gI G, 148, .inl (fl 148 (-1) (fun _ => 0)))), (q_7, .inr (10, [.ref q_9])), (q_9, .inl (gI G, 4, .inl (fl 4 0 (fun _ => 0)))), (q_10, .inr (10, [.ref q_12])), (q_12, .inl (gI G, 96, .inl (fl 96 0 (fun _ => 0)))), (q_13, .inr (10, [.ref q_15])), (q_15, .inl (gI G, 148, .inl (fl 148 0 (fun _ => 0)))), (q_16, .inr (10, [.ref q_18])), (q_18, .inl (gI G, 148, .inl (fl 148 (-1) (fun _ => 0)))), (q_19, .inr (10, [.ref q_21])), (q_21, .inl (gI G, 148, .inl (fl 148 (-1) (fun _ => 0)))), (q_22, .inr (10, [.ref q_24])), (q_24, .inl (gI G, 148, .inl (fl 148 (-1) (fun _ => 0)))), (q_25, .inr (10, [.ref q_27])), (q_27, .inl (gI G, 148, .inl (fl 148 (-1) (fun _ => 0))))]) [0, 1, 2, 3, 4, 5, 6, 7, 8, 9, 10, 11, 12, 13, 14, 15, 16, 17, 18] (by decide) rfl
  exact W.vret hx hb hr (fun t ht hW => ⟨⟨(), rfl, trivial, q_1, q_3, q_4, q_6, q_7, q_9, q_10, q_12, q_13, q_15, q_16, q_18, q_19, q_21, q_22, q_24, q_25, q_27, by rw [ht]; exact hP9, hD9⟩, hS.F ht⟩) hS.2.2 dX6_init_146
end
