/-! ===== both worlds side by side: the law's steps ===== -/
theorem tt_nLWc (LN : MS → MS) : T [] [] (nLW LN) := fun u => ⟨LN u, u, rfl, Same.rf u⟩
theorem tt_x_X11_signsOn (LN : MS → MS) (a0 a1 : Int32) : T [] [] (x_X11_signsOn LN a0 a1) := by
  unfold x_X11_signsOn
  repeat (first | (with_reducible exact T_rt _) | (with_reducible intro _) | (with_reducible exact tt_nLWc _) | (with_reducible exact (tt_x_X3_signsOf _ _ _).mono (by decide) (by decide)) | (with_reducible refine T_li ?_) | (with_reducible refine T_ite (fun _ => ?_) (fun _ => ?_)) | (with_reducible refine T_cl ?_ (fun _ => ?_)))
theorem tt_x_X11_mat (LN : MS → MS) (a0 a1 : Int32) : T [] [] (x_X11_mat LN a0 a1) := by
  unfold x_X11_mat
  repeat (first | (with_reducible exact T_rt _) | (with_reducible intro _) | (with_reducible exact (tt_x_X11_isMat _).mono (by decide) (by decide)) | (with_reducible exact (tt_x_X3_isFree _).mono (by decide) (by decide)) | (with_reducible exact (tt_x_X1_ofMat _ _).mono (by decide) (by decide)) | (with_reducible exact tt_x_X11_signsOn _ _ _) | (with_reducible exact T_GT) | (with_reducible refine T_li ?_) | (with_reducible refine T_ite (fun _ => ?_) (fun _ => ?_)) | (with_reducible refine T_cl ?_ (fun _ => ?_)))
theorem tt_x_X11_count (LN : MS → MS) (a0 : Int32) : T [] [] (x_X11_count LN a0) := by
  unfold x_X11_count
  repeat (first | (with_reducible exact T_rt _) | (with_reducible intro _) | (with_reducible exact tt_nLWc _) | (with_reducible exact (tt_x_X8_people).mono (by decide) (by decide)) | (with_reducible exact (tt_x_X3_openFights).mono (by decide) (by decide)) | (with_reducible exact T_RF) | (with_reducible exact T_GT) | (with_reducible refine T_li ?_) | (with_reducible refine T_ite (fun _ => ?_) (fun _ => ?_)) | (with_reducible refine T_cl ?_ (fun _ => ?_)))
theorem w_joinF {A0 F : Nat → Prop} {D : va_G} {cl : List vw_C} {wc wr w1 : va_W} {H H1 : Heap} (hP : va_P D cl (wc ++ wr) H) (hD : va_D A0 (wc ++ wr)) (hr : ∀ q ∈ wr, ¬ F q.1) (hk : ∀ q : Nat, q < H.size → ¬ F q → H1[q]? = H[q]?) (hF : ∀ q, F q → A0 q) (hP1 : va_P D cl w1 H1) (hD1 : va_D F w1) : va_P D cl (w1 ++ wr) H1 ∧ va_D A0 (w1 ++ wr) := by
  have hPr : va_P D cl wr H := wP_of hP (fun x hx => List.mem_append_right _ hx)
  refine ⟨hP1.app (hPr.kept (fun k q hq => ?_)), ?_⟩
  · have hm := List.mem_of_getElem? hq
    exact hk q.1 (wP_mem hPr hm).lt (hr q hm)
  · refine (hD1.weaken (fun _ q _ h => hF q.1 h)).app ?_ (fun i j p q hi hj e => ?_)
    · refine wD_of ?_ (fun q hq => ?_)
      · have h3 := wD_nd hD
        rw [List.map_append, List.nodup_append] at h3
        exact h3.2.1
      · obtain ⟨k, hk⟩ := List.mem_iff_getElem?.mp (List.mem_append_right wc hq)
        exact hD.2 k q hk
    · have h1 := hD1.2 i p hi
      rw [e] at h1
      exact (hr q (List.mem_of_getElem? hj)) h1
theorem wr_out {A0 : Nat → Prop} {D : va_G} {cl : List vw_C} {wc wr : va_W} {H : Heap} (hP : va_P D cl (wc ++ wr) H) (hD : va_D A0 (wc ++ wr)) : ∀ q ∈ wr, ¬ va_A wc H.size q.1 := fun q hq z => by
  have hlt := (wP_mem hP (List.mem_append_right _ hq)).lt
  rcases wA_mem z with ⟨e, he⟩ | z
  · exact wD_apart hD he (show (q.1, q.2) ∈ wr from hq)
  · omega
theorem wc_F {A0 : Nat → Prop} {wc wr : va_W} {n : Nat} (hD : va_D A0 (wc ++ wr)) (hA : ∀ q : Nat, n ≤ q → A0 q) : ∀ q, va_A wc n q → A0 q := fun q h => by
  rcases wA_mem h with ⟨e, he⟩ | z
  · obtain ⟨k, hk⟩ := List.mem_iff_getElem?.mp (List.mem_append_left wr he)
    exact hD.2 k _ hk
  · exact hA q z
theorem wD_left {A0 : Nat → Prop} {wc wr : va_W} (hD : va_D A0 (wc ++ wr)) : va_D (fun _ => True) wc := wD_of (by
  have h3 := wD_nd hD
  rw [List.map_append, List.nodup_append] at h3
  exact h3.1) (fun _ _ => trivial)
/-- the numbers of the reference's cells -/
def usedM : List Nat := [72, 0, 1, 5, 6, 7, 8, 9, 10, 11, 12, 13, 14, 15, 16, 17, 18, 19, 20, 21, 22, 23, 24, 25, 26, 32, 33, 34, 35, 36, 37, 38, 40, 52, 54, 56, 57, 58, 59, 60, 61, 62, 63, 64, 65, 66, 67, 68, 70, 71, 39]
theorem mW_fst (G : gG) (Q : Nat → Nat) (u : MS) : (mW G Q u).map (fun q => q.1) = usedM.map Q := rfl
def nQ (Q : Nat → Nat) : Nat → Nat := fun k => if usedM.contains k then Q k else Q 72
theorem mW_nQ (G : gG) (Q : Nat → Nat) (u : MS) : mW G (nQ Q) u = mW G Q u := rfl
def mOK (Q : Nat → Nat) : Prop := ∀ k, ∃ j ∈ usedM, Q k = Q j
theorem nQ_ok (Q : Nat → Nat) : mOK (nQ Q) := fun k => by
  by_cases h : usedM.contains k = true
  · exact ⟨k, List.contains_iff_mem.mp h, rfl⟩
  · refine ⟨72, by decide, ?_⟩
    show (if usedM.contains k = true then Q k else Q 72) = Q 72
    rw [if_neg h]
theorem mA_va {G : gG} {Q : Nat → Nat} {u : MS} {n : Nat} (hQ : mOK Q) : ∀ q, mA Q n q → va_A (mW G Q u) n q := fun q h => by
  rcases h with ⟨k, -, -, rfl⟩ | z
  · obtain ⟨j, hj, e⟩ := hQ k
    have hm : Q k ∈ (mW G Q u).map (fun q => q.1) := by
      rw [mW_fst, e]
      exact List.mem_map.mpr ⟨j, hj, rfl⟩
    obtain ⟨x, hx, ex⟩ := List.mem_map.mp hm
    obtain ⟨i, hi⟩ := List.mem_iff_getElem?.mp hx
    exact Or.inl ⟨i, x.2, by rw [hi, ← ex]⟩
  · exact Or.inr z
theorem va_mA {G : gG} {Q : Nat → Nat} {u : MS} {n : Nat} : ∀ x ∈ mW G Q u, mA Q n x.1 := fun x hx => by
  have hm : x.1 ∈ (mW G Q u).map (fun q => q.1) := List.mem_map.mpr ⟨x, hx, rfl⟩
  rw [mW_fst] at hm
  obtain ⟨k, hk, e⟩ := List.mem_map.mp hm
  exact Or.inl ⟨k, (show ∀ k ∈ usedM, k < 73 by decide) k hk, (show ∀ k ∈ usedM, ¬ k = 41 by decide) k hk, e.symm⟩
def lX (p : Program) (c : Code) (s : State) (m : MethodId) (b : Nat) (A : Nat → Prop) (G : gG) (Z : gC) (mi L : Nat) (xs : Nat → Int32) : Prop := p.tables.exec = Jvm.exec ∧ c.code = cL_law ∧ c.maxLocals = 4 ∧ s.vm.findClass RL = some m.cls ∧ (∀ w ∈ lw_tbl, w.before #[Value.ref b] s = true) ∧ KB G s ∧ kE Z A s s.heap ∧ lE mi Z A s s.heap ∧ (∀ q : Nat, s.heap.size ≤ q → A q) ∧ va_X b L xs s s.heap ∧ b < s.heap.size ∧ ¬ A b
def bH (G : gG) (Q : Nat → Nat) (D : Nat × Nat) (T : va_W) (u : MS) (Qm : Nat → Nat) (v : MS) (A : Nat → Prop) (s : State) (H : Heap) (locs : List Loc) : Prop := va_P (gD G) vwCl (cW G Q D T u ++ mW G Qm v) H ∧ va_D A (cW G Q D T u ++ mW G Qm v) ∧ va_S A s.heap H locs
section LAW
variable {p : Program} {l : Launch} {e : Env} {s : State} {m : MethodId} {b : Nat} {below : List Frame} {meth : Method} {c : Code} {H : Heap} {locs : List Loc} {Q' : State → Prop} {pc cells slots : Nat} {ls : Array Slot} {rest st0 : List Value} {G : gG} {Z : gC} {mi L : Nat} {xs : Nat → Int32} {Q Qm : Nat → Nat} {D : Nat × Nat} {T : va_W} {A : Nat → Prop} {u u1 v v1 : MS}
theorem l_arg {i k q1 q3 : Nat} (hX : lX p c s m b A G Z mi L xs) (hS : va_S A s.heap H locs) (hl : lv_has ls 4 [(3, .int (nI i)), (2, .ref q3), (1, .ref q1), (0, .ref b)]) (hk : k ≤ 5) (hi : i + 6 ≤ L) (hL : L ≤ 3072) (hv : Int32.ofInt k = nI k) (d0 : decode cL_law pc = .ok (.aload_n 0, 1)) (d1 : decode cL_law (pc + 1) = .ok (.iload_n 3, 1)) (d2 : decode cL_law (pc + 2) = .ok (.iconst k, 1)) (d3 : decode cL_law (pc + 3) = .ok (.iadd, 1)) (d4 : decode cL_law (pc + 4) = .ok (.iaload, 1)) (kk : W p l e room_1 s m #[Value.ref b] below meth c H locs cells slots Q' (F0 m (pc + 5) ls (.int (xs (i + k)) :: rest))) : W p l e room_1 s m #[Value.ref b] below meth c H locs cells slots Q' (F0 m pc ls rest) := by
  obtain ⟨hx, hb, -, -, -, -, -, -, -, hXx, hbl, hbA⟩ := hX
  refine lv_aload_n hx hb d0 rfl (lv_at hl 3 rfl) ?_
  refine lv_iload_n hx hb d1 rfl (lv_at hl 0 rfl) ?_
  refine lv_iconst (v := nI k) hx hb d2 hv ?_
  refine lv_iadd hx hb d3 ?_
  refine gx_ti (nI_add i k) ?_
  refine va_sld hx hb hXx hbl hbA hS (vp_in_nI (by omega) (by omega)) d4 ?_
  rw [nI_clamp (by omega)]
  exact kk
theorem bcall {y : MethodName} {bytes : ByteArray} {maxL n index fr lo mc ms ci a0 q0 : Nat} {ret : Option FieldType} {As fs : List Value} {r : Int32} {wl : List Cond} {PP : State → Prop} {B : Unit → State → Prop} {wc wr : va_W} {F : Nat → Prop} {Bp : va_W → Prop} {C : vw_C} (hX : lX p c s m b A G Z mi L xs) (hP : va_P (gD G) vwCl (wc ++ wr) H) (hD : va_D A (wc ++ wr)) (hS : va_S A s.heap H locs) (hr : ∀ q ∈ wr, ¬ F q.1) (hF : ∀ q, F q → A q) (hM : Met l y (Cond.code y bytes maxL ret :: wl) { frames := fr, cells := mc, slots := ms, locals := lo } (va_Pc (.ref a0 :: As) PP) (va_Qi (fun (x : Int32) (_ : Unit) => x = r) B F) mc ms F) (hbl : FrameBlind (va_Pc (.ref a0 :: As) PP)) (hpre : ∀ U : State, U.heap = H → s.WarmedH U.vm → PP U) (hB : ∀ t : State, B () t → ∃ ws1, Bp ws1 ∧ va_P (gD G) vwCl ws1 t.heap ∧ va_D F ws1) (hc : vwCl[ci]? = some C) (he : (wc ++ wr)[q0]? = some (a0, .inr (ci, fs))) (hg : GoodIn lw_tbl (wsV RL index C.1 y (Cond.code y bytes maxL ret :: wl))) (hd : y.cls = C.1 ∧ y.cls ≠ "java/lang/invoke/MethodHandle" ∧ y.cls ≠ "java/lang/invoke/VarHandle" ∧ (parseMethodDescriptor y.desc).map (fun d => d.parameters.length) = some n) (hR : fr + 1 ≤ 2048 ∧ 8 + (maxL + 11) + lo ≤ 84000) (hf : cells + mc ≤ 601024 ∧ slots + ms ≤ 7293033) (hn : As.length = n) (hls : ls.size = 4) (hst : st0 = As.reverse ++ .ref a0 :: rest) (hcat : (rest.map fun v => v.category).sum ≤ 8) (hdg : decode cL_law pc = .ok (.invokevirtual index, 3)) (kk : ∀ (ws1 : va_W) (H1 : Heap) (locs1 : List Loc), Bp ws1 → va_P (gD G) vwCl (ws1 ++ wr) H1 → va_D A (ws1 ++ wr) → va_S A s.heap H1 locs1 → W p l e room_1 s m #[Value.ref b] below meth c H1 locs1 (cells + mc) (slots + ms) Q' (F0 m (pc + 3) ls (.int r :: rest))) : W p l e room_1 s m #[Value.ref b] below meth c H locs cells slots Q' (F0 m pc ls st0) := by
  obtain ⟨hx, hb, hml, hown, hts, hB1, -, -, -, -, -, -⟩ := hX
  refine va_calli (va_runV (As := As) (rest := rest) (C := C.1) ⟨hx, hb, hml, hown, hts⟩ hM (cwV n hts hg rfl rfl rfl hd hR) ⟨hbl, va_recv hB1.1 hP hc he, fun U hU hW => ⟨rfl, hpre U hU hW⟩⟩ rfl hn hls hst (lv_room hcat) hdg hf) hS (fun q _ h => hF q h) hF (fun r2 u2 t H1 locs1 ht hvm hw hB2 hz1 hk1 hS1 => ?_)
  obtain ⟨ws1, h1, h2, h3⟩ := hB t hB2
  rw [ht] at h2
  obtain ⟨h4, h5⟩ := w_joinF hP hD hr hk1 hF h2 h3
  have e9 : r2 = r := hw
  subst e9
  exact kk ws1 H1 locs1 h1 h4 h5 hS1
theorem bcallW {y : MethodName} {bytes : ByteArray} {maxL n index fr lo mc ms ci a0 q0 : Nat} {hh : List (Nat × Nat × Nat × Nat)} {ret : Option FieldType} {As fs : List Value} {r : Int32} {wl : List Cond} {PP : State → Prop} {B : Unit → State → Prop} {wc wr : va_W} {F : Nat → Prop} {Bp : va_W → Prop} {C : vw_C} (hX : lX p c s m b A G Z mi L xs) (hP : va_P (gD G) vwCl (wc ++ wr) H) (hD : va_D A (wc ++ wr)) (hS : va_S A s.heap H locs) (hr : ∀ q ∈ wr, ¬ F q.1) (hF : ∀ q, F q → A q) (hM : Met l y (Cond.codeWith y bytes maxL ret hh :: wl) { frames := fr, cells := mc, slots := ms, locals := lo } (va_Pc (.ref a0 :: As) PP) (va_Qi (fun (x : Int32) (_ : Unit) => x = r) B F) mc ms F) (hbl : FrameBlind (va_Pc (.ref a0 :: As) PP)) (hpre : ∀ U : State, U.heap = H → s.WarmedH U.vm → PP U) (hB : ∀ t : State, B () t → ∃ ws1, Bp ws1 ∧ va_P (gD G) vwCl ws1 t.heap ∧ va_D F ws1) (hc : vwCl[ci]? = some C) (he : (wc ++ wr)[q0]? = some (a0, .inr (ci, fs))) (hg : GoodIn lw_tbl (wsV RL index C.1 y (Cond.codeWith y bytes maxL ret hh :: wl))) (hd : y.cls = C.1 ∧ y.cls ≠ "java/lang/invoke/MethodHandle" ∧ y.cls ≠ "java/lang/invoke/VarHandle" ∧ (parseMethodDescriptor y.desc).map (fun d => d.parameters.length) = some n) (hR : fr + 1 ≤ 2048 ∧ 8 + (maxL + 11) + lo ≤ 84000) (hf : cells + mc ≤ 601024 ∧ slots + ms ≤ 7293033) (hn : As.length = n) (hls : ls.size = 4) (hst : st0 = As.reverse ++ .ref a0 :: rest) (hcat : (rest.map fun v => v.category).sum ≤ 8) (hdg : decode cL_law pc = .ok (.invokevirtual index, 3)) (kk : ∀ (ws1 : va_W) (H1 : Heap) (locs1 : List Loc), Bp ws1 → va_P (gD G) vwCl (ws1 ++ wr) H1 → va_D A (ws1 ++ wr) → va_S A s.heap H1 locs1 → W p l e room_1 s m #[Value.ref b] below meth c H1 locs1 (cells + mc) (slots + ms) Q' (F0 m (pc + 3) ls (.int r :: rest))) : W p l e room_1 s m #[Value.ref b] below meth c H locs cells slots Q' (F0 m pc ls st0) := by
  obtain ⟨hx, hb, hml, hown, hts, hB1, -, -, -, -, -, -⟩ := hX
  refine va_calli (th_runVW (As := As) (rest := rest) (C := C.1) ⟨hx, hb, hml, hown, hts⟩ hM (th_cw n hts hg rfl rfl rfl hd hR) ⟨hbl, va_recv hB1.1 hP hc he, fun U hU hW => ⟨rfl, hpre U hU hW⟩⟩ rfl hn hls hst (lv_room hcat) hdg hf) hS (fun q _ h => hF q h) hF (fun r2 u2 t H1 locs1 ht hvm hw hB2 hz1 hk1 hS1 => ?_)
  obtain ⟨ws1, h1, h2, h3⟩ := hB t hB2
  rw [ht] at h2
  obtain ⟨h4, h5⟩ := w_joinF hP hD hr hk1 hF h2 h3
  have e9 : r2 = r := hw
  subst e9
  exact kk ws1 H1 locs1 h1 h4 h5 hS1
theorem lpre_c {wr : va_W} (hX : lX p c s m b A G Z mi L xs) (hP : va_P (gD G) vwCl (cW G Q D T u ++ wr) H) (hD : va_D A (cW G Q D T u ++ wr)) (hS : va_S A s.heap H locs) (U : State) (hU : U.heap = H) (hW : s.WarmedH U.vm) : cPL G Z mi Q D T u H.size U := by
  obtain ⟨-, -, -, -, -, hB, hE, hL, hA, -, -, -⟩ := hX
  have hF := wc_F (n := H.size) hD (fun q h => hA q (Nat.le_trans hS.1 h))
  refine ⟨⟨by rw [hU], by rw [hU]; exact wP_of hP (fun _ h => List.mem_append_left _ h), hB.moved hW, wD_left hD, ?_⟩, ?_⟩
  · rw [hU]; exact ((hE.kept hS.2.1).narrow hF).moved hW
  · rw [hU]; exact ((hL.kept hS.2.1).narrow hF).moved hW
theorem lpre_m {wr : va_W} (hX : lX p c s m b A G Z mi L xs) (hQ : mOK Qm) (hP : va_P (gD G) vwCl (mW G Qm v ++ wr) H) (hD : va_D A (mW G Qm v ++ wr)) (hS : va_S A s.heap H locs) (U : State) (hU : U.heap = H) (hW : s.WarmedH U.vm) : mPM G Z.1 Qm v H.size U := by
  obtain ⟨-, -, -, -, -, hB, hE, hL, hA, -, -, -⟩ := hX
  have hF := wc_F (n := H.size) hD (fun q h => hA q (Nat.le_trans hS.1 h))
  refine ⟨by rw [hU], by rw [hU]; exact wP_of hP (fun _ h => List.mem_append_left _ h), hB.moved hW, wD_of (wD_nd (wD_left hD)) va_mA, ?_⟩
  rw [hU]
  exact ((hE.1.kept hS.2.1).narrow (fun q h => hF q (mA_va (G := G) (u := v) hQ q h))).moved hW
/-- a call of the class -/
theorem lc_A {y : MethodName} {bytes : ByteArray} {maxL n index fr lo mc ms : Nat} {ret : Option FieldType} {As : List Value} {r : Int32} (hX : lX p c s m b A G Z mi L xs) (hH : bH G Q D T u Qm v A s H locs) (hM : Met l y (Cond.code y bytes maxL ret :: wK) { frames := fr, cells := mc, slots := ms, locals := lo } (va_Pc (.ref (Q 0) :: As) (cPM G Z Q D T u H.size)) (cQi G Q T u1 r (va_A (cW G Q D T u) H.size)) mc ms (va_A (cW G Q D T u) H.size)) (k1 : Cond.code y bytes maxL ret ∈ wK) (k2 : Cond.methodLink RL index y ∈ lw_tbl) (k3 : Cond.instanceMethod y ∈ lw_tbl) (k4 : Cond.selects RX11 y y ∈ lw_tbl) (hd : y.cls = RX11 ∧ y.cls ≠ "java/lang/invoke/MethodHandle" ∧ y.cls ≠ "java/lang/invoke/VarHandle" ∧ (parseMethodDescriptor y.desc).map (fun d => d.parameters.length) = some n) (hR : fr + 1 ≤ 2048 ∧ 8 + (maxL + 11) + lo ≤ 84000) (hf : cells + mc ≤ 601024 ∧ slots + ms ≤ 7293033) (hn : As.length = n) (hls : ls.size = 4) (hst : st0 = As.reverse ++ .ref (Q 0) :: rest) (hcat : (rest.map fun v => v.category).sum ≤ 8) (hdg : decode cL_law pc = .ok (.invokevirtual index, 3)) (kk : ∀ (D1 : Nat × Nat) (H1 : Heap) (locs1 : List Loc), bH G Q D1 T u1 Qm v A s H1 locs1 → W p l e room_1 s m #[Value.ref b] below meth c H1 locs1 (cells + mc) (slots + ms) Q' (F0 m (pc + 3) ls (.int r :: rest))) : W p l e room_1 s m #[Value.ref b] below meth c H locs cells slots Q' (F0 m pc ls st0) :=
  bcall (C := (RX11, TX11, 11)) (ci := 12) (q0 := 0) (Bp := fun ws1 => ∃ D1 : Nat × Nat, ws1 = cW G Q D1 T u1) hX hH.1 hH.2.1 hH.2.2 (wr_out hH.1 hH.2.1) (wc_F hH.2.1 (fun q h => hX.2.2.2.2.2.2.2.2.1 q (Nat.le_trans hH.2.2.1 h))) hM cPM.blind (fun U hU hW => (lpre_c hX hH.1 hH.2.1 hH.2.2 U hU hW).1) (fun t ⟨D1, b1, b2⟩ => ⟨_, ⟨D1, rfl⟩, b1, b2⟩) rfl rfl (gdV k2 k3 k4 (in_wK _ wka755) (fun w9 h9 => ⟨in_wK _ (cgood k1 w9 h9).1, (cgood k1 w9 h9).2⟩)) hd hR hf hn hls hst hcat hdg (fun ws1 H1 locs1 ⟨D1, e1⟩ h1 h2 h3 => kk D1 H1 locs1 ⟨by rw [← e1]; exact h1, by rw [← e1]; exact h2, h3⟩)
theorem bH.swap (hH : bH G Q D T u Qm v A s H locs) : va_P (gD G) vwCl (mW G Qm v ++ cW G Q D T u) H ∧ va_D A (mW G Qm v ++ cW G Q D T u) ∧ va_S A s.heap H locs :=
  ⟨wP_of hH.1 (fun x hx => List.perm_append_comm.mem_iff.mp hx), wD_perm hH.2.1 List.perm_append_comm, hH.2.2⟩
theorem bH.back (h1 : va_P (gD G) vwCl (mW G Qm v ++ cW G Q D T u) H) (h2 : va_D A (mW G Qm v ++ cW G Q D T u)) (h3 : va_S A s.heap H locs) : bH G Q D T u Qm v A s H locs :=
  ⟨wP_of h1 (fun x hx => List.perm_append_comm.mem_iff.mp hx), wD_perm h2 List.perm_append_comm, h3⟩
/-- a call of the reference -/
theorem lm_i {y : MethodName} {bytes : ByteArray} {maxL n index fr lo : Nat} {ret : Option FieldType} {As : List Value} {r : Int32} (hX : lX p c s m b A G Z mi L xs) (hQ : mOK Qm) (hH : bH G Q D T u Qm v A s H locs) (hM : Met l y (Cond.code y bytes maxL ret :: wM) { frames := fr, cells := 0, slots := 0, locals := lo } (va_Pc (.ref (Qm 72) :: As) (mPM G Z.1 Qm v H.size)) (mQi G Qm v1 r H.size) 0 0 (mA Qm H.size)) (k1 : Cond.code y bytes maxL ret ∈ wM) (k2 : Cond.methodLink RL index y ∈ lw_tbl) (k3 : Cond.instanceMethod y ∈ lw_tbl) (k4 : Cond.selects RX13 y y ∈ lw_tbl) (hd : y.cls = RX13 ∧ y.cls ≠ "java/lang/invoke/MethodHandle" ∧ y.cls ≠ "java/lang/invoke/VarHandle" ∧ (parseMethodDescriptor y.desc).map (fun d => d.parameters.length) = some n) (hR : fr + 1 ≤ 2048 ∧ 8 + (maxL + 11) + lo ≤ 84000) (hf : cells + 0 ≤ 601024 ∧ slots + 0 ≤ 7293033) (hn : As.length = n) (hls : ls.size = 4) (hst : st0 = As.reverse ++ .ref (Qm 72) :: rest) (hcat : (rest.map fun v => v.category).sum ≤ 8) (hdg : decode cL_law pc = .ok (.invokevirtual index, 3)) (kk : ∀ (H1 : Heap) (locs1 : List Loc), bH G Q D T u Qm v1 A s H1 locs1 → W p l e room_1 s m #[Value.ref b] below meth c H1 locs1 (cells + 0) (slots + 0) Q' (F0 m (pc + 3) ls (.int r :: rest))) : W p l e room_1 s m #[Value.ref b] below meth c H locs cells slots Q' (F0 m pc ls st0) :=
  have hs := hH.swap
  bcall (C := (RX13, TX13, 72)) (ci := 14) (q0 := 0) (Bp := fun ws1 => ws1 = mW G Qm v1) hX hs.1 hs.2.1 hs.2.2 (fun q hq z => wr_out hs.1 hs.2.1 q hq (mA_va hQ _ z)) (fun q h => wc_F hs.2.1 (fun q h => hX.2.2.2.2.2.2.2.2.1 q (Nat.le_trans hs.2.2.1 h)) q (mA_va hQ q h)) hM mPM.blind (fun U hU hW => lpre_m hX hQ hs.1 hs.2.1 hs.2.2 U hU hW) (fun t ⟨b1, b2⟩ => ⟨_, rfl, b1, b2⟩) rfl rfl (gdV k2 k3 k4 (in_wM _ wma375) (fun w9 h9 => ⟨in_wM _ (mgood k1 w9 h9).1, (mgood k1 w9 h9).2⟩)) hd hR hf hn hls hst hcat hdg (fun ws1 H1 locs1 e1 h1 h2 h3 => kk H1 locs1 (bH.back (by rw [← e1]; exact h1) (by rw [← e1]; exact h2) h3))
/-- the reference's laws(), which has a table of handlers -/
theorem lm_w {y : MethodName} {bytes : ByteArray} {maxL n index fr lo : Nat} {hh : List (Nat × Nat × Nat × Nat)} {ret : Option FieldType} {As : List Value} {r : Int32} (hX : lX p c s m b A G Z mi L xs) (hQ : mOK Qm) (hH : bH G Q D T u Qm v A s H locs) (hM : Met l y (Cond.codeWith y bytes maxL ret hh :: wM) { frames := fr, cells := 0, slots := 0, locals := lo } (va_Pc (.ref (Qm 72) :: As) (mPM G Z.1 Qm v H.size)) (mQi G Qm v1 r H.size) 0 0 (mA Qm H.size)) (k1 : Cond.codeWith y bytes maxL ret hh ∈ wM) (k2 : Cond.methodLink RL index y ∈ lw_tbl) (k3 : Cond.instanceMethod y ∈ lw_tbl) (k4 : Cond.selects RX13 y y ∈ lw_tbl) (hd : y.cls = RX13 ∧ y.cls ≠ "java/lang/invoke/MethodHandle" ∧ y.cls ≠ "java/lang/invoke/VarHandle" ∧ (parseMethodDescriptor y.desc).map (fun d => d.parameters.length) = some n) (hR : fr + 1 ≤ 2048 ∧ 8 + (maxL + 11) + lo ≤ 84000) (hf : cells + 0 ≤ 601024 ∧ slots + 0 ≤ 7293033) (hn : As.length = n) (hls : ls.size = 4) (hst : st0 = As.reverse ++ .ref (Qm 72) :: rest) (hcat : (rest.map fun v => v.category).sum ≤ 8) (hdg : decode cL_law pc = .ok (.invokevirtual index, 3)) (kk : ∀ (H1 : Heap) (locs1 : List Loc), bH G Q D T u Qm v1 A s H1 locs1 → W p l e room_1 s m #[Value.ref b] below meth c H1 locs1 (cells + 0) (slots + 0) Q' (F0 m (pc + 3) ls (.int r :: rest))) : W p l e room_1 s m #[Value.ref b] below meth c H locs cells slots Q' (F0 m pc ls st0) :=
  have hs := hH.swap
  bcallW (C := (RX13, TX13, 72)) (ci := 14) (q0 := 0) (Bp := fun ws1 => ws1 = mW G Qm v1) hX hs.1 hs.2.1 hs.2.2 (fun q hq z => wr_out hs.1 hs.2.1 q hq (mA_va hQ _ z)) (fun q h => wc_F hs.2.1 (fun q h => hX.2.2.2.2.2.2.2.2.1 q (Nat.le_trans hs.2.2.1 h)) q (mA_va hQ q h)) hM mPM.blind (fun U hU hW => lpre_m hX hQ hs.1 hs.2.1 hs.2.2 U hU hW) (fun t ⟨b1, b2⟩ => ⟨_, rfl, b1, b2⟩) rfl rfl (gdV k2 k3 k4 (in_wM _ wma375) (fun w9 h9 => ⟨in_wM _ (mgood' k1 w9 h9).1, (mgood' k1 w9 h9).2⟩)) hd hR hf hn hls hst hcat hdg (fun ws1 H1 locs1 e1 h1 h2 h3 => kk H1 locs1 (bH.back (by rw [← e1]; exact h1) (by rw [← e1]; exact h2) h3))
end LAW
