/-! ===== the list of laws told, as cells: new, or with an array ===== -/
abbrev gLw : Type := Nat × (Nat → Nat) × MS
abbrev gOa : Type := Option (Nat × Nat × (Nat → Option Nat))
def tlC (Z : gC) (Q : Nat → Nat) (mc : Int32) (n : Nat) (o : gOa) : va_W := match o with
  | none => [(Q 13, .inr (0, [.int mc, .ref Z.2.1, .int 0]))]
  | some (t0, cap, f) => [(Q 13, .inr (0, [.int mc, .ref t0, .int (nI n)])), (t0, .inl (Z.1.1 1000, cap, .inr (.inr (.inr (.inr f)))))]
theorem tlC_Q {Z : gC} {Q Q2 : Nat → Nat} {mc : Int32} {n : Nat} {o : gOa} (h : Q2 13 = Q 13) : tlC Z Q2 mc n o = tlC Z Q mc n o := by
  cases o with
  | none => unfold tlC; rw [h]
  | some o => unfold tlC; rw [h]
def capsL : List Nat := [10, 15, 22, 33, 49, 73, 109, 163, 244, 366, 549]
theorem caps_le : ∀ c ∈ capsL, 10 ≤ c ∧ c ≤ 549 := by decide
theorem caps_next : ∀ c ∈ capsL, c < 512 → ∃ k ∈ capsL, c < k ∧ nI c + (if (1 : Int32) < nI c >>> (1 &&& 31) then nI c >>> (1 &&& 31) else 1) = nI k := by decide +kernel
/-- what the array holds -/
def tlO (o : gOa) (T1 : va_W) (LW : List gLw) : Prop := match o with
  | none => LW = []
  | some (_, cap, f) => cap ∈ capsL ∧ LW.length ≤ cap ∧ (∀ (i : Nat) (x : gLw), LW[i]? = some x → f i = some x.1) ∧ ∀ i y : Nat, i < cap → f i = some y → ∃ vs : List Value, (y, .inr (5, vs)) ∈ T1
theorem tlO.up {o : gOa} {T1 T2 : va_W} {LW : List gLw} (h : tlO o T1 LW) (hs : ∀ x ∈ T1, x ∈ T2) : tlO o T2 LW := by
  cases o with
  | none => exact h
  | some o =>
    obtain ⟨t0, cap, f⟩ := o
    obtain ⟨h1, h2, h3, h4⟩ := h
    exact ⟨h1, h2, h3, fun i y hi hy => by obtain ⟨vs, hv⟩ := h4 i y hi hy; exact ⟨vs, hs _ hv⟩⟩
/-- noLaws and the laws told: where they lie in the tail behind the list -/
def toldC (G : gG) (Q : Nat → Nat) (T1 : va_W) (P : gLw) (LW : List gLw) (o : gOa) : Prop := P.1 = Q 14 ∧ lawAt G T1 P.1 P.2.1 P.2.2 ∧ (∀ x ∈ LW, lawAt G T1 x.1 x.2.1 x.2.2) ∧ LW.length ≤ 512 ∧ tlO o T1 LW
theorem toldC.at {G : gG} {Z : gC} {Q : Nat → Nat} {T1 : va_W} {P : gLw} {LW : List gLw} {o : gOa} (mc : Int32) (h : toldC G Q T1 P LW o) : toldAt G (Z.1.1 1000) (tlC Z Q mc LW.length o ++ T1) Q P LW := by
  obtain ⟨h1, h2, h3, h4, h5⟩ := h
  refine ⟨h1, h2.pre _, fun i x hx => (h3 x (List.mem_of_getElem? hx)).pre _, by omega, 0, mc, ?_⟩
  cases o with
  | none =>
    have e : LW = [] := h5
    subst e
    exact ⟨_, rfl, Or.inl rfl⟩
  | some o =>
    obtain ⟨t0, cap, f⟩ := o
    obtain ⟨h6, h7, h8, h9⟩ := h5
    have := caps_le cap h6
    exact ⟨_, rfl, Or.inr ⟨1, t0, cap, f, rfl, rfl, h7, by omega, h8⟩⟩
/-- the laws told, with w at number x -/
def kpL (LW : List gLw) (x : Int32) (w : gLw) : List gLw := if x < 0 then LW ++ [w] else if nI LW.length ≤ x then LW ++ [w] else LW.set x.toNatClampNeg w
theorem kpL_mem {LW : List gLw} {x : Int32} {w z : gLw} (h : z ∈ kpL LW x w) : z ∈ LW ∨ z = w := by
  unfold kpL at h
  split at h
  · exact (List.mem_append.mp h).elim Or.inl (fun q => Or.inr (List.mem_singleton.mp q))
  · split at h
    · exact (List.mem_append.mp h).elim Or.inl (fun q => Or.inr (List.mem_singleton.mp q))
    · exact List.mem_or_eq_of_mem_set h
theorem kpL_len (LW : List gLw) (x : Int32) (w : gLw) : (kpL LW x w).length ≤ LW.length + 1 := by
  unfold kpL
  split
  · rw [List.length_append]; exact Nat.le_refl _
  · split
    · rw [List.length_append]; exact Nat.le_refl _
    · rw [List.length_set]; omega
theorem kpL_add {LW : List gLw} {x : Int32} {w : gLw} (h : ¬ x < 0 → nI LW.length ≤ x) : kpL LW x w = LW ++ [w] := by
  unfold kpL
  by_cases c : x < 0
  · rw [if_pos c]
  · rw [if_neg c, if_pos (h c)]
theorem tlO_add {LW : List gLw} {w : gLw} {t0 cap : Nat} {f f2 : Nat → Option Nat} {T1 T2 : va_W} (hc : cap ∈ capsL) (hn : LW.length < cap) (h3 : ∀ (i : Nat) (x : gLw), LW[i]? = some x → f i = some x.1) (h5 : ∀ i y : Nat, i < cap → f2 i = some y → y = w.1 ∨ ∃ vs : List Value, (y, .inr (5, vs)) ∈ T1) (h6 : ∀ i : Nat, i < LW.length → f2 i = f i) (h7 : f2 LW.length = some w.1) (hs : ∀ x ∈ T1, x ∈ T2) (hw : ∃ vs : List Value, (w.1, .inr (5, vs)) ∈ T2) : tlO (some (t0, cap, f2)) T2 (LW ++ [w]) := by
  refine ⟨hc, by rw [List.length_append]; exact hn, fun i x hx => ?_, fun i y hi hy => ?_⟩
  · rcases Nat.lt_trichotomy i LW.length with z | z | z
    · rw [List.getElem?_append_left z] at hx
      rw [h6 i z]
      exact h3 i x hx
    · subst z
      rw [List.getElem?_append_right (Nat.le_refl _), Nat.sub_self] at hx
      cases hx
      exact h7
    · rw [List.getElem?_eq_none (by rw [List.length_append]; exact z)] at hx
      cases hx
  · rcases h5 i y hi hy with rfl | ⟨vs, hv⟩
    · exact hw
    · exact ⟨vs, hs _ hv⟩
section KEEP
variable {p : Program} {l : Launch} {e : Env} {R : Room} {s : State} {m : MethodId} {args : Array Value} {below : List Frame} {meth : Method} {c : Code} {H : Heap} {locs : List Loc} {Q' : State → Prop} {cc : ByteArray} {nL pc cells slots : Nat} {ls : Array Slot} {rest : List Value} {G : gG} {Z : gC} {Q : Nat → Nat} {D : Nat × Nat} {T T0 : va_W} {A : Nat → Prop} {u u1 : MS} {Ts : List Cond} {mi v : Nat} {mc : Int32} {vs : List Value}
theorem ccK0 {fr lo ce sl : Nat} {TT : Nat → va_W} (hC : cX p c cc nL s m args RX11 G Z A) (hL : lE mi Z A s s.heap) (hH : cH G Q D T A u s H locs) (hM : Met l yX11_keepLaws (Cond.code yX11_keepLaws cX11_keepLaws 3 none :: wKA) { frames := fr, cells := ce, slots := sl, locals := lo } (va_Pc [.ref (Q 0), .ref v] (cPL G Z mi Q D T u H.size)) (va_Qv (fun _ : Unit => True) (fun (_ : Unit) (t : State) => ∃ (q : Nat) (D1 : Nat × Nat), va_P (gD G) vwCl (cW G Q D1 (TT q) u1) t.heap ∧ va_D (va_A (cW G Q D T u) H.size) (cW G Q D1 (TT q) u1)) (va_A (cW G Q D T u) H.size)) ce sl (va_A (cW G Q D T u) H.size)) (hTs : ∀ w ∈ Ts, w.before args s = true) (hq : ∀ w ∈ wKA, w ∈ Ts) (hR : fr + 1 ≤ R.frames ∧ 8 + (3 + 11) + lo ≤ R.locals) (hls : ls.size = nL) (hcat : (rest.map fun v => v.category).sum ≤ 8) (hf : cells + ce ≤ R.cells ∧ slots + sl ≤ R.slots) (hdg : decode cc pc = .ok (.invokevirtual 118, 3)) (kk : ∀ (q : Nat) (D1 : Nat × Nat) (H1 : Heap) (locs1 : List Loc), cH G Q D1 (TT q) A u1 s H1 locs1 → W p l e R s m args below meth c H1 locs1 (cells + ce) (slots + sl) Q' (F0 m (pc + 3) ls rest)) : W p l e R s m args below meth c H locs cells slots Q' (F0 m pc ls (.ref v :: .ref (Q 0) :: rest)) := by
  have hle := cH.sub hC hH
  have hC2 := hC
  obtain ⟨hx, hb, hml, hown, hts, hB, hE, hA⟩ := hC
  refine va_callv (va_runV (As := [.ref v]) (rest := rest) (C := RX11) ⟨hx, hb, hml, hown, hTs⟩ hM (cwV 1 hTs (gdV (hq _ (wKA0 _ wka196)) (hq _ (wKA0 _ wka680)) (hq _ (wKA0 _ wka681)) (hq _ (wKA0 _ wka755)) (fun w9 h9 => (List.mem_cons.mp h9).elim (fun z => ⟨z ▸ hq _ (wKA0 _ wkc_X11_keepLaws), z ▸ gd_wK _ wkc_X11_keepLaws⟩) (fun z => ⟨hq _ z, gd_wKA _ z⟩))) rfl rfl rfl kVX11_keepLaws hR) ⟨cPL.blind, va_recv hB.1 hH.1 (ci := 12) (q0 := 0) rfl rfl, fun U hU hW => ⟨rfl, cH.pre hC2 hH U hU hW, by rw [hU]; exact ((hL.kept hH.2.2.2.1).narrow hle).moved hW⟩⟩ rfl rfl hls rfl (lv_room hcat) hdg hf) hH.2.2 (fun q _ h => hle q h) hle (fun u2 t H1 locs1 ht hvm hw hB1 hz1 hk1 hS => ?_)
  obtain ⟨q, D1, b1, b2⟩ := hB1
  rw [ht] at b1
  exact kk q D1 H1 locs1 ⟨b1, b2.weaken (fun _ _ _ h => hle _ h), hS⟩
theorem ccKeep {o : gOa} {LW : List gLw} {w : gLw} {r : Int32} {C1 C2 : Nat} (hC : cX p c cc nL s m args RX11 G Z A) (hL : lE mi Z A s s.heap) (hH : cH G Q D (tlC Z Q mc LW.length o ++ ((v, .inr (5, vs)) :: T0)) A u s H locs) (hw : w.1 = v) (hO : tlO o T0 LW) (hn : LW.length < 512) (hF : x_X1_put 3 (rg (u.2 0) 2088 3 + 1) u = some (r, u1, C1, C2)) (hTs : ∀ w ∈ Ts, w.before args s = true) (hq : ∀ w ∈ wKA, w ∈ Ts) (hR : 8 ≤ R.frames ∧ 193 ≤ R.locals) (hls : ls.size = nL) (hcat : (rest.map fun v => v.category).sum ≤ 8) (hf : cells + (1 + C1) ≤ R.cells ∧ slots + (549 + C2) ≤ R.slots) (hdg : decode cc pc = .ok (.invokevirtual 118, 3)) (kk : ∀ (D1 : Nat × Nat) (H1 : Heap) (locs1 : List Loc) (mc1 : Int32) (o1 : gOa), tlO o1 ((v, .inr (5, vs)) :: T0) (kpL LW (rg (u.2 0) 2088 3) w) → cH G Q D1 (tlC Z Q mc1 (kpL LW (rg (u.2 0) 2088 3) w).length o1 ++ ((v, .inr (5, vs)) :: T0)) A u1 s H1 locs1 → W p l e R s m args below meth c H1 locs1 (cells + (1 + C1)) (slots + (549 + C2)) Q' (F0 m (pc + 3) ls rest)) : W p l e R s m args below meth c H locs cells slots Q' (F0 m pc ls (.ref v :: .ref (Q 0) :: rest)) := by
  generalize hx : rg (u.2 0) 2088 3 = x at hF kk
  have hs : ∀ z ∈ T0, z ∈ (v, .inr (5, vs)) :: T0 := fun z h => List.mem_cons_of_mem _ h
  have hwm : ∃ vs2 : List Value, (w.1, .inr (5, vs2)) ∈ (v, Sum.inr (5, vs)) :: T0 := ⟨vs, by rw [hw]; exact List.mem_cons_self⟩
  cases o with
  | none =>
    have e9 : LW = [] := hO
    subst e9
    have hge : ¬ x < 0 → (0 : Int32) ≤ x := fun h => Int32.not_lt.mp h
    have hk : kpL [] x w = [w] := kpL_add (LW := []) (fun h => hge h)
    rw [hk] at kk
    have hH2 : cH G Q D ([(Q 13, .inr (0, [.int mc, .ref Z.2.1, .int 0])), (v, .inr (5, vs))] ++ T0) A u s H locs := hH
    refine ccK0 hC hL hH2 (n_X11_keepZ l G Z mi Q D T0 u u1 r x mc C1 C2 v H.size vs hx hge hF) hTs hq ⟨by omega, by omega⟩ hls hcat ⟨by omega, by omega⟩ hdg (fun q D1 H1 locs1 hH1 => ?_)
    refine W.widen (k := cells + (1 + C1)) (n := slots + (549 + C2)) (by omega) (by omega) ?_
    refine kk D1 H1 locs1 (mc + 1) (some (q, 10, va_up (fun _ => none) 0 (some v))) ?_ hH1
    exact tlO_add (LW := []) (T1 := T0) (f := fun _ => none) (by decide) (by decide) (fun i x hx => by cases hx) (fun i y hi hy => by
      have hy2 : (if i = 0 then some v else none) = some y := hy
      by_cases c0 : i = 0
      · rw [if_pos c0] at hy2; cases hy2; exact Or.inl hw.symm
      · rw [if_neg c0] at hy2; cases hy2) (fun i hi => absurd hi (Nat.not_lt_zero _)) (by show some v = some w.1; rw [hw]) hs hwm
  | some o =>
    obtain ⟨t0, cap, f⟩ := o
    obtain ⟨h1, h2, h3, h4⟩ := hO
    have hcp := caps_le cap h1
    have hH2 : cH G Q D ([(Q 13, .inr (0, [.int mc, .ref t0, .int (nI LW.length)])), (t0, .inl (Z.1.1 1000, cap, .inr (.inr (.inr (.inr f))))), (v, .inr (5, vs))] ++ T0) A u s H locs := hH
    by_cases hge : ¬ x < 0 → nI LW.length ≤ x
    · have hk : kpL LW x w = LW ++ [w] := kpL_add hge
      have hkl : (LW ++ [w]).length = LW.length + 1 := by rw [List.length_append]; rfl
      rw [hk] at kk
      rcases Nat.lt_or_ge LW.length cap with hlt | hlt
      · refine ccK0 hC hL hH2 (n_X11_keepA l G Z mi Q D T0 u u1 r x mc C1 C2 v H.size vs t0 cap LW.length f hx h4 hlt (by omega) hge hF) hTs hq ⟨by omega, by omega⟩ hls hcat ⟨by omega, by omega⟩ hdg (fun q D1 H1 locs1 hH1 => ?_)
        refine W.widen (k := cells + (1 + C1)) (n := slots + (549 + C2)) (by omega) (by omega) ?_
        refine kk D1 H1 locs1 (mc + 1) (some (t0, cap, va_up f LW.length (some v))) ?_ (by rw [hkl]; exact hH1)
        refine tlO_add (T1 := T0) (f := f) h1 hlt h3 (fun i y hi hy => ?_) (fun i hi => if_neg (by omega)) (by show (if LW.length = LW.length then some v else _) = some w.1; rw [if_pos rfl, hw]) hs hwm
        have hy2 : (if i = LW.length then some v else f i) = some y := hy
        by_cases c0 : i = LW.length
        · rw [if_pos c0] at hy2; cases hy2; exact Or.inl hw.symm
        · rw [if_neg c0] at hy2; exact Or.inr (h4 i y hi hy2)
      · have e9 : LW.length = cap := by omega
        obtain ⟨k, hk1, hk2, hk3⟩ := caps_next cap h1 (by omega)
        have hkk := caps_le k hk1
        rw [e9] at hH2 hge
        refine ccK0 hC hL hH2 (n_X11_keepG l G Z mi Q D T0 u u1 r x mc C1 C2 v H.size vs t0 cap k f hx h4 (by omega) hk2 (by omega) hk3 hge hF) hTs hq ⟨by omega, by omega⟩ hls hcat ⟨by omega, by omega⟩ hdg (fun q D1 H1 locs1 hH1 => ?_)
        refine W.widen (k := cells + (1 + C1)) (n := slots + (549 + C2)) (by omega) (by omega) ?_
        refine kk D1 H1 locs1 (mc + 1) (some (q, k, va_up (va_cpy f (fun _ => none) 0 0 cap) cap (some v))) ?_ (by rw [hkl, e9]; exact hH1)
        have hcy : ∀ i : Nat, i < cap → va_cpy f (fun _ => none) 0 0 cap i = f i := fun i hi => by
          show (if 0 ≤ i ∧ i < 0 + cap then f (0 + (i - 0)) else none) = f i
          rw [if_pos ⟨Nat.zero_le _, by omega⟩]
          congr 1
          omega
        refine tlO_add (T1 := T0) (f := f) hk1 (by omega) h3 (fun i y hi hy => ?_) (fun i hi => ?_) (by rw [e9]; show (if cap = cap then some v else _) = some w.1; rw [if_pos rfl, hw]) hs hwm
        · have hy2 : (if i = cap then some v else va_cpy f (fun _ => none) 0 0 cap i) = some y := hy
          by_cases c0 : i = cap
          · rw [if_pos c0] at hy2; cases hy2; exact Or.inl hw.symm
          · rw [if_neg c0] at hy2
            by_cases c1 : i < cap
            · rw [hcy i c1] at hy2; exact Or.inr (h4 i y c1 hy2)
            · have hy3 : (if 0 ≤ i ∧ i < 0 + cap then f (0 + (i - 0)) else none) = some y := hy2
              rw [if_neg (by omega)] at hy3
              cases hy3
        · show (if i = cap then some v else va_cpy f (fun _ => none) 0 0 cap i) = f i
          rw [if_neg (by omega), hcy i (by omega)]
    · have h0x : ¬ x < 0 := fun z => hge (fun q => absurd z q)
      have hlt : ¬ nI LW.length ≤ x := fun z => hge (fun _ => z)
      obtain ⟨j, hj, rfl⟩ := nI_of h0x
      have hjl : j < LW.length := Nat.not_le.mp (fun z => hlt (nI_le z hj))
      have hk : kpL LW (nI j) w = LW.set j w := by
        unfold kpL
        rw [if_neg h0x, if_neg hlt, nI_clamp hj]
      have hkl : (LW.set j w).length = LW.length := List.length_set
      rw [hk] at kk
      refine ccK0 hC hL hH2 (n_X11_keepS l G Z mi Q D T0 u u1 r (nI j) mc C1 C2 v H.size vs t0 cap LW.length LW[j].1 f hx h0x hlt (vp_in_nI (by omega) (by omega)) (by rw [nI_clamp hj]; exact h3 j _ (List.getElem?_eq_getElem hjl)) hF) hTs hq ⟨by omega, by omega⟩ hls hcat ⟨by omega, by omega⟩ hdg (fun q D1 H1 locs1 hH1 => ?_)
      rw [nI_clamp hj] at hH1
      refine W.widen (k := cells + (1 + C1)) (n := slots + (549 + C2)) (by omega) (by omega) ?_
      refine kk D1 H1 locs1 mc (some (t0, cap, va_up f j (some v))) ⟨h1, by rw [hkl]; exact h2, fun i x hx => ?_, fun i y hi hy => ?_⟩ (by rw [hkl]; exact hH1)
      · rw [List.getElem?_set] at hx
        show (if i = j then some v else f i) = some x.1
        by_cases c0 : j = i
        · rw [if_pos c0, if_pos hjl] at hx
          cases hx
          rw [if_pos c0.symm, hw]
        · rw [if_neg c0] at hx
          rw [if_neg (fun z => c0 z.symm)]
          exact h3 i x hx
      · have hy2 : (if i = j then some v else f i) = some y := hy
        by_cases c0 : i = j
        · rw [if_pos c0] at hy2; cases hy2; exact ⟨vs, List.mem_cons_self⟩
        · rw [if_neg c0] at hy2
          obtain ⟨vs2, hv⟩ := h4 i y hi hy2
          exact ⟨vs2, hs _ hv⟩
end KEEP
