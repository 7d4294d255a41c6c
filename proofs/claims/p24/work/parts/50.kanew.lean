def iu0 : GS := ((fun k => if k = 50 then -1 else 0, fun _ _ => 0), fun _ => true, fun _ _ => true)
def nP (G : gG) (Z : gS) (Zs : gM) (ws : va_W) (sz : Nat) (U : State) : Prop := mP G ws sz U ∧ ST Z (va_A ws sz) U U.heap ∧ sE Zs (va_A ws sz) U U.heap
theorem nP.blind {G : gG} {Z : gS} {Zs : gM} {ws : va_W} {sz : Nat} {av : List Value} : FrameBlind (va_Pc av (nP G Z Zs ws sz)) := fun _ U g mk q => ⟨q.1, ⟨q.2.1.1, q.2.1.2.1, q.2.1.2.2.1.calling g mk _, q.2.1.2.2.2⟩, ST.moved (u := U) (Vm.Alike.refl U.vm) q.2.2.1, q.2.2.2.calling g mk _⟩
section KA
variable {p : Program} {l : Launch} {e : Env} {R : Room} {s : State} {m : MethodId} {args : Array Value} {below : List Frame} {meth : Method} {c : Code} {H : Heap} {locs : List Loc} {cells slots : Nat} {Q' : State → Prop} {ls : Array Slot} {G : gG} {Zs : gM} {Q : Nat → Nat} {A : Nat → Prop} {mo nL : Nat} {cc : ByteArray} {pc : Nat} {e0 : va_E}
theorem k_anewcall {w1 : GS} {r : Int32} (hx : p.tables.exec = Jvm.exec) (hb : c.code = cc) (hml : c.maxLocals = nL) (hown : s.vm.findClass RX13 = some m.cls) (hts : ∀ w ∈ wM, w.before args s = true) (hB : KB G s) (hZ : sE Zs A s s.heap) (hA : ∀ q : Nat, s.heap.size ≤ q → A q) (hAe : va_A [(mo, e0)] s.heap.size = A) (hP : va_P (gD G) vwCl (mW G Q iu0.1) H) (hD : va_D A (mW G Q iu0.1)) (hS : va_S A s.heap H locs) (hmo : Q 72 = mo) (hF : f_anew iu0 = some (r, w1)) (hR : 1 ≤ R.frames ∧ 22 ≤ R.locals) (hls : ls.size = nL) (hf : cells ≤ R.cells ∧ slots ≤ R.slots) (hdg : decode cc pc = .ok (.invokevirtual 173, 3)) (kk : ∀ (H : Heap) (locs : List Loc), va_P (gD G) vwCl (mW G Q w1.1) H → va_D A (mW G Q w1.1) → va_S A s.heap H locs → W p l e R s m args below meth c H locs cells slots Q' (F0 m (pc + 3) ls [])) : W p l e R s m args below meth c H locs cells slots Q' (F0 m pc ls [.ref mo]) := by
  subst hmo
  obtain ⟨Q2, hQ2, hA2⟩ : ∃ Q2 : Nat → Nat, (∀ u, mW G Q u = mW G Q2 u) ∧ (∀ q, mA Q2 H.size q → A q) ∧ Q2 72 = Q 72 := by
    refine ⟨fun k => if [0, 1, 5, 6, 7, 8, 9, 10, 11, 12, 13, 14, 15, 16, 17, 18, 19, 20, 21, 22, 23, 24, 25, 26, 32, 33, 34, 35, 36, 37, 38, 39, 40, 52, 54, 56, 57, 58, 59, 60, 61, 62, 63, 64, 65, 66, 67, 68, 70, 71, 72].contains k then Q k else Q 72, fun u => rfl, ?_, rfl⟩
    intro q hq
    rcases hq with ⟨k, -, -, hk⟩ | hq
    · by_cases hc : [0, 1, 5, 6, 7, 8, 9, 10, 11, 12, 13, 14, 15, 16, 17, 18, 19, 20, 21, 22, 23, 24, 25, 26, 32, 33, 34, 35, 36, 37, 38, 39, 40, 52, 54, 56, 57, 58, 59, 60, 61, 62, 63, 64, 65, 66, 67, 68, 70, 71, 72].contains k = true
      · have hk2 : q = Q k := by rw [hk]; show (if [0, 1, 5, 6, 7, 8, 9, 10, 11, 12, 13, 14, 15, 16, 17, 18, 19, 20, 21, 22, 23, 24, 25, 26, 32, 33, 34, 35, 36, 37, 38, 39, 40, 52, 54, 56, 57, 58, 59, 60, 61, 62, 63, 64, 65, 66, 67, 68, 70, 71, 72].contains k then Q k else Q 72) = Q k; rw [if_pos hc]
        rw [hk2]
        have hm : k ∈ [0, 1, 5, 6, 7, 8, 9, 10, 11, 12, 13, 14, 15, 16, 17, 18, 19, 20, 21, 22, 23, 24, 25, 26, 32, 33, 34, 35, 36, 37, 38, 39, 40, 52, 54, 56, 57, 58, 59, 60, 61, 62, 63, 64, 65, 66, 67, 68, 70, 71, 72] := List.contains_iff_mem.mp hc
        have : ∀ k ∈ [0, 1, 5, 6, 7, 8, 9, 10, 11, 12, 13, 14, 15, 16, 17, 18, 19, 20, 21, 22, 23, 24, 25, 26, 32, 33, 34, 35, 36, 37, 38, 39, 40, 52, 54, 56, 57, 58, 59, 60, 61, 62, 63, 64, 65, 66, 67, 68, 70, 71, 72], A (Q k) := by
          intro k hk3
          simp only [List.mem_cons, List.not_mem_nil, or_false] at hk3
          rcases hk3 with rfl | rfl | rfl | rfl | rfl | rfl | rfl | rfl | rfl | rfl | rfl | rfl | rfl | rfl | rfl | rfl | rfl | rfl | rfl | rfl | rfl | rfl | rfl | rfl | rfl | rfl | rfl | rfl | rfl | rfl | rfl | rfl | rfl | rfl | rfl | rfl | rfl | rfl | rfl | rfl | rfl | rfl | rfl | rfl | rfl | rfl | rfl | rfl | rfl | rfl | rfl
          · exact hD.2 1 _ rfl
          · exact hD.2 2 _ rfl
          · exact hD.2 3 _ rfl
          · exact hD.2 4 _ rfl
          · exact hD.2 5 _ rfl
          · exact hD.2 6 _ rfl
          · exact hD.2 7 _ rfl
          · exact hD.2 8 _ rfl
          · exact hD.2 9 _ rfl
          · exact hD.2 10 _ rfl
          · exact hD.2 11 _ rfl
          · exact hD.2 12 _ rfl
          · exact hD.2 13 _ rfl
          · exact hD.2 14 _ rfl
          · exact hD.2 15 _ rfl
          · exact hD.2 16 _ rfl
          · exact hD.2 17 _ rfl
          · exact hD.2 18 _ rfl
          · exact hD.2 19 _ rfl
          · exact hD.2 20 _ rfl
          · exact hD.2 21 _ rfl
          · exact hD.2 22 _ rfl
          · exact hD.2 23 _ rfl
          · exact hD.2 24 _ rfl
          · exact hD.2 25 _ rfl
          · exact hD.2 26 _ rfl
          · exact hD.2 27 _ rfl
          · exact hD.2 28 _ rfl
          · exact hD.2 29 _ rfl
          · exact hD.2 30 _ rfl
          · exact hD.2 31 _ rfl
          · exact hD.2 50 _ rfl
          · exact hD.2 32 _ rfl
          · exact hD.2 33 _ rfl
          · exact hD.2 34 _ rfl
          · exact hD.2 35 _ rfl
          · exact hD.2 36 _ rfl
          · exact hD.2 37 _ rfl
          · exact hD.2 38 _ rfl
          · exact hD.2 39 _ rfl
          · exact hD.2 40 _ rfl
          · exact hD.2 41 _ rfl
          · exact hD.2 42 _ rfl
          · exact hD.2 43 _ rfl
          · exact hD.2 44 _ rfl
          · exact hD.2 45 _ rfl
          · exact hD.2 46 _ rfl
          · exact hD.2 47 _ rfl
          · exact hD.2 48 _ rfl
          · exact hD.2 49 _ rfl
          · exact hD.2 0 _ rfl
        exact this k hm
      · have hk2 : q = Q 72 := by rw [hk]; show (if [0, 1, 5, 6, 7, 8, 9, 10, 11, 12, 13, 14, 15, 16, 17, 18, 19, 20, 21, 22, 23, 24, 25, 26, 32, 33, 34, 35, 36, 37, 38, 39, 40, 52, 54, 56, 57, 58, 59, 60, 61, 62, 63, 64, 65, 66, 67, 68, 70, 71, 72].contains k then Q k else Q 72) = Q 72; rw [if_neg hc]
        rw [hk2]
        exact hD.2 0 _ rfl
    · exact hA q (Nat.le_trans hS.1 hq)
  have hle := hA2.1
  rw [hQ2] at hP hD
  have hq72 := hA2.2
  have hDm : va_D (mA Q2 H.size) (mW G Q2 iu0.1) := by
    refine ⟨hD.1, fun k q hk => ?_⟩
    match k, hk with
    | 0, hk => cases Option.some.inj hk; exact Or.inl ⟨72, by decide, by decide, rfl⟩
    | 1, hk => cases Option.some.inj hk; exact Or.inl ⟨0, by decide, by decide, rfl⟩
    | 2, hk => cases Option.some.inj hk; exact Or.inl ⟨1, by decide, by decide, rfl⟩
    | 3, hk => cases Option.some.inj hk; exact Or.inl ⟨5, by decide, by decide, rfl⟩
    | 4, hk => cases Option.some.inj hk; exact Or.inl ⟨6, by decide, by decide, rfl⟩
    | 5, hk => cases Option.some.inj hk; exact Or.inl ⟨7, by decide, by decide, rfl⟩
    | 6, hk => cases Option.some.inj hk; exact Or.inl ⟨8, by decide, by decide, rfl⟩
    | 7, hk => cases Option.some.inj hk; exact Or.inl ⟨9, by decide, by decide, rfl⟩
    | 8, hk => cases Option.some.inj hk; exact Or.inl ⟨10, by decide, by decide, rfl⟩
    | 9, hk => cases Option.some.inj hk; exact Or.inl ⟨11, by decide, by decide, rfl⟩
    | 10, hk => cases Option.some.inj hk; exact Or.inl ⟨12, by decide, by decide, rfl⟩
    | 11, hk => cases Option.some.inj hk; exact Or.inl ⟨13, by decide, by decide, rfl⟩
    | 12, hk => cases Option.some.inj hk; exact Or.inl ⟨14, by decide, by decide, rfl⟩
    | 13, hk => cases Option.some.inj hk; exact Or.inl ⟨15, by decide, by decide, rfl⟩
    | 14, hk => cases Option.some.inj hk; exact Or.inl ⟨16, by decide, by decide, rfl⟩
    | 15, hk => cases Option.some.inj hk; exact Or.inl ⟨17, by decide, by decide, rfl⟩
    | 16, hk => cases Option.some.inj hk; exact Or.inl ⟨18, by decide, by decide, rfl⟩
    | 17, hk => cases Option.some.inj hk; exact Or.inl ⟨19, by decide, by decide, rfl⟩
    | 18, hk => cases Option.some.inj hk; exact Or.inl ⟨20, by decide, by decide, rfl⟩
    | 19, hk => cases Option.some.inj hk; exact Or.inl ⟨21, by decide, by decide, rfl⟩
    | 20, hk => cases Option.some.inj hk; exact Or.inl ⟨22, by decide, by decide, rfl⟩
    | 21, hk => cases Option.some.inj hk; exact Or.inl ⟨23, by decide, by decide, rfl⟩
    | 22, hk => cases Option.some.inj hk; exact Or.inl ⟨24, by decide, by decide, rfl⟩
    | 23, hk => cases Option.some.inj hk; exact Or.inl ⟨25, by decide, by decide, rfl⟩
    | 24, hk => cases Option.some.inj hk; exact Or.inl ⟨26, by decide, by decide, rfl⟩
    | 25, hk => cases Option.some.inj hk; exact Or.inl ⟨32, by decide, by decide, rfl⟩
    | 26, hk => cases Option.some.inj hk; exact Or.inl ⟨33, by decide, by decide, rfl⟩
    | 27, hk => cases Option.some.inj hk; exact Or.inl ⟨34, by decide, by decide, rfl⟩
    | 28, hk => cases Option.some.inj hk; exact Or.inl ⟨35, by decide, by decide, rfl⟩
    | 29, hk => cases Option.some.inj hk; exact Or.inl ⟨36, by decide, by decide, rfl⟩
    | 30, hk => cases Option.some.inj hk; exact Or.inl ⟨37, by decide, by decide, rfl⟩
    | 31, hk => cases Option.some.inj hk; exact Or.inl ⟨38, by decide, by decide, rfl⟩
    | 32, hk => cases Option.some.inj hk; exact Or.inl ⟨40, by decide, by decide, rfl⟩
    | 33, hk => cases Option.some.inj hk; exact Or.inl ⟨52, by decide, by decide, rfl⟩
    | 34, hk => cases Option.some.inj hk; exact Or.inl ⟨54, by decide, by decide, rfl⟩
    | 35, hk => cases Option.some.inj hk; exact Or.inl ⟨56, by decide, by decide, rfl⟩
    | 36, hk => cases Option.some.inj hk; exact Or.inl ⟨57, by decide, by decide, rfl⟩
    | 37, hk => cases Option.some.inj hk; exact Or.inl ⟨58, by decide, by decide, rfl⟩
    | 38, hk => cases Option.some.inj hk; exact Or.inl ⟨59, by decide, by decide, rfl⟩
    | 39, hk => cases Option.some.inj hk; exact Or.inl ⟨60, by decide, by decide, rfl⟩
    | 40, hk => cases Option.some.inj hk; exact Or.inl ⟨61, by decide, by decide, rfl⟩
    | 41, hk => cases Option.some.inj hk; exact Or.inl ⟨62, by decide, by decide, rfl⟩
    | 42, hk => cases Option.some.inj hk; exact Or.inl ⟨63, by decide, by decide, rfl⟩
    | 43, hk => cases Option.some.inj hk; exact Or.inl ⟨64, by decide, by decide, rfl⟩
    | 44, hk => cases Option.some.inj hk; exact Or.inl ⟨65, by decide, by decide, rfl⟩
    | 45, hk => cases Option.some.inj hk; exact Or.inl ⟨66, by decide, by decide, rfl⟩
    | 46, hk => cases Option.some.inj hk; exact Or.inl ⟨67, by decide, by decide, rfl⟩
    | 47, hk => cases Option.some.inj hk; exact Or.inl ⟨68, by decide, by decide, rfl⟩
    | 48, hk => cases Option.some.inj hk; exact Or.inl ⟨70, by decide, by decide, rfl⟩
    | 49, hk => cases Option.some.inj hk; exact Or.inl ⟨71, by decide, by decide, rfl⟩
    | 50, hk => cases Option.some.inj hk; exact Or.inl ⟨39, by decide, by decide, rfl⟩
    | k + 51, hk => cases hk
  rw [← hq72]
  refine va_callv (va_runV (As := []) (rest := []) (C := RX13) (b := Q2 72) (mc := 0) (ms := 0) ⟨hx, hb, hml, hown, hts⟩ (m_anew l G Zs Q2 iu0 w1 r H.size hF) (cwV 0 hts (gdV kwX13_anew.2.1 kwX13_anew.2.2.1 kwX13_anew.2.2.2 wma375 (mgood kwX13_anew.1)) rfl rfl rfl kVX13_anew hR) ⟨mPM.blind, va_recv hB.1 hP (ci := 14) (q0 := 0) rfl rfl, fun U hU hW => ⟨rfl, by rw [hU], by rw [hU]; exact hP, hB.moved hW, hDm, by rw [hU]; exact ((hZ.kept hS.2.1).narrow hle).moved hW⟩⟩ rfl rfl hls rfl (lv_room (Nat.le_of_ble_eq_true rfl)) hdg hf) hS (fun q _ h => hle q h) hle (fun u2 t H1 locs1 ht hvm hw hB1 hz1 hk1 hS => ?_)
  obtain ⟨b1, b2⟩ := hB1
  rw [ht] at b1
  exact kk H1 locs1 (by rw [hQ2]; exact b1) (by rw [hQ2]; exact b2.weaken (fun _ _ _ h => hle _ h)) hS
end KA
