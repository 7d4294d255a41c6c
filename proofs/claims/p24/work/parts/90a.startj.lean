section ST
variable {p : Program} {l : Launch} {e : Env} {s : State} {m : MethodId} {b : Nat} {below : List Frame} {meth : Method} {c : Code} {H : Heap} {locs : List Loc} {Q' : State → Prop} {ls : Array Slot} {G : gG} {Z : gC} {mi L : Nat} {xs : Nat → Int32} {A : Nat → Prop}
set_option maxHeartbeats 4000000 in
set_option maxRecDepth 100000 in
theorem st_jh (hX : lX p c s m b A G Z mi L xs) (hl : lv_has ls 4 [(0, .ref b)]) (kk : ∀ (Q : Nat → Nat) (D : Nat × Nat) (T1 : va_W) (P : gLw) (H : Heap) (locs : List Loc) (ls : Array Slot), P.2.2 = L0c → toldC G Q T1 P [] none → va_P (gD G) vwCl (cW G Q D (tlC Z Q 0 0 none ++ T1) u0c) H → va_D A (cW G Q D (tlC Z Q 0 0 none ++ T1) u0c) → va_S A s.heap H locs → lv_has ls 4 [(1, .ref (Q 0)), (0, .ref b)] → W p l e room_1 s m #[Value.ref b] below meth c H locs (0 + 1 + 77) (0 + 11 + 9519) Q' (F0 m 8 ls [])) : W p l e room_1 s m #[Value.ref b] below meth c s.heap [] 0 0 Q' (F0 m 0 ls []) := by
  obtain ⟨hx, hb, hml, hown, hts, hB, hE, hLE, hA, hXx, hbl, hbA⟩ := id hX
  have hK := hB.1
  have hS : va_S A s.heap s.heap [] := va_S.rf
  have hP : va_P (gD G) vwCl [] s.heap := fun k q h => by simp at h
  have hD : va_D A [] := ⟨fun i j p q h => by simp at h, fun k q h => by simp at h⟩
  refine va_new (D := gD G) (ci := 12) (fs := [.null, .null, .null, .null, .null, .null, .null, .null, .null, .null, .null]) (C := RX11) (T := TX11) (N := 11) hx hb hts in_wsX110 tyX11 tyX11_ok hown (hts (.classLink RL 7 RX11) (List.mem_of_getElem? (i := 183) (by decide +kernel))) (hts (.instantiable RX11 11) (List.mem_of_getElem? (i := 184) (by decide +kernel))) (hts (.initialized RX11) (List.mem_of_getElem? (i := 154) (by decide +kernel))) hK hP hD hS hA rfl dvX11 (Nat.le_of_ble_eq_true rfl) (Nat.le_of_ble_eq_true rfl) dL_law_0 (fun za H hP hD hS => ?_)
  have hP : va_P (gD G) vwCl [(za, .inr (12, [.null, .null, .null, .null, .null, .null, .null, .null, .null, .null, .null]))] H := hP
  have hD : va_D A [(za, .inr (12, [.null, .null, .null, .null, .null, .null, .null, .null, .null, .null, .null]))] := hD
  refine lv_dup hx hb dL_law_3 rfl ?_
  have hFc : ∀ q, va_A [(za, .inr (12, [.null, .null, .null, .null, .null, .null, .null, .null, .null, .null, .null]))] H.size q → A q := wc_F (wr := []) (by rw [List.append_nil]; exact hD) (fun q h => hA q (Nat.le_trans hS.1 h))
  refine va_callv (va_runI (As := []) (rest := [.ref za]) ⟨hx, hb, hml, hown, hts⟩ (k_JudoHall_init l G Z.2 za H.size) (cwI 0 hts (fun w9 h9 => ⟨(in_k_JudoHall_init _ h9), gd_k_JudoHall_init w9 h9⟩) rfl rfl rfl (hts (.initialized RX11) (List.mem_of_getElem? (i := 154) (by decide +kernel))) (hts (.methodLink RL 9 yX11_init) (List.mem_of_getElem? (i := 185) (by decide +kernel))) (hts (.instanceMethod yX11_init) (List.mem_of_getElem? (i := 186) (by decide +kernel))) rfl kSX11_init ⟨Nat.le_of_ble_eq_true rfl, Nat.le_of_ble_eq_true rfl⟩) (preS_e (As := [.ref za]) hP hB hD ((hE.2.1.kept hS.2.1).narrow hFc)) rfl rfl hl.1 rfl (lv_room (Nat.le_of_ble_eq_true rfl)) dL_law_4 ⟨Nat.le_of_ble_eq_true rfl, Nat.le_of_ble_eq_true rfl⟩) hS (fun q _ h => hFc q h) hFc (fun u t H1 locs ht hvm hw hB1 hz1 hk1 hS => ?_)
  obtain ⟨bk, tp, ps, rl, dw, bd, fr, pd, pn, nl, td, ca, bc, bb, bs, bc2, bb2, bs2, ty, ty2, sn1, sn3, sw1, dr, sn2, sn4, sw2, dhc, dhe, dho, dac, dae, dao, dr1, do1, dr2, do2, b1, b3, b5, b7, b9, b2, b4, b6, b8, ba, f1, f2, mw1, ms1, mw2, ms2, p1, p3, p5, p7, p9, q1, q3, q5, q7, p2, p4, p6, p8, pa, q2, q4, q6, q8, lhc, lhe, lho, lac, lae, lao, hP1, hD1⟩ := hB1
  rw [ht] at hP1
  have hP1 : va_P (gD G) vwCl (jhW G Z za bk tp ps rl dw bd fr pd pn nl td ca bc bb bs bc2 bb2 bs2 ty ty2 sn1 sn3 sw1 dr sn2 sn4 sw2 dhc dhe dho dac dae dao dr1 do1 dr2 do2 b1 b3 b5 b7 b9 b2 b4 b6 b8 ba f1 f2 mw1 ms1 mw2 ms2 p1 p3 p5 p7 p9 q1 q3 q5 q7 p2 p4 p6 p8 pa q2 q4 q6 q8 lhc lhe lho lac lae lao) H1 := hP1
  have hD1 : va_D A (jhW G Z za bk tp ps rl dw bd fr pd pn nl td ca bc bb bs bc2 bb2 bs2 ty ty2 sn1 sn3 sw1 dr sn2 sn4 sw2 dhc dhe dho dac dae dao dr1 do1 dr2 do2 b1 b3 b5 b7 b9 b2 b4 b6 b8 ba f1 f2 mw1 ms1 mw2 ms2 p1 p3 p5 p7 p9 q1 q3 q5 q7 p2 p4 p6 p8 pa q2 q4 q6 q8 lhc lhe lho lac lae lao) := hD1.weaken (fun _ q _ h => hFc q.1 h)
  clear hP hD
  obtain ⟨Q, D, T1, P, q0, hP0, hT, hPw, hDw⟩ := jh_world hP1 hD1
  clear hP1 hD1 hz1 hk1 hFc
  subst q0
  refine W.eq (g2 := F0 m 7 ls [.ref (Q 0)]) rfl ?_
  refine lv_astore_n (lv' := [(1, .ref (Q 0)), (0, .ref b)]) hx hb dL_law_7 rfl hl (by decide) rfl (fun ls hl => ?_)
  exact kk Q D T1 P H1 locs ls hP0 hT hPw hDw hS hl
end ST
