section
/-! ===== base: the constants of a walk (G: class numbers, slots, the three array classes), bundles, pre rows ===== -/
abbrev gG : Type := (Nat → ClassId) × (Nat → Nat → Nat) × ClassId × ClassId × ClassId
abbrev gD (G : gG) : va_G := (G.1, G.2.1)
abbrev gI (G : gG) : ClassId := G.2.2.1
abbrev gB (G : gG) : ClassId := G.2.2.2.1
abbrev gZ (G : gG) : ClassId := G.2.2.2.2
abbrev gT (G : gG) : List (ClassId × FieldType) := [(gI G, .int), (gB G, .byte), (gZ G, .boolean)]
def nestF : List (String × Nat × String × String × String × String) := [("JudoHall", 92, "JudoHall$Tape", "length", "I", "JudoHall"), ("JudoHall", 125, "JudoHall$Laws", "lines", "I", "JudoHall"), ("JudoHall", 128, "JudoHall$Parser", "fault", "I", "JudoHall"), ("JudoHall", 131, "JudoHall$Parser", "place", "I", "JudoHall"), ("JudoHall", 249, "JudoHall$Laws", "time", "I", "JudoHall"), ("JudoHall", 263, "JudoHall$Laws", "signs", "I", "JudoHall"), ("JudoHall", 314, "JudoHall$Book", "entries", "I", "JudoHall"), ("JudoHall", 320, "JudoHall$Laws", "parts", "I", "JudoHall"), ("JudoHall$Floor", 68, "JudoHall$Laws", "golden", "I", "JudoHall"), ("JudoHall$Floor", 80, "JudoHall$Laws", "lines", "I", "JudoHall"), ("JudoHall$Floor", 87, "JudoHall$Laws", "points", "LJudoHall$Row;", "JudoHall"), ("JudoHall$Floor", 103, "JudoHall$Laws", "ends", "LJudoHall$Row;", "JudoHall"), ("JudoHall$Parser", 67, "JudoHall$Tape", "kind", "I", "JudoHall"), ("JudoHall$Parser", 74, "JudoHall$Tape", "from", "I", "JudoHall"), ("JudoHall$Parser", 121, "JudoHall$Tape", "value", "I", "JudoHall"), ("JudoHall$Parser", 124, "JudoHall$Laws", "time", "I", "JudoHall"), ("JudoHall$Parser", 127, "JudoHall$Laws", "golden", "I", "JudoHall"), ("JudoHall$Parser", 130, "JudoHall$Laws", "signs", "I", "JudoHall"), ("JudoHall$Parser", 136, "JudoHall$Laws", "points", "LJudoHall$Row;", "JudoHall"), ("JudoHall$Parser", 139, "JudoHall$Laws", "lines", "I", "JudoHall"), ("JudoHall$Parser", 175, "JudoHall$Laws", "parts", "I", "JudoHall")]
def nestM : List (String × Nat × MethodName × String) := [("JudoHall$Board", 55, yX11_isClass, "JudoHall")]
def KN (U : State) : Prop := (∀ q ∈ nestF, va_Nw (.fieldLinkNest q.1 q.2.1 q.2.2.1 q.2.2.2.1 q.2.2.2.2.1 q.2.2.2.2.2) U) ∧ ∀ q ∈ nestM, va_Nw (.methodLinkNest q.1 q.2.1 q.2.2.1 q.2.2.2) U
def KB (G : gG) (U : State) : Prop := va_K (gD G) vwCl (gT G) U ∧ KN U
theorem KB.moved {G : gG} {s U : State} (hW : s.WarmedH U.vm) (h : KB G s) : KB G U := ⟨va_K.moved hW.alike h.1, fun q hq => va_Nw.warmF hW (h.2.1 q hq), fun q hq => va_Nw.warmM hW (h.2.2 q hq)⟩
theorem KB.calling {G : gG} {U : State} (g : JFrame) (mk : MethodId) (a : Array Value) (h : KB G U) : KB G (U.calling g mk a) := h.moved (s := U) (U := U.calling g mk a) (State.WarmedH.refl U)
theorem KB.nf {G : gG} {s : State} {args : Array Value} (h : KB G s) (i : Nat) {a : String} {j : Nat} {b n d w : String} (hi : nestF[i]? = some (a, j, b, n, d, w)) : (Cond.fieldLinkNest a j b n d w).before args s = true := va_Nw.use rfl (h.2.1 (a, j, b, n, d, w) (List.mem_of_getElem? hi))
theorem KB.nmt {G : gG} {s : State} (h : KB G s) (i : Nat) {a : String} {j : Nat} {y : MethodName} {w : String} (hi : nestM[i]? = some (a, j, y, w)) : va_Nw (.methodLinkNest a j y w) s := h.2.2 (a, j, y, w) (List.mem_of_getElem? hi)
def pP (G : gG) (ws : va_W) (U : State) : Prop := va_P (gD G) vwCl ws U.heap ∧ KB G U
def mP (G : gG) (ws : va_W) (sz : Nat) (U : State) : Prop := U.heap.size = sz ∧ va_P (gD G) vwCl ws U.heap ∧ KB G U ∧ va_D (fun _ => True) ws
theorem pP.blind {G : gG} {ws : va_W} {av : List Value} : FrameBlind (va_Pc av (pP G ws)) := fun _ _ g mk q => ⟨q.1, q.2.1, q.2.2.calling g mk _⟩
theorem mP.blind {G : gG} {ws : va_W} {sz : Nat} {av : List Value} : FrameBlind (va_Pc av (mP G ws sz)) := fun _ _ g mk q => ⟨q.1, q.2.1, q.2.2.1, q.2.2.2.1.calling g mk _, q.2.2.2.2⟩
theorem preV_p {G : gG} {s : State} {H : Heap} {b ci : Nat} {As : List Value} {ws : va_W} {fs : List Value} {q : vw_C} (hP : va_P (gD G) vwCl ws H) (hB : KB G s) (he : ws[0]? = some (b, .inr (ci, fs))) (hc : vwCl[ci]? = some q) : PreV s H q.1 b (va_Pc (Value.ref b :: As) (pP G ws)) As :=
  ⟨pP.blind, va_recv hB.1 hP hc he, fun U hU hW => ⟨rfl, by rw [hU]; exact hP, hB.moved hW⟩⟩
theorem preS_p {G : gG} {s : State} {H : Heap} {As : List Value} {ws : va_W} (hP : va_P (gD G) vwCl ws H) (hB : KB G s) : PreS s H (va_Pc As (pP G ws)) As :=
  ⟨pP.blind, fun U hU hW => ⟨rfl, by rw [hU]; exact hP, hB.moved hW⟩⟩
theorem preV_m {G : gG} {s : State} {H : Heap} {b ci : Nat} {As : List Value} {ws : va_W} {fs : List Value} {q : vw_C} {A : Nat → Prop} (hP : va_P (gD G) vwCl ws H) (hB : KB G s) (hD : va_D A ws) (he : ws[0]? = some (b, .inr (ci, fs))) (hc : vwCl[ci]? = some q) : PreV s H q.1 b (va_Pc (Value.ref b :: As) (mP G ws H.size)) As :=
  ⟨mP.blind, va_recv hB.1 hP hc he, fun U hU hW => ⟨rfl, by rw [hU], by rw [hU]; exact hP, hB.moved hW, hD.weaken (fun _ _ _ _ => trivial)⟩⟩
theorem preS_m {G : gG} {s : State} {H : Heap} {As : List Value} {ws : va_W} {A : Nat → Prop} (hP : va_P (gD G) vwCl ws H) (hB : KB G s) (hD : va_D A ws) : PreS s H (va_Pc As (mP G ws H.size)) As :=
  ⟨mP.blind, fun U hU hW => ⟨rfl, by rw [hU], by rw [hU]; exact hP, hB.moved hW, hD.weaken (fun _ _ _ _ => trivial)⟩⟩
theorem ky_I {G : gG} {c : ClassId} {s : State} (h : va_K (gD G) vwCl (gT G ++ [(c, .int)]) s) : c = gI G := by
  have h1 : s.vm.findClass ("[" ++ FieldType.int.toString) = some c := (h.2 3 (c, .int) rfl).2
  have h2 : s.vm.findClass ("[" ++ FieldType.int.toString) = some (gI G) := (h.2 0 (gI G, .int) rfl).2
  exact Option.some.inj (h1.symm.trans h2)
theorem ky_B {G : gG} {c : ClassId} {s : State} (h : va_K (gD G) vwCl (gT G ++ [(c, .byte)]) s) : c = gB G := by
  have h1 : s.vm.findClass ("[" ++ FieldType.byte.toString) = some c := (h.2 3 (c, .byte) rfl).2
  have h2 : s.vm.findClass ("[" ++ FieldType.byte.toString) = some (gB G) := (h.2 1 (gB G, .byte) rfl).2
  exact Option.some.inj (h1.symm.trans h2)
theorem ky_Z {G : gG} {c : ClassId} {s : State} (h : va_K (gD G) vwCl (gT G ++ [(c, .boolean)]) s) : c = gZ G := by
  have h1 : s.vm.findClass ("[" ++ FieldType.boolean.toString) = some c := (h.2 3 (c, .boolean) rfl).2
  have h2 : s.vm.findClass ("[" ++ FieldType.boolean.toString) = some (gZ G) := (h.2 2 (gZ G, .boolean) rfl).2
  exact Option.some.inj (h1.symm.trans h2)
section GX
variable {p : Program} {l : Launch} {e : Env} {R : Room} {s : State} {m : MethodId} {args : Array Value} {below : List Frame} {meth : Method} {c : Code} {H : Heap} {locs : List Loc} {cells slots : Nat} {Q : State → Prop} {pc : Nat} {ls : Array Slot} {rest : List Value}
theorem gx_ti {x y : Int32} (h : x = y) (k : W p l e R s m args below meth c H locs cells slots Q (F0 m pc ls (.int y :: rest))) : W p l e R s m args below meth c H locs cells slots Q (F0 m pc ls (.int x :: rest)) := h ▸ k
end GX
def Gd (w : Cond) : Prop := (w.onTables && w.keeps) = true ∨ ∃ ty, w = .arrayClass ty
theorem gdl (l : List Cond) (h : l.all goodWord = true) : ∀ w ∈ l, Gd w := fun w hw => good_of_word (List.all_eq_true.mp h w hw)
theorem inT (ws : List Cond) (ps : List Nat) (hp : ws = ps.filterMap (fun i => lw_tbl[i]?)) : ∀ w ∈ ws, w ∈ lw_tbl := by
  intro w hw
  rw [hp] at hw
  obtain ⟨i, -, hi⟩ := List.mem_filterMap.mp hw
  exact List.mem_of_getElem? hi
theorem gdV {big ws : List Cond} {own C : String} {idx : Nat} {y : MethodName} (h1 : Cond.methodLink own idx y ∈ big) (h2 : Cond.instanceMethod y ∈ big) (h3 : Cond.selects C y y ∈ big) (h4 : Cond.initialized C ∈ big) (h : GoodIn big ws) : GoodIn big (wsV own idx C y ws) := by
  intro w hw
  unfold wsV at hw
  rcases List.mem_append.mp hw with hw | hw
  · simp only [List.mem_cons, List.not_mem_nil, or_false] at hw
    rcases hw with rfl | rfl | rfl | rfl
    · exact ⟨h1, Or.inl rfl⟩
    · exact ⟨h2, Or.inl rfl⟩
    · exact ⟨h3, Or.inl rfl⟩
    · exact ⟨h4, Or.inl rfl⟩
  · exact h w hw
theorem gdS {big ws : List Cond} {own : String} {idx : Nat} {y : MethodName} (h1 : Cond.methodLink own idx y ∈ big) (h2 : Cond.static y ∈ big) (h4 : Cond.initialized y.cls ∈ big) (h : GoodIn big ws) : GoodIn big (va_wsS own idx y ws) := by
  intro w hw
  unfold va_wsS at hw
  rcases List.mem_append.mp hw with hw | hw
  · simp only [List.mem_cons, List.not_mem_nil, or_false] at hw
    rcases hw with rfl | rfl | rfl
    · exact ⟨h1, Or.inl rfl⟩
    · exact ⟨h2, Or.inl rfl⟩
    · exact ⟨h4, Or.inl rfl⟩
  · exact h w hw
theorem gd_wsJx4a65c0 : ∀ w ∈ wsJx4a65c0, Gd w := gdl _ (by decide +kernel)
theorem in_wsJx4a65c0 : ∀ w ∈ wsJx4a65c0, w ∈ lw_tbl := inT2 _ [(2, 159), (2, 155), (2, 157)] (by decide +kernel)
theorem gd_wsX00 : ∀ w ∈ wsX00, Gd w := gdl _ (by decide +kernel)
theorem in_wsX00 : ∀ w ∈ wsX00, w ∈ lw_tbl := inT2 _ [(2, 28), (2, 30), (2, 32), (2, 34), (2, 36), (2, 38)] (by decide +kernel)
theorem gd_wsX10 : ∀ w ∈ wsX10, Gd w := gdl _ (by decide +kernel)
theorem in_wsX10 : ∀ w ∈ wsX10, w ∈ lw_tbl := inT2 _ [(1, 79), (1, 81), (1, 83), (1, 85), (1, 87), (1, 89)] (by decide +kernel)
theorem gd_wsX20 : ∀ w ∈ wsX20, Gd w := gdl _ (by decide +kernel)
theorem in_wsX20 : ∀ w ∈ wsX20, w ∈ lw_tbl := inT2 _ [(2, 7), (2, 9), (2, 11)] (by decide +kernel)
theorem gd_wsX30 : ∀ w ∈ wsX30, Gd w := gdl _ (by decide +kernel)
theorem in_wsX30 : ∀ w ∈ wsX30, w ∈ lw_tbl := inT2 _ [(2, 53), (2, 55), (2, 57), (2, 59)] (by decide +kernel)
theorem gd_wsX40 : ∀ w ∈ wsX40, Gd w := gdl _ (by decide +kernel)
theorem in_wsX40 : ∀ w ∈ wsX40, w ∈ lw_tbl := inT2 _ [(1, 162), (1, 164), (1, 166), (1, 168), (1, 170), (1, 172), (1, 174), (1, 176), (1, 178)] (by decide +kernel)
theorem gd_wsX50 : ∀ w ∈ wsX50, Gd w := gdl _ (by decide +kernel)
theorem in_wsX50 : ∀ w ∈ wsX50, w ∈ lw_tbl := inT2 _ [(1, 197), (1, 199), (1, 201), (1, 203), (1, 205), (1, 207), (1, 209), (1, 211), (1, 213), (1, 215), (1, 217), (1, 219), (1, 221), (1, 223)] (by decide +kernel)
theorem gd_wsX60 : ∀ w ∈ wsX60, Gd w := gdl _ (by decide +kernel)
theorem in_wsX60 : ∀ w ∈ wsX60, w ∈ lw_tbl := inT2 _ [(2, 105), (2, 107), (2, 109), (2, 111), (2, 113), (2, 115), (2, 117), (2, 119), (2, 121), (2, 123), (2, 125), (2, 127), (2, 129), (2, 131)] (by decide +kernel)
theorem gd_wsX70 : ∀ w ∈ wsX70, Gd w := gdl _ (by decide +kernel)
theorem in_wsX70 : ∀ w ∈ wsX70, w ∈ lw_tbl := inT2 _ [(2, 74), (2, 76), (2, 78), (2, 80)] (by decide +kernel)
theorem gd_wsX80 : ∀ w ∈ wsX80, Gd w := gdl _ (by decide +kernel)
theorem in_wsX80 : ∀ w ∈ wsX80, w ∈ lw_tbl := inT2 _ [(1, 233)] (by decide +kernel)
theorem gd_wsX90 : ∀ w ∈ wsX90, Gd w := gdl _ (by decide +kernel)
theorem in_wsX90 : ∀ w ∈ wsX90, w ∈ lw_tbl := inT2 _ [(1, 57)] (by decide +kernel)
theorem gd_wsX100 : ∀ w ∈ wsX100, Gd w := gdl _ (by decide +kernel)
theorem in_wsX100 : ∀ w ∈ wsX100, w ∈ lw_tbl := inT2 _ [(1, 110), (1, 112), (1, 114), (1, 116), (1, 118), (1, 120)] (by decide +kernel)
theorem gd_wsX110 : ∀ w ∈ wsX110, Gd w := gdl _ (by decide +kernel)
theorem in_wsX110 : ∀ w ∈ wsX110, w ∈ lw_tbl := inT2 _ [(2, 173), (2, 175), (2, 177), (2, 179), (2, 181), (2, 183), (2, 185), (2, 187), (2, 189), (2, 191), (2, 193)] (by decide +kernel)
theorem gd_wsX120 : ∀ w ∈ wsX120, Gd w := gdl _ (by decide +kernel)
theorem in_wsX120 : ∀ w ∈ wsX120, w ∈ lw_tbl := inT2 _ [(6, 209), (6, 211), (6, 213), (6, 215), (6, 217), (7, 15)] (by decide +kernel)
theorem gd_wsX130 : ∀ w ∈ wsX130, Gd w := gdl _ (by decide +kernel)
theorem in_wsX130 : ∀ w ∈ wsX130, w ∈ lw_tbl := inT2 _ [(7, 97), (7, 99), (7, 101), (7, 103), (7, 105), (7, 107), (7, 109), (7, 111), (7, 113), (7, 115), (7, 117), (7, 119), (7, 121), (7, 123), (7, 125), (7, 127), (7, 129), (7, 131), (7, 133), (7, 135), (7, 137), (7, 139), (7, 141), (7, 143), (7, 145), (7, 147), (7, 149), (7, 151), (7, 153), (7, 155), (7, 157), (7, 159), (7, 161), (7, 163), (7, 165), (7, 167), (7, 169), (7, 171), (7, 173), (7, 175), (7, 177), (7, 179), (7, 181), (7, 183), (7, 185), (7, 187), (7, 189), (7, 191), (7, 193), (7, 195), (7, 197), (7, 199), (7, 201), (7, 203), (7, 205), (7, 207), (7, 209), (7, 211), (7, 213), (7, 215), (7, 217), (7, 219), (7, 221), (7, 223), (7, 225), (7, 227), (7, 229), (7, 231), (7, 233), (7, 235), (7, 237), (7, 239)] (by decide +kernel)
theorem dvJx4a65c : ∀ j, j < 3 → defaultValue (tyJx4a65c j) = vp_V [.int 0, .null, .int 0] j := fun j hj => by
  match j, hj with
  | 0, _ => rfl
  | 1, _ => rfl
  | 2, _ => rfl
  | j + 3, h => exact absurd h (by omega)
theorem dvX0 : ∀ j, j < 6 → defaultValue (tyX0 j) = vp_V [.null, .null, .null, .null, .null, .null] j := fun j hj => by
  match j, hj with
  | 0, _ => rfl
  | 1, _ => rfl
  | 2, _ => rfl
  | 3, _ => rfl
  | 4, _ => rfl
  | 5, _ => rfl
  | j + 6, h => exact absurd h (by omega)
theorem dvX1 : ∀ j, j < 6 → defaultValue (tyX1 j) = vp_V [.null, .null, .null, .null, .int 0, .int 0] j := fun j hj => by
  match j, hj with
  | 0, _ => rfl
  | 1, _ => rfl
  | 2, _ => rfl
  | 3, _ => rfl
  | 4, _ => rfl
  | 5, _ => rfl
  | j + 6, h => exact absurd h (by omega)
theorem dvX2 : ∀ j, j < 3 → defaultValue (tyX2 j) = vp_V [.null, .null, .null] j := fun j hj => by
  match j, hj with
  | 0, _ => rfl
  | 1, _ => rfl
  | 2, _ => rfl
  | j + 3, h => exact absurd h (by omega)
theorem dvX3 : ∀ j, j < 4 → defaultValue (tyX3 j) = vp_V [.null, .null, .null, .int 0] j := fun j hj => by
  match j, hj with
  | 0, _ => rfl
  | 1, _ => rfl
  | 2, _ => rfl
  | 3, _ => rfl
  | j + 4, h => exact absurd h (by omega)
theorem dvX4 : ∀ j, j < 9 → defaultValue (tyX4 j) = vp_V [.int 0, .int 0, .int 0, .int 0, .int 0, .int 0, .null, .null, .null] j := fun j hj => by
  match j, hj with
  | 0, _ => rfl
  | 1, _ => rfl
  | 2, _ => rfl
  | 3, _ => rfl
  | 4, _ => rfl
  | 5, _ => rfl
  | 6, _ => rfl
  | 7, _ => rfl
  | 8, _ => rfl
  | j + 9, h => exact absurd h (by omega)
theorem dvX5 : ∀ j, j < 14 → defaultValue (tyX5 j) = vp_V [.null, .null, .null, .null, .null, .int 0, .int 0, .int 0, .int 0, .int 0, .int 0, .int 0, .int 0, .int 0] j := fun j hj => by
  match j, hj with
  | 0, _ => rfl
  | 1, _ => rfl
  | 2, _ => rfl
  | 3, _ => rfl
  | 4, _ => rfl
  | 5, _ => rfl
  | 6, _ => rfl
  | 7, _ => rfl
  | 8, _ => rfl
  | 9, _ => rfl
  | 10, _ => rfl
  | 11, _ => rfl
  | 12, _ => rfl
  | 13, _ => rfl
  | j + 14, h => exact absurd h (by omega)
theorem dvX6 : ∀ j, j < 14 → defaultValue (tyX6 j) = vp_V [.null, .null, .null, .null, .null, .null, .null, .null, .null, .null, .null, .int 0, .int 0, .int 0] j := fun j hj => by
  match j, hj with
  | 0, _ => rfl
  | 1, _ => rfl
  | 2, _ => rfl
  | 3, _ => rfl
  | 4, _ => rfl
  | 5, _ => rfl
  | 6, _ => rfl
  | 7, _ => rfl
  | 8, _ => rfl
  | 9, _ => rfl
  | 10, _ => rfl
  | 11, _ => rfl
  | 12, _ => rfl
  | 13, _ => rfl
  | j + 14, h => exact absurd h (by omega)
theorem dvX7 : ∀ j, j < 4 → defaultValue (tyX7 j) = vp_V [.null, .null, .null, .null] j := fun j hj => by
  match j, hj with
  | 0, _ => rfl
  | 1, _ => rfl
  | 2, _ => rfl
  | 3, _ => rfl
  | j + 4, h => exact absurd h (by omega)
theorem dvX8 : ∀ j, j < 1 → defaultValue (tyX8 j) = vp_V [.null] j := fun j hj => by
  match j, hj with
  | 0, _ => rfl
  | j + 1, h => exact absurd h (by omega)
theorem dvX9 : ∀ j, j < 1 → defaultValue (tyX9 j) = vp_V [.null] j := fun j hj => by
  match j, hj with
  | 0, _ => rfl
  | j + 1, h => exact absurd h (by omega)
theorem dvX10 : ∀ j, j < 6 → defaultValue (tyX10 j) = vp_V [.null, .int 0, .int 0, .int 0, .int 0, .int 0] j := fun j hj => by
  match j, hj with
  | 0, _ => rfl
  | 1, _ => rfl
  | 2, _ => rfl
  | 3, _ => rfl
  | 4, _ => rfl
  | 5, _ => rfl
  | j + 6, h => exact absurd h (by omega)
theorem dvX11 : ∀ j, j < 11 → defaultValue (tyX11 j) = vp_V [.null, .null, .null, .null, .null, .null, .null, .null, .null, .null, .null] j := fun j hj => by
  match j, hj with
  | 0, _ => rfl
  | 1, _ => rfl
  | 2, _ => rfl
  | 3, _ => rfl
  | 4, _ => rfl
  | 5, _ => rfl
  | 6, _ => rfl
  | 7, _ => rfl
  | 8, _ => rfl
  | 9, _ => rfl
  | 10, _ => rfl
  | j + 11, h => exact absurd h (by omega)
theorem dvX12 : ∀ j, j < 6 → defaultValue (tyX12 j) = vp_V [.null, .null, .null, .null, .null, .int 0] j := fun j hj => by
  match j, hj with
  | 0, _ => rfl
  | 1, _ => rfl
  | 2, _ => rfl
  | 3, _ => rfl
  | 4, _ => rfl
  | 5, _ => rfl
  | j + 6, h => exact absurd h (by omega)
theorem dvX13 : ∀ j, j < 72 → defaultValue (tyX13 j) = vp_V [.null, .null, .int 0, .int 0, .int 0, .null, .null, .null, .null, .null, .null, .null, .null, .null, .null, .null, .null, .null, .null, .null, .null, .null, .null, .null, .null, .null, .null, .int 0, .int 0, .int 0, .int 0, .int 0, .null, .null, .null, .null, .null, .null, .null, .null, .null, .null, .int 0, .int 0, .int 0, .int 0, .int 0, .int 0, .int 0, .int 0, .int 0, .int 0, .null, .int 0, .null, .int 0, .null, .null, .null, .null, .null, .null, .null, .null, .null, .null, .null, .null, .null, .int 0, .null, .null] j := fun j hj => by
  match j, hj with
  | 0, _ => rfl
  | 1, _ => rfl
  | 2, _ => rfl
  | 3, _ => rfl
  | 4, _ => rfl
  | 5, _ => rfl
  | 6, _ => rfl
  | 7, _ => rfl
  | 8, _ => rfl
  | 9, _ => rfl
  | 10, _ => rfl
  | 11, _ => rfl
  | 12, _ => rfl
  | 13, _ => rfl
  | 14, _ => rfl
  | 15, _ => rfl
  | 16, _ => rfl
  | 17, _ => rfl
  | 18, _ => rfl
  | 19, _ => rfl
  | 20, _ => rfl
  | 21, _ => rfl
  | 22, _ => rfl
  | 23, _ => rfl
  | 24, _ => rfl
  | 25, _ => rfl
  | 26, _ => rfl
  | 27, _ => rfl
  | 28, _ => rfl
  | 29, _ => rfl
  | 30, _ => rfl
  | 31, _ => rfl
  | 32, _ => rfl
  | 33, _ => rfl
  | 34, _ => rfl
  | 35, _ => rfl
  | 36, _ => rfl
  | 37, _ => rfl
  | 38, _ => rfl
  | 39, _ => rfl
  | 40, _ => rfl
  | 41, _ => rfl
  | 42, _ => rfl
  | 43, _ => rfl
  | 44, _ => rfl
  | 45, _ => rfl
  | 46, _ => rfl
  | 47, _ => rfl
  | 48, _ => rfl
  | 49, _ => rfl
  | 50, _ => rfl
  | 51, _ => rfl
  | 52, _ => rfl
  | 53, _ => rfl
  | 54, _ => rfl
  | 55, _ => rfl
  | 56, _ => rfl
  | 57, _ => rfl
  | 58, _ => rfl
  | 59, _ => rfl
  | 60, _ => rfl
  | 61, _ => rfl
  | 62, _ => rfl
  | 63, _ => rfl
  | 64, _ => rfl
  | 65, _ => rfl
  | 66, _ => rfl
  | 67, _ => rfl
  | 68, _ => rfl
  | 69, _ => rfl
  | 70, _ => rfl
  | 71, _ => rfl
  | j + 72, h => exact absurd h (by omega)
theorem kSX0_init : yX0_init.cls ≠ "java/lang/invoke/MethodHandle" ∧ yX0_init.cls ≠ "java/lang/invoke/VarHandle" ∧ (parseMethodDescriptor yX0_init.desc).map (fun d => d.parameters.length) = some 1 := by decide +kernel
theorem kSX0_slot : yX0_slot.cls ≠ "java/lang/invoke/MethodHandle" ∧ yX0_slot.cls ≠ "java/lang/invoke/VarHandle" ∧ (parseMethodDescriptor yX0_slot.desc).map (fun d => d.parameters.length) = some 2 := by decide +kernel
theorem kSX0_kindOf : yX0_kindOf.cls ≠ "java/lang/invoke/MethodHandle" ∧ yX0_kindOf.cls ≠ "java/lang/invoke/VarHandle" ∧ (parseMethodDescriptor yX0_kindOf.desc).map (fun d => d.parameters.length) = some 1 := by decide +kernel
theorem kVX0_kindOf : yX0_kindOf.cls = RX0 ∧ yX0_kindOf.cls ≠ "java/lang/invoke/MethodHandle" ∧ yX0_kindOf.cls ≠ "java/lang/invoke/VarHandle" ∧ (parseMethodDescriptor yX0_kindOf.desc).map (fun d => d.parameters.length) = some 1 := ⟨rfl, kSX0_kindOf⟩
theorem kSX0_sizeOf : yX0_sizeOf.cls ≠ "java/lang/invoke/MethodHandle" ∧ yX0_sizeOf.cls ≠ "java/lang/invoke/VarHandle" ∧ (parseMethodDescriptor yX0_sizeOf.desc).map (fun d => d.parameters.length) = some 1 := by decide +kernel
theorem kVX0_sizeOf : yX0_sizeOf.cls = RX0 ∧ yX0_sizeOf.cls ≠ "java/lang/invoke/MethodHandle" ∧ yX0_sizeOf.cls ≠ "java/lang/invoke/VarHandle" ∧ (parseMethodDescriptor yX0_sizeOf.desc).map (fun d => d.parameters.length) = some 1 := ⟨rfl, kSX0_sizeOf⟩
theorem kSX0_isDrawn : yX0_isDrawn.cls ≠ "java/lang/invoke/MethodHandle" ∧ yX0_isDrawn.cls ≠ "java/lang/invoke/VarHandle" ∧ (parseMethodDescriptor yX0_isDrawn.desc).map (fun d => d.parameters.length) = some 1 := by decide +kernel
theorem kVX0_isDrawn : yX0_isDrawn.cls = RX0 ∧ yX0_isDrawn.cls ≠ "java/lang/invoke/MethodHandle" ∧ yX0_isDrawn.cls ≠ "java/lang/invoke/VarHandle" ∧ (parseMethodDescriptor yX0_isDrawn.desc).map (fun d => d.parameters.length) = some 1 := ⟨rfl, kSX0_isDrawn⟩
theorem kSX0_onPlace : yX0_onPlace.cls ≠ "java/lang/invoke/MethodHandle" ∧ yX0_onPlace.cls ≠ "java/lang/invoke/VarHandle" ∧ (parseMethodDescriptor yX0_onPlace.desc).map (fun d => d.parameters.length) = some 2 := by decide +kernel
theorem kVX0_onPlace : yX0_onPlace.cls = RX0 ∧ yX0_onPlace.cls ≠ "java/lang/invoke/MethodHandle" ∧ yX0_onPlace.cls ≠ "java/lang/invoke/VarHandle" ∧ (parseMethodDescriptor yX0_onPlace.desc).map (fun d => d.parameters.length) = some 2 := ⟨rfl, kSX0_onPlace⟩
theorem kSX0_fightsOf : yX0_fightsOf.cls ≠ "java/lang/invoke/MethodHandle" ∧ yX0_fightsOf.cls ≠ "java/lang/invoke/VarHandle" ∧ (parseMethodDescriptor yX0_fightsOf.desc).map (fun d => d.parameters.length) = some 1 := by decide +kernel
theorem kVX0_fightsOf : yX0_fightsOf.cls = RX0 ∧ yX0_fightsOf.cls ≠ "java/lang/invoke/MethodHandle" ∧ yX0_fightsOf.cls ≠ "java/lang/invoke/VarHandle" ∧ (parseMethodDescriptor yX0_fightsOf.desc).map (fun d => d.parameters.length) = some 1 := ⟨rfl, kSX0_fightsOf⟩
theorem kSX0_stepsOf : yX0_stepsOf.cls ≠ "java/lang/invoke/MethodHandle" ∧ yX0_stepsOf.cls ≠ "java/lang/invoke/VarHandle" ∧ (parseMethodDescriptor yX0_stepsOf.desc).map (fun d => d.parameters.length) = some 1 := by decide +kernel
theorem kSX0_has : yX0_has.cls ≠ "java/lang/invoke/MethodHandle" ∧ yX0_has.cls ≠ "java/lang/invoke/VarHandle" ∧ (parseMethodDescriptor yX0_has.desc).map (fun d => d.parameters.length) = some 2 := by decide +kernel
theorem kVX0_has : yX0_has.cls = RX0 ∧ yX0_has.cls ≠ "java/lang/invoke/MethodHandle" ∧ yX0_has.cls ≠ "java/lang/invoke/VarHandle" ∧ (parseMethodDescriptor yX0_has.desc).map (fun d => d.parameters.length) = some 2 := ⟨rfl, kSX0_has⟩
theorem kSX0_whiteOf : yX0_whiteOf.cls ≠ "java/lang/invoke/MethodHandle" ∧ yX0_whiteOf.cls ≠ "java/lang/invoke/VarHandle" ∧ (parseMethodDescriptor yX0_whiteOf.desc).map (fun d => d.parameters.length) = some 2 := by decide +kernel
theorem kVX0_whiteOf : yX0_whiteOf.cls = RX0 ∧ yX0_whiteOf.cls ≠ "java/lang/invoke/MethodHandle" ∧ yX0_whiteOf.cls ≠ "java/lang/invoke/VarHandle" ∧ (parseMethodDescriptor yX0_whiteOf.desc).map (fun d => d.parameters.length) = some 2 := ⟨rfl, kSX0_whiteOf⟩
theorem kSX0_blueOf : yX0_blueOf.cls ≠ "java/lang/invoke/MethodHandle" ∧ yX0_blueOf.cls ≠ "java/lang/invoke/VarHandle" ∧ (parseMethodDescriptor yX0_blueOf.desc).map (fun d => d.parameters.length) = some 2 := by decide +kernel
theorem kVX0_blueOf : yX0_blueOf.cls = RX0 ∧ yX0_blueOf.cls ≠ "java/lang/invoke/MethodHandle" ∧ yX0_blueOf.cls ≠ "java/lang/invoke/VarHandle" ∧ (parseMethodDescriptor yX0_blueOf.desc).map (fun d => d.parameters.length) = some 2 := ⟨rfl, kSX0_blueOf⟩
theorem kSX0_winnerOf : yX0_winnerOf.cls ≠ "java/lang/invoke/MethodHandle" ∧ yX0_winnerOf.cls ≠ "java/lang/invoke/VarHandle" ∧ (parseMethodDescriptor yX0_winnerOf.desc).map (fun d => d.parameters.length) = some 2 := by decide +kernel
theorem kVX0_winnerOf : yX0_winnerOf.cls = RX0 ∧ yX0_winnerOf.cls ≠ "java/lang/invoke/MethodHandle" ∧ yX0_winnerOf.cls ≠ "java/lang/invoke/VarHandle" ∧ (parseMethodDescriptor yX0_winnerOf.desc).map (fun d => d.parameters.length) = some 2 := ⟨rfl, kSX0_winnerOf⟩
theorem kSX0_stateOf : yX0_stateOf.cls ≠ "java/lang/invoke/MethodHandle" ∧ yX0_stateOf.cls ≠ "java/lang/invoke/VarHandle" ∧ (parseMethodDescriptor yX0_stateOf.desc).map (fun d => d.parameters.length) = some 2 := by decide +kernel
theorem kVX0_stateOf : yX0_stateOf.cls = RX0 ∧ yX0_stateOf.cls ≠ "java/lang/invoke/MethodHandle" ∧ yX0_stateOf.cls ≠ "java/lang/invoke/VarHandle" ∧ (parseMethodDescriptor yX0_stateOf.desc).map (fun d => d.parameters.length) = some 2 := ⟨rfl, kSX0_stateOf⟩
theorem kSX0_loserOf : yX0_loserOf.cls ≠ "java/lang/invoke/MethodHandle" ∧ yX0_loserOf.cls ≠ "java/lang/invoke/VarHandle" ∧ (parseMethodDescriptor yX0_loserOf.desc).map (fun d => d.parameters.length) = some 2 := by decide +kernel
theorem kVX0_loserOf : yX0_loserOf.cls = RX0 ∧ yX0_loserOf.cls ≠ "java/lang/invoke/MethodHandle" ∧ yX0_loserOf.cls ≠ "java/lang/invoke/VarHandle" ∧ (parseMethodDescriptor yX0_loserOf.desc).map (fun d => d.parameters.length) = some 2 := ⟨rfl, kSX0_loserOf⟩
theorem kSX0_howMany : yX0_howMany.cls ≠ "java/lang/invoke/MethodHandle" ∧ yX0_howMany.cls ≠ "java/lang/invoke/VarHandle" ∧ (parseMethodDescriptor yX0_howMany.desc).map (fun d => d.parameters.length) = some 2 := by decide +kernel
theorem kVX0_howMany : yX0_howMany.cls = RX0 ∧ yX0_howMany.cls ≠ "java/lang/invoke/MethodHandle" ∧ yX0_howMany.cls ≠ "java/lang/invoke/VarHandle" ∧ (parseMethodDescriptor yX0_howMany.desc).map (fun d => d.parameters.length) = some 2 := ⟨rfl, kSX0_howMany⟩
theorem kSX1_init : yX1_init.cls ≠ "java/lang/invoke/MethodHandle" ∧ yX1_init.cls ≠ "java/lang/invoke/VarHandle" ∧ (parseMethodDescriptor yX1_init.desc).map (fun d => d.parameters.length) = some 0 := by decide +kernel
theorem kSX1_ofClass : yX1_ofClass.cls ≠ "java/lang/invoke/MethodHandle" ∧ yX1_ofClass.cls ≠ "java/lang/invoke/VarHandle" ∧ (parseMethodDescriptor yX1_ofClass.desc).map (fun d => d.parameters.length) = some 2 := by decide +kernel
theorem kSX1_ofFighter : yX1_ofFighter.cls ≠ "java/lang/invoke/MethodHandle" ∧ yX1_ofFighter.cls ≠ "java/lang/invoke/VarHandle" ∧ (parseMethodDescriptor yX1_ofFighter.desc).map (fun d => d.parameters.length) = some 2 := by decide +kernel
theorem kSX1_ofFight : yX1_ofFight.cls ≠ "java/lang/invoke/MethodHandle" ∧ yX1_ofFight.cls ≠ "java/lang/invoke/VarHandle" ∧ (parseMethodDescriptor yX1_ofFight.desc).map (fun d => d.parameters.length) = some 3 := by decide +kernel
theorem kSX1_ofMat : yX1_ofMat.cls ≠ "java/lang/invoke/MethodHandle" ∧ yX1_ofMat.cls ≠ "java/lang/invoke/VarHandle" ∧ (parseMethodDescriptor yX1_ofMat.desc).map (fun d => d.parameters.length) = some 2 := by decide +kernel
theorem kSX1_at : yX1_at.cls ≠ "java/lang/invoke/MethodHandle" ∧ yX1_at.cls ≠ "java/lang/invoke/VarHandle" ∧ (parseMethodDescriptor yX1_at.desc).map (fun d => d.parameters.length) = some 1 := by decide +kernel
theorem kVX1_at : yX1_at.cls = RX1 ∧ yX1_at.cls ≠ "java/lang/invoke/MethodHandle" ∧ yX1_at.cls ≠ "java/lang/invoke/VarHandle" ∧ (parseMethodDescriptor yX1_at.desc).map (fun d => d.parameters.length) = some 1 := ⟨rfl, kSX1_at⟩
theorem kSX1_lay : yX1_lay.cls ≠ "java/lang/invoke/MethodHandle" ∧ yX1_lay.cls ≠ "java/lang/invoke/VarHandle" ∧ (parseMethodDescriptor yX1_lay.desc).map (fun d => d.parameters.length) = some 2 := by decide +kernel
theorem kVX1_lay : yX1_lay.cls = RX1 ∧ yX1_lay.cls ≠ "java/lang/invoke/MethodHandle" ∧ yX1_lay.cls ≠ "java/lang/invoke/VarHandle" ∧ (parseMethodDescriptor yX1_lay.desc).map (fun d => d.parameters.length) = some 2 := ⟨rfl, kSX1_lay⟩
theorem kSX1_put : yX1_put.cls ≠ "java/lang/invoke/MethodHandle" ∧ yX1_put.cls ≠ "java/lang/invoke/VarHandle" ∧ (parseMethodDescriptor yX1_put.desc).map (fun d => d.parameters.length) = some 2 := by decide +kernel
theorem kVX1_put : yX1_put.cls = RX1 ∧ yX1_put.cls ≠ "java/lang/invoke/MethodHandle" ∧ yX1_put.cls ≠ "java/lang/invoke/VarHandle" ∧ (parseMethodDescriptor yX1_put.desc).map (fun d => d.parameters.length) = some 2 := ⟨rfl, kSX1_put⟩
theorem kSX1_isFull : yX1_isFull.cls ≠ "java/lang/invoke/MethodHandle" ∧ yX1_isFull.cls ≠ "java/lang/invoke/VarHandle" ∧ (parseMethodDescriptor yX1_isFull.desc).map (fun d => d.parameters.length) = some 0 := by decide +kernel
theorem kVX1_isFull : yX1_isFull.cls = RX1 ∧ yX1_isFull.cls ≠ "java/lang/invoke/MethodHandle" ∧ yX1_isFull.cls ≠ "java/lang/invoke/VarHandle" ∧ (parseMethodDescriptor yX1_isFull.desc).map (fun d => d.parameters.length) = some 0 := ⟨rfl, kSX1_isFull⟩
theorem kSX1_openEntry : yX1_openEntry.cls ≠ "java/lang/invoke/MethodHandle" ∧ yX1_openEntry.cls ≠ "java/lang/invoke/VarHandle" ∧ (parseMethodDescriptor yX1_openEntry.desc).map (fun d => d.parameters.length) = some 0 := by decide +kernel
theorem kVX1_openEntry : yX1_openEntry.cls = RX1 ∧ yX1_openEntry.cls ≠ "java/lang/invoke/MethodHandle" ∧ yX1_openEntry.cls ≠ "java/lang/invoke/VarHandle" ∧ (parseMethodDescriptor yX1_openEntry.desc).map (fun d => d.parameters.length) = some 0 := ⟨rfl, kSX1_openEntry⟩
theorem kSX2_init : yX2_init.cls ≠ "java/lang/invoke/MethodHandle" ∧ yX2_init.cls ≠ "java/lang/invoke/VarHandle" ∧ (parseMethodDescriptor yX2_init.desc).map (fun d => d.parameters.length) = some 1 := by decide +kernel
theorem kSX3_init : yX3_init.cls ≠ "java/lang/invoke/MethodHandle" ∧ yX3_init.cls ≠ "java/lang/invoke/VarHandle" ∧ (parseMethodDescriptor yX3_init.desc).map (fun d => d.parameters.length) = some 2 := by decide +kernel
theorem kSX3_on : yX3_on.cls ≠ "java/lang/invoke/MethodHandle" ∧ yX3_on.cls ≠ "java/lang/invoke/VarHandle" ∧ (parseMethodDescriptor yX3_on.desc).map (fun d => d.parameters.length) = some 2 := by decide +kernel
theorem kVX3_on : yX3_on.cls = RX3 ∧ yX3_on.cls ≠ "java/lang/invoke/MethodHandle" ∧ yX3_on.cls ≠ "java/lang/invoke/VarHandle" ∧ (parseMethodDescriptor yX3_on.desc).map (fun d => d.parameters.length) = some 2 := ⟨rfl, kSX3_on⟩
theorem kSX3_isFree : yX3_isFree.cls ≠ "java/lang/invoke/MethodHandle" ∧ yX3_isFree.cls ≠ "java/lang/invoke/VarHandle" ∧ (parseMethodDescriptor yX3_isFree.desc).map (fun d => d.parameters.length) = some 1 := by decide +kernel
theorem kVX3_isFree : yX3_isFree.cls = RX3 ∧ yX3_isFree.cls ≠ "java/lang/invoke/MethodHandle" ∧ yX3_isFree.cls ≠ "java/lang/invoke/VarHandle" ∧ (parseMethodDescriptor yX3_isFree.desc).map (fun d => d.parameters.length) = some 1 := ⟨rfl, kSX3_isFree⟩
theorem kSX3_classOn : yX3_classOn.cls ≠ "java/lang/invoke/MethodHandle" ∧ yX3_classOn.cls ≠ "java/lang/invoke/VarHandle" ∧ (parseMethodDescriptor yX3_classOn.desc).map (fun d => d.parameters.length) = some 1 := by decide +kernel
theorem kVX3_classOn : yX3_classOn.cls = RX3 ∧ yX3_classOn.cls ≠ "java/lang/invoke/MethodHandle" ∧ yX3_classOn.cls ≠ "java/lang/invoke/VarHandle" ∧ (parseMethodDescriptor yX3_classOn.desc).map (fun d => d.parameters.length) = some 1 := ⟨rfl, kSX3_classOn⟩
theorem kSX3_waits : yX3_waits.cls ≠ "java/lang/invoke/MethodHandle" ∧ yX3_waits.cls ≠ "java/lang/invoke/VarHandle" ∧ (parseMethodDescriptor yX3_waits.desc).map (fun d => d.parameters.length) = some 1 := by decide +kernel
theorem kVX3_waits : yX3_waits.cls = RX3 ∧ yX3_waits.cls ≠ "java/lang/invoke/MethodHandle" ∧ yX3_waits.cls ≠ "java/lang/invoke/VarHandle" ∧ (parseMethodDescriptor yX3_waits.desc).map (fun d => d.parameters.length) = some 1 := ⟨rfl, kSX3_waits⟩
theorem kSX3_goesOn : yX3_goesOn.cls ≠ "java/lang/invoke/MethodHandle" ∧ yX3_goesOn.cls ≠ "java/lang/invoke/VarHandle" ∧ (parseMethodDescriptor yX3_goesOn.desc).map (fun d => d.parameters.length) = some 1 := by decide +kernel
theorem kVX3_goesOn : yX3_goesOn.cls = RX3 ∧ yX3_goesOn.cls ≠ "java/lang/invoke/MethodHandle" ∧ yX3_goesOn.cls ≠ "java/lang/invoke/VarHandle" ∧ (parseMethodDescriptor yX3_goesOn.desc).map (fun d => d.parameters.length) = some 1 := ⟨rfl, kSX3_goesOn⟩
theorem kSX3_signsOf : yX3_signsOf.cls ≠ "java/lang/invoke/MethodHandle" ∧ yX3_signsOf.cls ≠ "java/lang/invoke/VarHandle" ∧ (parseMethodDescriptor yX3_signsOf.desc).map (fun d => d.parameters.length) = some 3 := by decide +kernel
theorem kVX3_signsOf : yX3_signsOf.cls = RX3 ∧ yX3_signsOf.cls ≠ "java/lang/invoke/MethodHandle" ∧ yX3_signsOf.cls ≠ "java/lang/invoke/VarHandle" ∧ (parseMethodDescriptor yX3_signsOf.desc).map (fun d => d.parameters.length) = some 3 := ⟨rfl, kSX3_signsOf⟩
theorem kSX3_openFights : yX3_openFights.cls ≠ "java/lang/invoke/MethodHandle" ∧ yX3_openFights.cls ≠ "java/lang/invoke/VarHandle" ∧ (parseMethodDescriptor yX3_openFights.desc).map (fun d => d.parameters.length) = some 0 := by decide +kernel
theorem kVX3_openFights : yX3_openFights.cls = RX3 ∧ yX3_openFights.cls ≠ "java/lang/invoke/MethodHandle" ∧ yX3_openFights.cls ≠ "java/lang/invoke/VarHandle" ∧ (parseMethodDescriptor yX3_openFights.desc).map (fun d => d.parameters.length) = some 0 := ⟨rfl, kSX3_openFights⟩
theorem kSX4_init : yX4_init.cls ≠ "java/lang/invoke/MethodHandle" ∧ yX4_init.cls ≠ "java/lang/invoke/VarHandle" ∧ (parseMethodDescriptor yX4_init.desc).map (fun d => d.parameters.length) = some 0 := by decide +kernel
theorem kSX4_clear : yX4_clear.cls ≠ "java/lang/invoke/MethodHandle" ∧ yX4_clear.cls ≠ "java/lang/invoke/VarHandle" ∧ (parseMethodDescriptor yX4_clear.desc).map (fun d => d.parameters.length) = some 0 := by decide +kernel
theorem kVX4_clear : yX4_clear.cls = RX4 ∧ yX4_clear.cls ≠ "java/lang/invoke/MethodHandle" ∧ yX4_clear.cls ≠ "java/lang/invoke/VarHandle" ∧ (parseMethodDescriptor yX4_clear.desc).map (fun d => d.parameters.length) = some 0 := ⟨rfl, kSX4_clear⟩
theorem kSX5_init : yX5_init.cls ≠ "java/lang/invoke/MethodHandle" ∧ yX5_init.cls ≠ "java/lang/invoke/VarHandle" ∧ (parseMethodDescriptor yX5_init.desc).map (fun d => d.parameters.length) = some 1 := by decide +kernel
theorem kSX5_readLaws : yX5_readLaws.cls ≠ "java/lang/invoke/MethodHandle" ∧ yX5_readLaws.cls ≠ "java/lang/invoke/VarHandle" ∧ (parseMethodDescriptor yX5_readLaws.desc).map (fun d => d.parameters.length) = some 0 := by decide +kernel
theorem kVX5_readLaws : yX5_readLaws.cls = RX5 ∧ yX5_readLaws.cls ≠ "java/lang/invoke/MethodHandle" ∧ yX5_readLaws.cls ≠ "java/lang/invoke/VarHandle" ∧ (parseMethodDescriptor yX5_readLaws.desc).map (fun d => d.parameters.length) = some 0 := ⟨rfl, kSX5_readLaws⟩
theorem kSX5_fail : yX5_fail.cls ≠ "java/lang/invoke/MethodHandle" ∧ yX5_fail.cls ≠ "java/lang/invoke/VarHandle" ∧ (parseMethodDescriptor yX5_fail.desc).map (fun d => d.parameters.length) = some 1 := by decide +kernel
theorem kVX5_fail : yX5_fail.cls = RX5 ∧ yX5_fail.cls ≠ "java/lang/invoke/MethodHandle" ∧ yX5_fail.cls ≠ "java/lang/invoke/VarHandle" ∧ (parseMethodDescriptor yX5_fail.desc).map (fun d => d.parameters.length) = some 1 := ⟨rfl, kSX5_fail⟩
theorem kSX5_take : yX5_take.cls ≠ "java/lang/invoke/MethodHandle" ∧ yX5_take.cls ≠ "java/lang/invoke/VarHandle" ∧ (parseMethodDescriptor yX5_take.desc).map (fun d => d.parameters.length) = some 1 := by decide +kernel
theorem kVX5_take : yX5_take.cls = RX5 ∧ yX5_take.cls ≠ "java/lang/invoke/MethodHandle" ∧ yX5_take.cls ≠ "java/lang/invoke/VarHandle" ∧ (parseMethodDescriptor yX5_take.desc).map (fun d => d.parameters.length) = some 1 := ⟨rfl, kSX5_take⟩
theorem kSX5_goIf : yX5_goIf.cls ≠ "java/lang/invoke/MethodHandle" ∧ yX5_goIf.cls ≠ "java/lang/invoke/VarHandle" ∧ (parseMethodDescriptor yX5_goIf.desc).map (fun d => d.parameters.length) = some 2 := by decide +kernel
theorem kVX5_goIf : yX5_goIf.cls = RX5 ∧ yX5_goIf.cls ≠ "java/lang/invoke/MethodHandle" ∧ yX5_goIf.cls ≠ "java/lang/invoke/VarHandle" ∧ (parseMethodDescriptor yX5_goIf.desc).map (fun d => d.parameters.length) = some 2 := ⟨rfl, kSX5_goIf⟩
theorem kSX5_takeHead : yX5_takeHead.cls ≠ "java/lang/invoke/MethodHandle" ∧ yX5_takeHead.cls ≠ "java/lang/invoke/VarHandle" ∧ (parseMethodDescriptor yX5_takeHead.desc).map (fun d => d.parameters.length) = some 1 := by decide +kernel
theorem kVX5_takeHead : yX5_takeHead.cls = RX5 ∧ yX5_takeHead.cls ≠ "java/lang/invoke/MethodHandle" ∧ yX5_takeHead.cls ≠ "java/lang/invoke/VarHandle" ∧ (parseMethodDescriptor yX5_takeHead.desc).map (fun d => d.parameters.length) = some 1 := ⟨rfl, kSX5_takeHead⟩
theorem kSX6_init : yX6_init.cls ≠ "java/lang/invoke/MethodHandle" ∧ yX6_init.cls ≠ "java/lang/invoke/VarHandle" ∧ (parseMethodDescriptor yX6_init.desc).map (fun d => d.parameters.length) = some 2 := by decide +kernel
theorem kSX6_tell : yX6_tell.cls ≠ "java/lang/invoke/MethodHandle" ∧ yX6_tell.cls ≠ "java/lang/invoke/VarHandle" ∧ (parseMethodDescriptor yX6_tell.desc).map (fun d => d.parameters.length) = some 3 := by decide +kernel
theorem kVX6_tell : yX6_tell.cls = RX6 ∧ yX6_tell.cls ≠ "java/lang/invoke/MethodHandle" ∧ yX6_tell.cls ≠ "java/lang/invoke/VarHandle" ∧ (parseMethodDescriptor yX6_tell.desc).map (fun d => d.parameters.length) = some 3 := ⟨rfl, kSX6_tell⟩
theorem kSX6_planDay : yX6_planDay.cls ≠ "java/lang/invoke/MethodHandle" ∧ yX6_planDay.cls ≠ "java/lang/invoke/VarHandle" ∧ (parseMethodDescriptor yX6_planDay.desc).map (fun d => d.parameters.length) = some 2 := by decide +kernel
theorem kVX6_planDay : yX6_planDay.cls = RX6 ∧ yX6_planDay.cls ≠ "java/lang/invoke/MethodHandle" ∧ yX6_planDay.cls ≠ "java/lang/invoke/VarHandle" ∧ (parseMethodDescriptor yX6_planDay.desc).map (fun d => d.parameters.length) = some 2 := ⟨rfl, kSX6_planDay⟩
theorem kSX6_clear : yX6_clear.cls ≠ "java/lang/invoke/MethodHandle" ∧ yX6_clear.cls ≠ "java/lang/invoke/VarHandle" ∧ (parseMethodDescriptor yX6_clear.desc).map (fun d => d.parameters.length) = some 0 := by decide +kernel
theorem kVX6_clear : yX6_clear.cls = RX6 ∧ yX6_clear.cls ≠ "java/lang/invoke/MethodHandle" ∧ yX6_clear.cls ≠ "java/lang/invoke/VarHandle" ∧ (parseMethodDescriptor yX6_clear.desc).map (fun d => d.parameters.length) = some 0 := ⟨rfl, kSX6_clear⟩
theorem kSX6_keep : yX6_keep.cls ≠ "java/lang/invoke/MethodHandle" ∧ yX6_keep.cls ≠ "java/lang/invoke/VarHandle" ∧ (parseMethodDescriptor yX6_keep.desc).map (fun d => d.parameters.length) = some 0 := by decide +kernel
theorem kVX6_keep : yX6_keep.cls = RX6 ∧ yX6_keep.cls ≠ "java/lang/invoke/MethodHandle" ∧ yX6_keep.cls ≠ "java/lang/invoke/VarHandle" ∧ (parseMethodDescriptor yX6_keep.desc).map (fun d => d.parameters.length) = some 0 := ⟨rfl, kSX6_keep⟩
theorem kSX6_putOpenOnes : yX6_putOpenOnes.cls ≠ "java/lang/invoke/MethodHandle" ∧ yX6_putOpenOnes.cls ≠ "java/lang/invoke/VarHandle" ∧ (parseMethodDescriptor yX6_putOpenOnes.desc).map (fun d => d.parameters.length) = some 0 := by decide +kernel
theorem kVX6_putOpenOnes : yX6_putOpenOnes.cls = RX6 ∧ yX6_putOpenOnes.cls ≠ "java/lang/invoke/MethodHandle" ∧ yX6_putOpenOnes.cls ≠ "java/lang/invoke/VarHandle" ∧ (parseMethodDescriptor yX6_putOpenOnes.desc).map (fun d => d.parameters.length) = some 0 := ⟨rfl, kSX6_putOpenOnes⟩
theorem kSX6_putInOrder : yX6_putInOrder.cls ≠ "java/lang/invoke/MethodHandle" ∧ yX6_putInOrder.cls ≠ "java/lang/invoke/VarHandle" ∧ (parseMethodDescriptor yX6_putInOrder.desc).map (fun d => d.parameters.length) = some 0 := by decide +kernel
theorem kVX6_putInOrder : yX6_putInOrder.cls = RX6 ∧ yX6_putInOrder.cls ≠ "java/lang/invoke/MethodHandle" ∧ yX6_putInOrder.cls ≠ "java/lang/invoke/VarHandle" ∧ (parseMethodDescriptor yX6_putInOrder.desc).map (fun d => d.parameters.length) = some 0 := ⟨rfl, kSX6_putInOrder⟩
theorem kSX6_putStageInOrder : yX6_putStageInOrder.cls ≠ "java/lang/invoke/MethodHandle" ∧ yX6_putStageInOrder.cls ≠ "java/lang/invoke/VarHandle" ∧ (parseMethodDescriptor yX6_putStageInOrder.desc).map (fun d => d.parameters.length) = some 2 := by decide +kernel
theorem kVX6_putStageInOrder : yX6_putStageInOrder.cls = RX6 ∧ yX6_putStageInOrder.cls ≠ "java/lang/invoke/MethodHandle" ∧ yX6_putStageInOrder.cls ≠ "java/lang/invoke/VarHandle" ∧ (parseMethodDescriptor yX6_putStageInOrder.desc).map (fun d => d.parameters.length) = some 2 := ⟨rfl, kSX6_putStageInOrder⟩
theorem kSX6_findEarliest : yX6_findEarliest.cls ≠ "java/lang/invoke/MethodHandle" ∧ yX6_findEarliest.cls ≠ "java/lang/invoke/VarHandle" ∧ (parseMethodDescriptor yX6_findEarliest.desc).map (fun d => d.parameters.length) = some 1 := by decide +kernel
theorem kVX6_findEarliest : yX6_findEarliest.cls = RX6 ∧ yX6_findEarliest.cls ≠ "java/lang/invoke/MethodHandle" ∧ yX6_findEarliest.cls ≠ "java/lang/invoke/VarHandle" ∧ (parseMethodDescriptor yX6_findEarliest.desc).map (fun d => d.parameters.length) = some 1 := ⟨rfl, kSX6_findEarliest⟩
theorem kSX7_init : yX7_init.cls ≠ "java/lang/invoke/MethodHandle" ∧ yX7_init.cls ≠ "java/lang/invoke/VarHandle" ∧ (parseMethodDescriptor yX7_init.desc).map (fun d => d.parameters.length) = some 2 := by decide +kernel
theorem kSX8_init : yX8_init.cls ≠ "java/lang/invoke/MethodHandle" ∧ yX8_init.cls ≠ "java/lang/invoke/VarHandle" ∧ (parseMethodDescriptor yX8_init.desc).map (fun d => d.parameters.length) = some 1 := by decide +kernel
theorem kSX8_people : yX8_people.cls ≠ "java/lang/invoke/MethodHandle" ∧ yX8_people.cls ≠ "java/lang/invoke/VarHandle" ∧ (parseMethodDescriptor yX8_people.desc).map (fun d => d.parameters.length) = some 0 := by decide +kernel
theorem kVX8_people : yX8_people.cls = RX8 ∧ yX8_people.cls ≠ "java/lang/invoke/MethodHandle" ∧ yX8_people.cls ≠ "java/lang/invoke/VarHandle" ∧ (parseMethodDescriptor yX8_people.desc).map (fun d => d.parameters.length) = some 0 := ⟨rfl, kSX8_people⟩
theorem kSX8_has : yX8_has.cls ≠ "java/lang/invoke/MethodHandle" ∧ yX8_has.cls ≠ "java/lang/invoke/VarHandle" ∧ (parseMethodDescriptor yX8_has.desc).map (fun d => d.parameters.length) = some 1 := by decide +kernel
theorem kVX8_has : yX8_has.cls = RX8 ∧ yX8_has.cls ≠ "java/lang/invoke/MethodHandle" ∧ yX8_has.cls ≠ "java/lang/invoke/VarHandle" ∧ (parseMethodDescriptor yX8_has.desc).map (fun d => d.parameters.length) = some 1 := ⟨rfl, kSX8_has⟩
theorem kSX8_classOf : yX8_classOf.cls ≠ "java/lang/invoke/MethodHandle" ∧ yX8_classOf.cls ≠ "java/lang/invoke/VarHandle" ∧ (parseMethodDescriptor yX8_classOf.desc).map (fun d => d.parameters.length) = some 1 := by decide +kernel
theorem kVX8_classOf : yX8_classOf.cls = RX8 ∧ yX8_classOf.cls ≠ "java/lang/invoke/MethodHandle" ∧ yX8_classOf.cls ≠ "java/lang/invoke/VarHandle" ∧ (parseMethodDescriptor yX8_classOf.desc).map (fun d => d.parameters.length) = some 1 := ⟨rfl, kSX8_classOf⟩
theorem kSX8_add : yX8_add.cls ≠ "java/lang/invoke/MethodHandle" ∧ yX8_add.cls ≠ "java/lang/invoke/VarHandle" ∧ (parseMethodDescriptor yX8_add.desc).map (fun d => d.parameters.length) = some 2 := by decide +kernel
theorem kVX8_add : yX8_add.cls = RX8 ∧ yX8_add.cls ≠ "java/lang/invoke/MethodHandle" ∧ yX8_add.cls ≠ "java/lang/invoke/VarHandle" ∧ (parseMethodDescriptor yX8_add.desc).map (fun d => d.parameters.length) = some 2 := ⟨rfl, kSX8_add⟩
theorem kSX8_wasAnyAtScales : yX8_wasAnyAtScales.cls ≠ "java/lang/invoke/MethodHandle" ∧ yX8_wasAnyAtScales.cls ≠ "java/lang/invoke/VarHandle" ∧ (parseMethodDescriptor yX8_wasAnyAtScales.desc).map (fun d => d.parameters.length) = some 1 := by decide +kernel
theorem kVX8_wasAnyAtScales : yX8_wasAnyAtScales.cls = RX8 ∧ yX8_wasAnyAtScales.cls ≠ "java/lang/invoke/MethodHandle" ∧ yX8_wasAnyAtScales.cls ≠ "java/lang/invoke/VarHandle" ∧ (parseMethodDescriptor yX8_wasAnyAtScales.desc).map (fun d => d.parameters.length) = some 1 := ⟨rfl, kSX8_wasAnyAtScales⟩
theorem kSX8_fightersOf : yX8_fightersOf.cls ≠ "java/lang/invoke/MethodHandle" ∧ yX8_fightersOf.cls ≠ "java/lang/invoke/VarHandle" ∧ (parseMethodDescriptor yX8_fightersOf.desc).map (fun d => d.parameters.length) = some 1 := by decide +kernel
theorem kVX8_fightersOf : yX8_fightersOf.cls = RX8 ∧ yX8_fightersOf.cls ≠ "java/lang/invoke/MethodHandle" ∧ yX8_fightersOf.cls ≠ "java/lang/invoke/VarHandle" ∧ (parseMethodDescriptor yX8_fightersOf.desc).map (fun d => d.parameters.length) = some 1 := ⟨rfl, kSX8_fightersOf⟩
theorem kSX8_weighedOf : yX8_weighedOf.cls ≠ "java/lang/invoke/MethodHandle" ∧ yX8_weighedOf.cls ≠ "java/lang/invoke/VarHandle" ∧ (parseMethodDescriptor yX8_weighedOf.desc).map (fun d => d.parameters.length) = some 1 := by decide +kernel
theorem kVX8_weighedOf : yX8_weighedOf.cls = RX8 ∧ yX8_weighedOf.cls ≠ "java/lang/invoke/MethodHandle" ∧ yX8_weighedOf.cls ≠ "java/lang/invoke/VarHandle" ∧ (parseMethodDescriptor yX8_weighedOf.desc).map (fun d => d.parameters.length) = some 1 := ⟨rfl, kSX8_weighedOf⟩
theorem kSX8_isWeighed : yX8_isWeighed.cls ≠ "java/lang/invoke/MethodHandle" ∧ yX8_isWeighed.cls ≠ "java/lang/invoke/VarHandle" ∧ (parseMethodDescriptor yX8_isWeighed.desc).map (fun d => d.parameters.length) = some 3 := by decide +kernel
theorem kSX9_init : yX9_init.cls ≠ "java/lang/invoke/MethodHandle" ∧ yX9_init.cls ≠ "java/lang/invoke/VarHandle" ∧ (parseMethodDescriptor yX9_init.desc).map (fun d => d.parameters.length) = some 2 := by decide +kernel
theorem kSX9_get : yX9_get.cls ≠ "java/lang/invoke/MethodHandle" ∧ yX9_get.cls ≠ "java/lang/invoke/VarHandle" ∧ (parseMethodDescriptor yX9_get.desc).map (fun d => d.parameters.length) = some 1 := by decide +kernel
theorem kVX9_get : yX9_get.cls = RX9 ∧ yX9_get.cls ≠ "java/lang/invoke/MethodHandle" ∧ yX9_get.cls ≠ "java/lang/invoke/VarHandle" ∧ (parseMethodDescriptor yX9_get.desc).map (fun d => d.parameters.length) = some 1 := ⟨rfl, kSX9_get⟩
theorem kSX9_set : yX9_set.cls ≠ "java/lang/invoke/MethodHandle" ∧ yX9_set.cls ≠ "java/lang/invoke/VarHandle" ∧ (parseMethodDescriptor yX9_set.desc).map (fun d => d.parameters.length) = some 2 := by decide +kernel
theorem kVX9_set : yX9_set.cls = RX9 ∧ yX9_set.cls ≠ "java/lang/invoke/MethodHandle" ∧ yX9_set.cls ≠ "java/lang/invoke/VarHandle" ∧ (parseMethodDescriptor yX9_set.desc).map (fun d => d.parameters.length) = some 2 := ⟨rfl, kSX9_set⟩
theorem kSX9_fill : yX9_fill.cls ≠ "java/lang/invoke/MethodHandle" ∧ yX9_fill.cls ≠ "java/lang/invoke/VarHandle" ∧ (parseMethodDescriptor yX9_fill.desc).map (fun d => d.parameters.length) = some 1 := by decide +kernel
theorem kVX9_fill : yX9_fill.cls = RX9 ∧ yX9_fill.cls ≠ "java/lang/invoke/MethodHandle" ∧ yX9_fill.cls ≠ "java/lang/invoke/VarHandle" ∧ (parseMethodDescriptor yX9_fill.desc).map (fun d => d.parameters.length) = some 1 := ⟨rfl, kSX9_fill⟩
theorem kSX9_makeRoomFor : yX9_makeRoomFor.cls ≠ "java/lang/invoke/MethodHandle" ∧ yX9_makeRoomFor.cls ≠ "java/lang/invoke/VarHandle" ∧ (parseMethodDescriptor yX9_makeRoomFor.desc).map (fun d => d.parameters.length) = some 1 := by decide +kernel
theorem kVX9_makeRoomFor : yX9_makeRoomFor.cls = RX9 ∧ yX9_makeRoomFor.cls ≠ "java/lang/invoke/MethodHandle" ∧ yX9_makeRoomFor.cls ≠ "java/lang/invoke/VarHandle" ∧ (parseMethodDescriptor yX9_makeRoomFor.desc).map (fun d => d.parameters.length) = some 1 := ⟨rfl, kSX9_makeRoomFor⟩
theorem kSX10_init : yX10_init.cls ≠ "java/lang/invoke/MethodHandle" ∧ yX10_init.cls ≠ "java/lang/invoke/VarHandle" ∧ (parseMethodDescriptor yX10_init.desc).map (fun d => d.parameters.length) = some 0 := by decide +kernel
theorem kSX10_push : yX10_push.cls ≠ "java/lang/invoke/MethodHandle" ∧ yX10_push.cls ≠ "java/lang/invoke/VarHandle" ∧ (parseMethodDescriptor yX10_push.desc).map (fun d => d.parameters.length) = some 1 := by decide +kernel
theorem kVX10_push : yX10_push.cls = RX10 ∧ yX10_push.cls ≠ "java/lang/invoke/MethodHandle" ∧ yX10_push.cls ≠ "java/lang/invoke/VarHandle" ∧ (parseMethodDescriptor yX10_push.desc).map (fun d => d.parameters.length) = some 1 := ⟨rfl, kSX10_push⟩
theorem kSX10_rewind : yX10_rewind.cls ≠ "java/lang/invoke/MethodHandle" ∧ yX10_rewind.cls ≠ "java/lang/invoke/VarHandle" ∧ (parseMethodDescriptor yX10_rewind.desc).map (fun d => d.parameters.length) = some 0 := by decide +kernel
theorem kVX10_rewind : yX10_rewind.cls = RX10 ∧ yX10_rewind.cls ≠ "java/lang/invoke/MethodHandle" ∧ yX10_rewind.cls ≠ "java/lang/invoke/VarHandle" ∧ (parseMethodDescriptor yX10_rewind.desc).map (fun d => d.parameters.length) = some 0 := ⟨rfl, kSX10_rewind⟩
theorem kSX10_readToken : yX10_readToken.cls ≠ "java/lang/invoke/MethodHandle" ∧ yX10_readToken.cls ≠ "java/lang/invoke/VarHandle" ∧ (parseMethodDescriptor yX10_readToken.desc).map (fun d => d.parameters.length) = some 0 := by decide +kernel
theorem kVX10_readToken : yX10_readToken.cls = RX10 ∧ yX10_readToken.cls ≠ "java/lang/invoke/MethodHandle" ∧ yX10_readToken.cls ≠ "java/lang/invoke/VarHandle" ∧ (parseMethodDescriptor yX10_readToken.desc).map (fun d => d.parameters.length) = some 0 := ⟨rfl, kSX10_readToken⟩
theorem kSX10_isBlank : yX10_isBlank.cls ≠ "java/lang/invoke/MethodHandle" ∧ yX10_isBlank.cls ≠ "java/lang/invoke/VarHandle" ∧ (parseMethodDescriptor yX10_isBlank.desc).map (fun d => d.parameters.length) = some 1 := by decide +kernel
theorem kSX11_init : yX11_init.cls ≠ "java/lang/invoke/MethodHandle" ∧ yX11_init.cls ≠ "java/lang/invoke/VarHandle" ∧ (parseMethodDescriptor yX11_init.desc).map (fun d => d.parameters.length) = some 0 := by decide +kernel
theorem kSX11_feed : yX11_feed.cls ≠ "java/lang/invoke/MethodHandle" ∧ yX11_feed.cls ≠ "java/lang/invoke/VarHandle" ∧ (parseMethodDescriptor yX11_feed.desc).map (fun d => d.parameters.length) = some 5 := by decide +kernel
theorem kVX11_feed : yX11_feed.cls = RX11 ∧ yX11_feed.cls ≠ "java/lang/invoke/MethodHandle" ∧ yX11_feed.cls ≠ "java/lang/invoke/VarHandle" ∧ (parseMethodDescriptor yX11_feed.desc).map (fun d => d.parameters.length) = some 5 := ⟨rfl, kSX11_feed⟩
theorem kSX11_end : yX11_end.cls ≠ "java/lang/invoke/MethodHandle" ∧ yX11_end.cls ≠ "java/lang/invoke/VarHandle" ∧ (parseMethodDescriptor yX11_end.desc).map (fun d => d.parameters.length) = some 1 := by decide +kernel
theorem kVX11_end : yX11_end.cls = RX11 ∧ yX11_end.cls ≠ "java/lang/invoke/MethodHandle" ∧ yX11_end.cls ≠ "java/lang/invoke/VarHandle" ∧ (parseMethodDescriptor yX11_end.desc).map (fun d => d.parameters.length) = some 1 := ⟨rfl, kSX11_end⟩
theorem kSX11_laws : yX11_laws.cls ≠ "java/lang/invoke/MethodHandle" ∧ yX11_laws.cls ≠ "java/lang/invoke/VarHandle" ∧ (parseMethodDescriptor yX11_laws.desc).map (fun d => d.parameters.length) = some 0 := by decide +kernel
theorem kVX11_laws : yX11_laws.cls = RX11 ∧ yX11_laws.cls ≠ "java/lang/invoke/MethodHandle" ∧ yX11_laws.cls ≠ "java/lang/invoke/VarHandle" ∧ (parseMethodDescriptor yX11_laws.desc).map (fun d => d.parameters.length) = some 0 := ⟨rfl, kSX11_laws⟩
theorem kSX11_fault : yX11_fault.cls ≠ "java/lang/invoke/MethodHandle" ∧ yX11_fault.cls ≠ "java/lang/invoke/VarHandle" ∧ (parseMethodDescriptor yX11_fault.desc).map (fun d => d.parameters.length) = some 1 := by decide +kernel
theorem kVX11_fault : yX11_fault.cls = RX11 ∧ yX11_fault.cls ≠ "java/lang/invoke/MethodHandle" ∧ yX11_fault.cls ≠ "java/lang/invoke/VarHandle" ∧ (parseMethodDescriptor yX11_fault.desc).map (fun d => d.parameters.length) = some 1 := ⟨rfl, kSX11_fault⟩
theorem kSX11_lawsNow : yX11_lawsNow.cls ≠ "java/lang/invoke/MethodHandle" ∧ yX11_lawsNow.cls ≠ "java/lang/invoke/VarHandle" ∧ (parseMethodDescriptor yX11_lawsNow.desc).map (fun d => d.parameters.length) = some 0 := by decide +kernel
theorem kVX11_lawsNow : yX11_lawsNow.cls = RX11 ∧ yX11_lawsNow.cls ≠ "java/lang/invoke/MethodHandle" ∧ yX11_lawsNow.cls ≠ "java/lang/invoke/VarHandle" ∧ (parseMethodDescriptor yX11_lawsNow.desc).map (fun d => d.parameters.length) = some 0 := ⟨rfl, kSX11_lawsNow⟩
theorem kSX11_limit : yX11_limit.cls ≠ "java/lang/invoke/MethodHandle" ∧ yX11_limit.cls ≠ "java/lang/invoke/VarHandle" ∧ (parseMethodDescriptor yX11_limit.desc).map (fun d => d.parameters.length) = some 3 := by decide +kernel
theorem kVX11_limit : yX11_limit.cls = RX11 ∧ yX11_limit.cls ≠ "java/lang/invoke/MethodHandle" ∧ yX11_limit.cls ≠ "java/lang/invoke/VarHandle" ∧ (parseMethodDescriptor yX11_limit.desc).map (fun d => d.parameters.length) = some 3 := ⟨rfl, kSX11_limit⟩
theorem kSX11_enter : yX11_enter.cls ≠ "java/lang/invoke/MethodHandle" ∧ yX11_enter.cls ≠ "java/lang/invoke/VarHandle" ∧ (parseMethodDescriptor yX11_enter.desc).map (fun d => d.parameters.length) = some 2 := by decide +kernel
theorem kVX11_enter : yX11_enter.cls = RX11 ∧ yX11_enter.cls ≠ "java/lang/invoke/MethodHandle" ∧ yX11_enter.cls ≠ "java/lang/invoke/VarHandle" ∧ (parseMethodDescriptor yX11_enter.desc).map (fun d => d.parameters.length) = some 2 := ⟨rfl, kSX11_enter⟩
theorem kSX11_weigh : yX11_weigh.cls ≠ "java/lang/invoke/MethodHandle" ∧ yX11_weigh.cls ≠ "java/lang/invoke/VarHandle" ∧ (parseMethodDescriptor yX11_weigh.desc).map (fun d => d.parameters.length) = some 2 := by decide +kernel
theorem kVX11_weigh : yX11_weigh.cls = RX11 ∧ yX11_weigh.cls ≠ "java/lang/invoke/MethodHandle" ∧ yX11_weigh.cls ≠ "java/lang/invoke/VarHandle" ∧ (parseMethodDescriptor yX11_weigh.desc).map (fun d => d.parameters.length) = some 2 := ⟨rfl, kSX11_weigh⟩
theorem kSX11_seed : yX11_seed.cls ≠ "java/lang/invoke/MethodHandle" ∧ yX11_seed.cls ≠ "java/lang/invoke/VarHandle" ∧ (parseMethodDescriptor yX11_seed.desc).map (fun d => d.parameters.length) = some 2 := by decide +kernel
theorem kVX11_seed : yX11_seed.cls = RX11 ∧ yX11_seed.cls ≠ "java/lang/invoke/MethodHandle" ∧ yX11_seed.cls ≠ "java/lang/invoke/VarHandle" ∧ (parseMethodDescriptor yX11_seed.desc).map (fun d => d.parameters.length) = some 2 := ⟨rfl, kSX11_seed⟩
theorem kSX11_draw : yX11_draw.cls ≠ "java/lang/invoke/MethodHandle" ∧ yX11_draw.cls ≠ "java/lang/invoke/VarHandle" ∧ (parseMethodDescriptor yX11_draw.desc).map (fun d => d.parameters.length) = some 1 := by decide +kernel
theorem kVX11_draw : yX11_draw.cls = RX11 ∧ yX11_draw.cls ≠ "java/lang/invoke/MethodHandle" ∧ yX11_draw.cls ≠ "java/lang/invoke/VarHandle" ∧ (parseMethodDescriptor yX11_draw.desc).map (fun d => d.parameters.length) = some 1 := ⟨rfl, kSX11_draw⟩
theorem kSX11_fighter : yX11_fighter.cls ≠ "java/lang/invoke/MethodHandle" ∧ yX11_fighter.cls ≠ "java/lang/invoke/VarHandle" ∧ (parseMethodDescriptor yX11_fighter.desc).map (fun d => d.parameters.length) = some 2 := by decide +kernel
theorem kVX11_fighter : yX11_fighter.cls = RX11 ∧ yX11_fighter.cls ≠ "java/lang/invoke/MethodHandle" ∧ yX11_fighter.cls ≠ "java/lang/invoke/VarHandle" ∧ (parseMethodDescriptor yX11_fighter.desc).map (fun d => d.parameters.length) = some 2 := ⟨rfl, kSX11_fighter⟩
theorem kSX11_about : yX11_about.cls ≠ "java/lang/invoke/MethodHandle" ∧ yX11_about.cls ≠ "java/lang/invoke/VarHandle" ∧ (parseMethodDescriptor yX11_about.desc).map (fun d => d.parameters.length) = some 2 := by decide +kernel
theorem kVX11_about : yX11_about.cls = RX11 ∧ yX11_about.cls ≠ "java/lang/invoke/MethodHandle" ∧ yX11_about.cls ≠ "java/lang/invoke/VarHandle" ∧ (parseMethodDescriptor yX11_about.desc).map (fun d => d.parameters.length) = some 2 := ⟨rfl, kSX11_about⟩
theorem kSX11_fight : yX11_fight.cls ≠ "java/lang/invoke/MethodHandle" ∧ yX11_fight.cls ≠ "java/lang/invoke/VarHandle" ∧ (parseMethodDescriptor yX11_fight.desc).map (fun d => d.parameters.length) = some 3 := by decide +kernel
theorem kVX11_fight : yX11_fight.cls = RX11 ∧ yX11_fight.cls ≠ "java/lang/invoke/MethodHandle" ∧ yX11_fight.cls ≠ "java/lang/invoke/VarHandle" ∧ (parseMethodDescriptor yX11_fight.desc).map (fun d => d.parameters.length) = some 3 := ⟨rfl, kSX11_fight⟩
theorem kSX11_now : yX11_now.cls ≠ "java/lang/invoke/MethodHandle" ∧ yX11_now.cls ≠ "java/lang/invoke/VarHandle" ∧ (parseMethodDescriptor yX11_now.desc).map (fun d => d.parameters.length) = some 1 := by decide +kernel
theorem kVX11_now : yX11_now.cls = RX11 ∧ yX11_now.cls ≠ "java/lang/invoke/MethodHandle" ∧ yX11_now.cls ≠ "java/lang/invoke/VarHandle" ∧ (parseMethodDescriptor yX11_now.desc).map (fun d => d.parameters.length) = some 1 := ⟨rfl, kSX11_now⟩
theorem kSX11_rest : yX11_rest.cls ≠ "java/lang/invoke/MethodHandle" ∧ yX11_rest.cls ≠ "java/lang/invoke/VarHandle" ∧ (parseMethodDescriptor yX11_rest.desc).map (fun d => d.parameters.length) = some 1 := by decide +kernel
theorem kVX11_rest : yX11_rest.cls = RX11 ∧ yX11_rest.cls ≠ "java/lang/invoke/MethodHandle" ∧ yX11_rest.cls ≠ "java/lang/invoke/VarHandle" ∧ (parseMethodDescriptor yX11_rest.desc).map (fun d => d.parameters.length) = some 1 := ⟨rfl, kSX11_rest⟩
theorem kSX11_begin : yX11_begin.cls ≠ "java/lang/invoke/MethodHandle" ∧ yX11_begin.cls ≠ "java/lang/invoke/VarHandle" ∧ (parseMethodDescriptor yX11_begin.desc).map (fun d => d.parameters.length) = some 3 := by decide +kernel
theorem kVX11_begin : yX11_begin.cls = RX11 ∧ yX11_begin.cls ≠ "java/lang/invoke/MethodHandle" ∧ yX11_begin.cls ≠ "java/lang/invoke/VarHandle" ∧ (parseMethodDescriptor yX11_begin.desc).map (fun d => d.parameters.length) = some 3 := ⟨rfl, kSX11_begin⟩
theorem kSX11_event : yX11_event.cls ≠ "java/lang/invoke/MethodHandle" ∧ yX11_event.cls ≠ "java/lang/invoke/VarHandle" ∧ (parseMethodDescriptor yX11_event.desc).map (fun d => d.parameters.length) = some 3 := by decide +kernel
theorem kVX11_event : yX11_event.cls = RX11 ∧ yX11_event.cls ≠ "java/lang/invoke/MethodHandle" ∧ yX11_event.cls ≠ "java/lang/invoke/VarHandle" ∧ (parseMethodDescriptor yX11_event.desc).map (fun d => d.parameters.length) = some 3 := ⟨rfl, kSX11_event⟩
theorem kSX11_tick : yX11_tick.cls ≠ "java/lang/invoke/MethodHandle" ∧ yX11_tick.cls ≠ "java/lang/invoke/VarHandle" ∧ (parseMethodDescriptor yX11_tick.desc).map (fun d => d.parameters.length) = some 2 := by decide +kernel
theorem kVX11_tick : yX11_tick.cls = RX11 ∧ yX11_tick.cls ≠ "java/lang/invoke/MethodHandle" ∧ yX11_tick.cls ≠ "java/lang/invoke/VarHandle" ∧ (parseMethodDescriptor yX11_tick.desc).map (fun d => d.parameters.length) = some 2 := ⟨rfl, kSX11_tick⟩
theorem kSX11_decide : yX11_decide.cls ≠ "java/lang/invoke/MethodHandle" ∧ yX11_decide.cls ≠ "java/lang/invoke/VarHandle" ∧ (parseMethodDescriptor yX11_decide.desc).map (fun d => d.parameters.length) = some 2 := by decide +kernel
theorem kVX11_decide : yX11_decide.cls = RX11 ∧ yX11_decide.cls ≠ "java/lang/invoke/MethodHandle" ∧ yX11_decide.cls ≠ "java/lang/invoke/VarHandle" ∧ (parseMethodDescriptor yX11_decide.desc).map (fun d => d.parameters.length) = some 2 := ⟨rfl, kSX11_decide⟩
theorem kSX11_mat : yX11_mat.cls ≠ "java/lang/invoke/MethodHandle" ∧ yX11_mat.cls ≠ "java/lang/invoke/VarHandle" ∧ (parseMethodDescriptor yX11_mat.desc).map (fun d => d.parameters.length) = some 2 := by decide +kernel
theorem kVX11_mat : yX11_mat.cls = RX11 ∧ yX11_mat.cls ≠ "java/lang/invoke/MethodHandle" ∧ yX11_mat.cls ≠ "java/lang/invoke/VarHandle" ∧ (parseMethodDescriptor yX11_mat.desc).map (fun d => d.parameters.length) = some 2 := ⟨rfl, kSX11_mat⟩
theorem kSX11_signsOn : yX11_signsOn.cls ≠ "java/lang/invoke/MethodHandle" ∧ yX11_signsOn.cls ≠ "java/lang/invoke/VarHandle" ∧ (parseMethodDescriptor yX11_signsOn.desc).map (fun d => d.parameters.length) = some 2 := by decide +kernel
theorem kVX11_signsOn : yX11_signsOn.cls = RX11 ∧ yX11_signsOn.cls ≠ "java/lang/invoke/MethodHandle" ∧ yX11_signsOn.cls ≠ "java/lang/invoke/VarHandle" ∧ (parseMethodDescriptor yX11_signsOn.desc).map (fun d => d.parameters.length) = some 2 := ⟨rfl, kSX11_signsOn⟩
theorem kSX11_strike : yX11_strike.cls ≠ "java/lang/invoke/MethodHandle" ∧ yX11_strike.cls ≠ "java/lang/invoke/VarHandle" ∧ (parseMethodDescriptor yX11_strike.desc).map (fun d => d.parameters.length) = some 2 := by decide +kernel
theorem kVX11_strike : yX11_strike.cls = RX11 ∧ yX11_strike.cls ≠ "java/lang/invoke/MethodHandle" ∧ yX11_strike.cls ≠ "java/lang/invoke/VarHandle" ∧ (parseMethodDescriptor yX11_strike.desc).map (fun d => d.parameters.length) = some 2 := ⟨rfl, kSX11_strike⟩
theorem kSX11_medal : yX11_medal.cls ≠ "java/lang/invoke/MethodHandle" ∧ yX11_medal.cls ≠ "java/lang/invoke/VarHandle" ∧ (parseMethodDescriptor yX11_medal.desc).map (fun d => d.parameters.length) = some 2 := by decide +kernel
theorem kVX11_medal : yX11_medal.cls = RX11 ∧ yX11_medal.cls ≠ "java/lang/invoke/MethodHandle" ∧ yX11_medal.cls ≠ "java/lang/invoke/VarHandle" ∧ (parseMethodDescriptor yX11_medal.desc).map (fun d => d.parameters.length) = some 2 := ⟨rfl, kSX11_medal⟩
theorem kSX11_plan : yX11_plan.cls ≠ "java/lang/invoke/MethodHandle" ∧ yX11_plan.cls ≠ "java/lang/invoke/VarHandle" ∧ (parseMethodDescriptor yX11_plan.desc).map (fun d => d.parameters.length) = some 2 := by decide +kernel
theorem kVX11_plan : yX11_plan.cls = RX11 ∧ yX11_plan.cls ≠ "java/lang/invoke/MethodHandle" ∧ yX11_plan.cls ≠ "java/lang/invoke/VarHandle" ∧ (parseMethodDescriptor yX11_plan.desc).map (fun d => d.parameters.length) = some 2 := ⟨rfl, kSX11_plan⟩
theorem kSX11_planned : yX11_planned.cls ≠ "java/lang/invoke/MethodHandle" ∧ yX11_planned.cls ≠ "java/lang/invoke/VarHandle" ∧ (parseMethodDescriptor yX11_planned.desc).map (fun d => d.parameters.length) = some 3 := by decide +kernel
theorem kVX11_planned : yX11_planned.cls = RX11 ∧ yX11_planned.cls ≠ "java/lang/invoke/MethodHandle" ∧ yX11_planned.cls ≠ "java/lang/invoke/VarHandle" ∧ (parseMethodDescriptor yX11_planned.desc).map (fun d => d.parameters.length) = some 3 := ⟨rfl, kSX11_planned⟩
theorem kSX11_undo : yX11_undo.cls ≠ "java/lang/invoke/MethodHandle" ∧ yX11_undo.cls ≠ "java/lang/invoke/VarHandle" ∧ (parseMethodDescriptor yX11_undo.desc).map (fun d => d.parameters.length) = some 0 := by decide +kernel
theorem kVX11_undo : yX11_undo.cls = RX11 ∧ yX11_undo.cls ≠ "java/lang/invoke/MethodHandle" ∧ yX11_undo.cls ≠ "java/lang/invoke/VarHandle" ∧ (parseMethodDescriptor yX11_undo.desc).map (fun d => d.parameters.length) = some 0 := ⟨rfl, kSX11_undo⟩
theorem kSX11_count : yX11_count.cls ≠ "java/lang/invoke/MethodHandle" ∧ yX11_count.cls ≠ "java/lang/invoke/VarHandle" ∧ (parseMethodDescriptor yX11_count.desc).map (fun d => d.parameters.length) = some 1 := by decide +kernel
theorem kVX11_count : yX11_count.cls = RX11 ∧ yX11_count.cls ≠ "java/lang/invoke/MethodHandle" ∧ yX11_count.cls ≠ "java/lang/invoke/VarHandle" ∧ (parseMethodDescriptor yX11_count.desc).map (fun d => d.parameters.length) = some 1 := ⟨rfl, kSX11_count⟩
theorem kSX11_isClass : yX11_isClass.cls ≠ "java/lang/invoke/MethodHandle" ∧ yX11_isClass.cls ≠ "java/lang/invoke/VarHandle" ∧ (parseMethodDescriptor yX11_isClass.desc).map (fun d => d.parameters.length) = some 1 := by decide +kernel
theorem kSX11_isMat : yX11_isMat.cls ≠ "java/lang/invoke/MethodHandle" ∧ yX11_isMat.cls ≠ "java/lang/invoke/VarHandle" ∧ (parseMethodDescriptor yX11_isMat.desc).map (fun d => d.parameters.length) = some 1 := by decide +kernel
theorem kSX11_isSide : yX11_isSide.cls ≠ "java/lang/invoke/MethodHandle" ∧ yX11_isSide.cls ≠ "java/lang/invoke/VarHandle" ∧ (parseMethodDescriptor yX11_isSide.desc).map (fun d => d.parameters.length) = some 1 := by decide +kernel
theorem kSX11_isGrams : yX11_isGrams.cls ≠ "java/lang/invoke/MethodHandle" ∧ yX11_isGrams.cls ≠ "java/lang/invoke/VarHandle" ∧ (parseMethodDescriptor yX11_isGrams.desc).map (fun d => d.parameters.length) = some 1 := by decide +kernel
theorem kSX12_init : yX12_init.cls ≠ "java/lang/invoke/MethodHandle" ∧ yX12_init.cls ≠ "java/lang/invoke/VarHandle" ∧ (parseMethodDescriptor yX12_init.desc).map (fun d => d.parameters.length) = some 0 := by decide +kernel
theorem kSX13_in : yX13_in.cls ≠ "java/lang/invoke/MethodHandle" ∧ yX13_in.cls ≠ "java/lang/invoke/VarHandle" ∧ (parseMethodDescriptor yX13_in.desc).map (fun d => d.parameters.length) = some 3 := by decide +kernel
theorem kVX13_in : yX13_in.cls = RX13 ∧ yX13_in.cls ≠ "java/lang/invoke/MethodHandle" ∧ yX13_in.cls ≠ "java/lang/invoke/VarHandle" ∧ (parseMethodDescriptor yX13_in.desc).map (fun d => d.parameters.length) = some 3 := ⟨rfl, kSX13_in⟩
theorem kSX13_init : yX13_init.cls ≠ "java/lang/invoke/MethodHandle" ∧ yX13_init.cls ≠ "java/lang/invoke/VarHandle" ∧ (parseMethodDescriptor yX13_init.desc).map (fun d => d.parameters.length) = some 0 := by decide +kernel
theorem kSX13_anew : yX13_anew.cls ≠ "java/lang/invoke/MethodHandle" ∧ yX13_anew.cls ≠ "java/lang/invoke/VarHandle" ∧ (parseMethodDescriptor yX13_anew.desc).map (fun d => d.parameters.length) = some 0 := by decide +kernel
theorem kVX13_anew : yX13_anew.cls = RX13 ∧ yX13_anew.cls ≠ "java/lang/invoke/MethodHandle" ∧ yX13_anew.cls ≠ "java/lang/invoke/VarHandle" ∧ (parseMethodDescriptor yX13_anew.desc).map (fun d => d.parameters.length) = some 0 := ⟨rfl, kSX13_anew⟩
theorem kSX13_isClass : yX13_isClass.cls ≠ "java/lang/invoke/MethodHandle" ∧ yX13_isClass.cls ≠ "java/lang/invoke/VarHandle" ∧ (parseMethodDescriptor yX13_isClass.desc).map (fun d => d.parameters.length) = some 1 := by decide +kernel
theorem kVX13_isClass : yX13_isClass.cls = RX13 ∧ yX13_isClass.cls ≠ "java/lang/invoke/MethodHandle" ∧ yX13_isClass.cls ≠ "java/lang/invoke/VarHandle" ∧ (parseMethodDescriptor yX13_isClass.desc).map (fun d => d.parameters.length) = some 1 := ⟨rfl, kSX13_isClass⟩
theorem kSX13_halving : yX13_halving.cls ≠ "java/lang/invoke/MethodHandle" ∧ yX13_halving.cls ≠ "java/lang/invoke/VarHandle" ∧ (parseMethodDescriptor yX13_halving.desc).map (fun d => d.parameters.length) = some 1 := by decide +kernel
theorem kVX13_halving : yX13_halving.cls = RX13 ∧ yX13_halving.cls ≠ "java/lang/invoke/MethodHandle" ∧ yX13_halving.cls ≠ "java/lang/invoke/VarHandle" ∧ (parseMethodDescriptor yX13_halving.desc).map (fun d => d.parameters.length) = some 1 := ⟨rfl, kSX13_halving⟩
theorem kSX13_rounds : yX13_rounds.cls ≠ "java/lang/invoke/MethodHandle" ∧ yX13_rounds.cls ≠ "java/lang/invoke/VarHandle" ∧ (parseMethodDescriptor yX13_rounds.desc).map (fun d => d.parameters.length) = some 1 := by decide +kernel
theorem kVX13_rounds : yX13_rounds.cls = RX13 ∧ yX13_rounds.cls ≠ "java/lang/invoke/MethodHandle" ∧ yX13_rounds.cls ≠ "java/lang/invoke/VarHandle" ∧ (parseMethodDescriptor yX13_rounds.desc).map (fun d => d.parameters.length) = some 1 := ⟨rfl, kSX13_rounds⟩
theorem kSX13_fights : yX13_fights.cls ≠ "java/lang/invoke/MethodHandle" ∧ yX13_fights.cls ≠ "java/lang/invoke/VarHandle" ∧ (parseMethodDescriptor yX13_fights.desc).map (fun d => d.parameters.length) = some 1 := by decide +kernel
theorem kVX13_fights : yX13_fights.cls = RX13 ∧ yX13_fights.cls ≠ "java/lang/invoke/MethodHandle" ∧ yX13_fights.cls ≠ "java/lang/invoke/VarHandle" ∧ (parseMethodDescriptor yX13_fights.desc).map (fun d => d.parameters.length) = some 1 := ⟨rfl, kSX13_fights⟩
theorem kSX13_isFight : yX13_isFight.cls ≠ "java/lang/invoke/MethodHandle" ∧ yX13_isFight.cls ≠ "java/lang/invoke/VarHandle" ∧ (parseMethodDescriptor yX13_isFight.desc).map (fun d => d.parameters.length) = some 2 := by decide +kernel
theorem kVX13_isFight : yX13_isFight.cls = RX13 ∧ yX13_isFight.cls ≠ "java/lang/invoke/MethodHandle" ∧ yX13_isFight.cls ≠ "java/lang/invoke/VarHandle" ∧ (parseMethodDescriptor yX13_isFight.desc).map (fun d => d.parameters.length) = some 2 := ⟨rfl, kSX13_isFight⟩
theorem kSX13_wrong : yX13_wrong.cls ≠ "java/lang/invoke/MethodHandle" ∧ yX13_wrong.cls ≠ "java/lang/invoke/VarHandle" ∧ (parseMethodDescriptor yX13_wrong.desc).map (fun d => d.parameters.length) = some 2 := by decide +kernel
theorem kVX13_wrong : yX13_wrong.cls = RX13 ∧ yX13_wrong.cls ≠ "java/lang/invoke/MethodHandle" ∧ yX13_wrong.cls ≠ "java/lang/invoke/VarHandle" ∧ (parseMethodDescriptor yX13_wrong.desc).map (fun d => d.parameters.length) = some 2 := ⟨rfl, kSX13_wrong⟩
theorem kSX13_byteAt : yX13_byteAt.cls ≠ "java/lang/invoke/MethodHandle" ∧ yX13_byteAt.cls ≠ "java/lang/invoke/VarHandle" ∧ (parseMethodDescriptor yX13_byteAt.desc).map (fun d => d.parameters.length) = some 1 := by decide +kernel
theorem kVX13_byteAt : yX13_byteAt.cls = RX13 ∧ yX13_byteAt.cls ≠ "java/lang/invoke/MethodHandle" ∧ yX13_byteAt.cls ≠ "java/lang/invoke/VarHandle" ∧ (parseMethodDescriptor yX13_byteAt.desc).map (fun d => d.parameters.length) = some 1 := ⟨rfl, kSX13_byteAt⟩
theorem kSX13_isLetter : yX13_isLetter.cls ≠ "java/lang/invoke/MethodHandle" ∧ yX13_isLetter.cls ≠ "java/lang/invoke/VarHandle" ∧ (parseMethodDescriptor yX13_isLetter.desc).map (fun d => d.parameters.length) = some 1 := by decide +kernel
theorem kVX13_isLetter : yX13_isLetter.cls = RX13 ∧ yX13_isLetter.cls ≠ "java/lang/invoke/MethodHandle" ∧ yX13_isLetter.cls ≠ "java/lang/invoke/VarHandle" ∧ (parseMethodDescriptor yX13_isLetter.desc).map (fun d => d.parameters.length) = some 1 := ⟨rfl, kSX13_isLetter⟩
theorem kSX13_isDigit : yX13_isDigit.cls ≠ "java/lang/invoke/MethodHandle" ∧ yX13_isDigit.cls ≠ "java/lang/invoke/VarHandle" ∧ (parseMethodDescriptor yX13_isDigit.desc).map (fun d => d.parameters.length) = some 1 := by decide +kernel
theorem kVX13_isDigit : yX13_isDigit.cls = RX13 ∧ yX13_isDigit.cls ≠ "java/lang/invoke/MethodHandle" ∧ yX13_isDigit.cls ≠ "java/lang/invoke/VarHandle" ∧ (parseMethodDescriptor yX13_isDigit.desc).map (fun d => d.parameters.length) = some 1 := ⟨rfl, kSX13_isDigit⟩
theorem kSX13_scan : yX13_scan.cls ≠ "java/lang/invoke/MethodHandle" ∧ yX13_scan.cls ≠ "java/lang/invoke/VarHandle" ∧ (parseMethodDescriptor yX13_scan.desc).map (fun d => d.parameters.length) = some 0 := by decide +kernel
theorem kVX13_scan : yX13_scan.cls = RX13 ∧ yX13_scan.cls ≠ "java/lang/invoke/MethodHandle" ∧ yX13_scan.cls ≠ "java/lang/invoke/VarHandle" ∧ (parseMethodDescriptor yX13_scan.desc).map (fun d => d.parameters.length) = some 0 := ⟨rfl, kSX13_scan⟩
theorem kSX13_is : yX13_is.cls ≠ "java/lang/invoke/MethodHandle" ∧ yX13_is.cls ≠ "java/lang/invoke/VarHandle" ∧ (parseMethodDescriptor yX13_is.desc).map (fun d => d.parameters.length) = some 1 := by decide +kernel
theorem kVX13_is : yX13_is.cls = RX13 ∧ yX13_is.cls ≠ "java/lang/invoke/MethodHandle" ∧ yX13_is.cls ≠ "java/lang/invoke/VarHandle" ∧ (parseMethodDescriptor yX13_is.desc).map (fun d => d.parameters.length) = some 1 := ⟨rfl, kSX13_is⟩
theorem kSX13_need : yX13_need.cls ≠ "java/lang/invoke/MethodHandle" ∧ yX13_need.cls ≠ "java/lang/invoke/VarHandle" ∧ (parseMethodDescriptor yX13_need.desc).map (fun d => d.parameters.length) = some 1 := by decide +kernel
theorem kVX13_need : yX13_need.cls = RX13 ∧ yX13_need.cls ≠ "java/lang/invoke/MethodHandle" ∧ yX13_need.cls ≠ "java/lang/invoke/VarHandle" ∧ (parseMethodDescriptor yX13_need.desc).map (fun d => d.parameters.length) = some 1 := ⟨rfl, kSX13_need⟩
theorem kSX13_number : yX13_number.cls ≠ "java/lang/invoke/MethodHandle" ∧ yX13_number.cls ≠ "java/lang/invoke/VarHandle" ∧ (parseMethodDescriptor yX13_number.desc).map (fun d => d.parameters.length) = some 0 := by decide +kernel
theorem kVX13_number : yX13_number.cls = RX13 ∧ yX13_number.cls ≠ "java/lang/invoke/MethodHandle" ∧ yX13_number.cls ≠ "java/lang/invoke/VarHandle" ∧ (parseMethodDescriptor yX13_number.desc).map (fun d => d.parameters.length) = some 0 := ⟨rfl, kSX13_number⟩
theorem kSX13_readLaws : yX13_readLaws.cls ≠ "java/lang/invoke/MethodHandle" ∧ yX13_readLaws.cls ≠ "java/lang/invoke/VarHandle" ∧ (parseMethodDescriptor yX13_readLaws.desc).map (fun d => d.parameters.length) = some 0 := by decide +kernel
theorem kVX13_readLaws : yX13_readLaws.cls = RX13 ∧ yX13_readLaws.cls ≠ "java/lang/invoke/MethodHandle" ∧ yX13_readLaws.cls ≠ "java/lang/invoke/VarHandle" ∧ (parseMethodDescriptor yX13_readLaws.desc).map (fun d => d.parameters.length) = some 0 := ⟨rfl, kSX13_readLaws⟩
theorem kSX13_act : yX13_act.cls ≠ "java/lang/invoke/MethodHandle" ∧ yX13_act.cls ≠ "java/lang/invoke/VarHandle" ∧ (parseMethodDescriptor yX13_act.desc).map (fun d => d.parameters.length) = some 4 := by decide +kernel
theorem kVX13_act : yX13_act.cls = RX13 ∧ yX13_act.cls ≠ "java/lang/invoke/MethodHandle" ∧ yX13_act.cls ≠ "java/lang/invoke/VarHandle" ∧ (parseMethodDescriptor yX13_act.desc).map (fun d => d.parameters.length) = some 4 := ⟨rfl, kSX13_act⟩
theorem kSX13_does : yX13_does.cls ≠ "java/lang/invoke/MethodHandle" ∧ yX13_does.cls ≠ "java/lang/invoke/VarHandle" ∧ (parseMethodDescriptor yX13_does.desc).map (fun d => d.parameters.length) = some 4 := by decide +kernel
theorem kVX13_does : yX13_does.cls = RX13 ∧ yX13_does.cls ≠ "java/lang/invoke/MethodHandle" ∧ yX13_does.cls ≠ "java/lang/invoke/VarHandle" ∧ (parseMethodDescriptor yX13_does.desc).map (fun d => d.parameters.length) = some 4 := ⟨rfl, kSX13_does⟩
theorem kSX13_undo : yX13_undo.cls ≠ "java/lang/invoke/MethodHandle" ∧ yX13_undo.cls ≠ "java/lang/invoke/VarHandle" ∧ (parseMethodDescriptor yX13_undo.desc).map (fun d => d.parameters.length) = some 0 := by decide +kernel
theorem kVX13_undo : yX13_undo.cls = RX13 ∧ yX13_undo.cls ≠ "java/lang/invoke/MethodHandle" ∧ yX13_undo.cls ≠ "java/lang/invoke/VarHandle" ∧ (parseMethodDescriptor yX13_undo.desc).map (fun d => d.parameters.length) = some 0 := ⟨rfl, kSX13_undo⟩
theorem kSX13_lawsAgain : yX13_lawsAgain.cls ≠ "java/lang/invoke/MethodHandle" ∧ yX13_lawsAgain.cls ≠ "java/lang/invoke/VarHandle" ∧ (parseMethodDescriptor yX13_lawsAgain.desc).map (fun d => d.parameters.length) = some 0 := by decide +kernel
theorem kVX13_lawsAgain : yX13_lawsAgain.cls = RX13 ∧ yX13_lawsAgain.cls ≠ "java/lang/invoke/MethodHandle" ∧ yX13_lawsAgain.cls ≠ "java/lang/invoke/VarHandle" ∧ (parseMethodDescriptor yX13_lawsAgain.desc).map (fun d => d.parameters.length) = some 0 := ⟨rfl, kSX13_lawsAgain⟩
theorem kSX13_laws : yX13_laws.cls ≠ "java/lang/invoke/MethodHandle" ∧ yX13_laws.cls ≠ "java/lang/invoke/VarHandle" ∧ (parseMethodDescriptor yX13_laws.desc).map (fun d => d.parameters.length) = some 0 := by decide +kernel
theorem kVX13_laws : yX13_laws.cls = RX13 ∧ yX13_laws.cls ≠ "java/lang/invoke/MethodHandle" ∧ yX13_laws.cls ≠ "java/lang/invoke/VarHandle" ∧ (parseMethodDescriptor yX13_laws.desc).map (fun d => d.parameters.length) = some 0 := ⟨rfl, kSX13_laws⟩
theorem kSX13_feed : yX13_feed.cls ≠ "java/lang/invoke/MethodHandle" ∧ yX13_feed.cls ≠ "java/lang/invoke/VarHandle" ∧ (parseMethodDescriptor yX13_feed.desc).map (fun d => d.parameters.length) = some 5 := by decide +kernel
theorem kVX13_feed : yX13_feed.cls = RX13 ∧ yX13_feed.cls ≠ "java/lang/invoke/MethodHandle" ∧ yX13_feed.cls ≠ "java/lang/invoke/VarHandle" ∧ (parseMethodDescriptor yX13_feed.desc).map (fun d => d.parameters.length) = some 5 := ⟨rfl, kSX13_feed⟩
theorem kSX13_lay : yX13_lay.cls ≠ "java/lang/invoke/MethodHandle" ∧ yX13_lay.cls ≠ "java/lang/invoke/VarHandle" ∧ (parseMethodDescriptor yX13_lay.desc).map (fun d => d.parameters.length) = some 1 := by decide +kernel
theorem kVX13_lay : yX13_lay.cls = RX13 ∧ yX13_lay.cls ≠ "java/lang/invoke/MethodHandle" ∧ yX13_lay.cls ≠ "java/lang/invoke/VarHandle" ∧ (parseMethodDescriptor yX13_lay.desc).map (fun d => d.parameters.length) = some 1 := ⟨rfl, kSX13_lay⟩
theorem kSX13_end : yX13_end.cls ≠ "java/lang/invoke/MethodHandle" ∧ yX13_end.cls ≠ "java/lang/invoke/VarHandle" ∧ (parseMethodDescriptor yX13_end.desc).map (fun d => d.parameters.length) = some 1 := by decide +kernel
theorem kVX13_end : yX13_end.cls = RX13 ∧ yX13_end.cls ≠ "java/lang/invoke/MethodHandle" ∧ yX13_end.cls ≠ "java/lang/invoke/VarHandle" ∧ (parseMethodDescriptor yX13_end.desc).map (fun d => d.parameters.length) = some 1 := ⟨rfl, kSX13_end⟩
theorem kSX13_fault : yX13_fault.cls ≠ "java/lang/invoke/MethodHandle" ∧ yX13_fault.cls ≠ "java/lang/invoke/VarHandle" ∧ (parseMethodDescriptor yX13_fault.desc).map (fun d => d.parameters.length) = some 1 := by decide +kernel
theorem kVX13_fault : yX13_fault.cls = RX13 ∧ yX13_fault.cls ≠ "java/lang/invoke/MethodHandle" ∧ yX13_fault.cls ≠ "java/lang/invoke/VarHandle" ∧ (parseMethodDescriptor yX13_fault.desc).map (fun d => d.parameters.length) = some 1 := ⟨rfl, kSX13_fault⟩
theorem kSX13_isFighter : yX13_isFighter.cls ≠ "java/lang/invoke/MethodHandle" ∧ yX13_isFighter.cls ≠ "java/lang/invoke/VarHandle" ∧ (parseMethodDescriptor yX13_isFighter.desc).map (fun d => d.parameters.length) = some 1 := by decide +kernel
theorem kVX13_isFighter : yX13_isFighter.cls = RX13 ∧ yX13_isFighter.cls ≠ "java/lang/invoke/MethodHandle" ∧ yX13_isFighter.cls ≠ "java/lang/invoke/VarHandle" ∧ (parseMethodDescriptor yX13_isFighter.desc).map (fun d => d.parameters.length) = some 1 := ⟨rfl, kSX13_isFighter⟩
theorem kSX13_limit : yX13_limit.cls ≠ "java/lang/invoke/MethodHandle" ∧ yX13_limit.cls ≠ "java/lang/invoke/VarHandle" ∧ (parseMethodDescriptor yX13_limit.desc).map (fun d => d.parameters.length) = some 3 := by decide +kernel
theorem kVX13_limit : yX13_limit.cls = RX13 ∧ yX13_limit.cls ≠ "java/lang/invoke/MethodHandle" ∧ yX13_limit.cls ≠ "java/lang/invoke/VarHandle" ∧ (parseMethodDescriptor yX13_limit.desc).map (fun d => d.parameters.length) = some 3 := ⟨rfl, kSX13_limit⟩
theorem kSX13_enter : yX13_enter.cls ≠ "java/lang/invoke/MethodHandle" ∧ yX13_enter.cls ≠ "java/lang/invoke/VarHandle" ∧ (parseMethodDescriptor yX13_enter.desc).map (fun d => d.parameters.length) = some 2 := by decide +kernel
theorem kVX13_enter : yX13_enter.cls = RX13 ∧ yX13_enter.cls ≠ "java/lang/invoke/MethodHandle" ∧ yX13_enter.cls ≠ "java/lang/invoke/VarHandle" ∧ (parseMethodDescriptor yX13_enter.desc).map (fun d => d.parameters.length) = some 2 := ⟨rfl, kSX13_enter⟩
theorem kSX13_comes : yX13_comes.cls ≠ "java/lang/invoke/MethodHandle" ∧ yX13_comes.cls ≠ "java/lang/invoke/VarHandle" ∧ (parseMethodDescriptor yX13_comes.desc).map (fun d => d.parameters.length) = some 2 := by decide +kernel
theorem kVX13_comes : yX13_comes.cls = RX13 ∧ yX13_comes.cls ≠ "java/lang/invoke/MethodHandle" ∧ yX13_comes.cls ≠ "java/lang/invoke/VarHandle" ∧ (parseMethodDescriptor yX13_comes.desc).map (fun d => d.parameters.length) = some 2 := ⟨rfl, kSX13_comes⟩
theorem kSX13_weigh : yX13_weigh.cls ≠ "java/lang/invoke/MethodHandle" ∧ yX13_weigh.cls ≠ "java/lang/invoke/VarHandle" ∧ (parseMethodDescriptor yX13_weigh.desc).map (fun d => d.parameters.length) = some 2 := by decide +kernel
theorem kVX13_weigh : yX13_weigh.cls = RX13 ∧ yX13_weigh.cls ≠ "java/lang/invoke/MethodHandle" ∧ yX13_weigh.cls ≠ "java/lang/invoke/VarHandle" ∧ (parseMethodDescriptor yX13_weigh.desc).map (fun d => d.parameters.length) = some 2 := ⟨rfl, kSX13_weigh⟩
theorem kSX13_seed : yX13_seed.cls ≠ "java/lang/invoke/MethodHandle" ∧ yX13_seed.cls ≠ "java/lang/invoke/VarHandle" ∧ (parseMethodDescriptor yX13_seed.desc).map (fun d => d.parameters.length) = some 2 := by decide +kernel
theorem kVX13_seed : yX13_seed.cls = RX13 ∧ yX13_seed.cls ≠ "java/lang/invoke/MethodHandle" ∧ yX13_seed.cls ≠ "java/lang/invoke/VarHandle" ∧ (parseMethodDescriptor yX13_seed.desc).map (fun d => d.parameters.length) = some 2 := ⟨rfl, kSX13_seed⟩
theorem kSX13_weighed : yX13_weighed.cls ≠ "java/lang/invoke/MethodHandle" ∧ yX13_weighed.cls ≠ "java/lang/invoke/VarHandle" ∧ (parseMethodDescriptor yX13_weighed.desc).map (fun d => d.parameters.length) = some 1 := by decide +kernel
theorem kVX13_weighed : yX13_weighed.cls = RX13 ∧ yX13_weighed.cls ≠ "java/lang/invoke/MethodHandle" ∧ yX13_weighed.cls ≠ "java/lang/invoke/VarHandle" ∧ (parseMethodDescriptor yX13_weighed.desc).map (fun d => d.parameters.length) = some 1 := ⟨rfl, kSX13_weighed⟩
theorem kSX13_draw : yX13_draw.cls ≠ "java/lang/invoke/MethodHandle" ∧ yX13_draw.cls ≠ "java/lang/invoke/VarHandle" ∧ (parseMethodDescriptor yX13_draw.desc).map (fun d => d.parameters.length) = some 1 := by decide +kernel
theorem kVX13_draw : yX13_draw.cls = RX13 ∧ yX13_draw.cls ≠ "java/lang/invoke/MethodHandle" ∧ yX13_draw.cls ≠ "java/lang/invoke/VarHandle" ∧ (parseMethodDescriptor yX13_draw.desc).map (fun d => d.parameters.length) = some 1 := ⟨rfl, kSX13_draw⟩
theorem kSX13_fighter : yX13_fighter.cls ≠ "java/lang/invoke/MethodHandle" ∧ yX13_fighter.cls ≠ "java/lang/invoke/VarHandle" ∧ (parseMethodDescriptor yX13_fighter.desc).map (fun d => d.parameters.length) = some 2 := by decide +kernel
theorem kVX13_fighter : yX13_fighter.cls = RX13 ∧ yX13_fighter.cls ≠ "java/lang/invoke/MethodHandle" ∧ yX13_fighter.cls ≠ "java/lang/invoke/VarHandle" ∧ (parseMethodDescriptor yX13_fighter.desc).map (fun d => d.parameters.length) = some 2 := ⟨rfl, kSX13_fighter⟩
theorem kSX13_about : yX13_about.cls ≠ "java/lang/invoke/MethodHandle" ∧ yX13_about.cls ≠ "java/lang/invoke/VarHandle" ∧ (parseMethodDescriptor yX13_about.desc).map (fun d => d.parameters.length) = some 2 := by decide +kernel
theorem kVX13_about : yX13_about.cls = RX13 ∧ yX13_about.cls ≠ "java/lang/invoke/MethodHandle" ∧ yX13_about.cls ≠ "java/lang/invoke/VarHandle" ∧ (parseMethodDescriptor yX13_about.desc).map (fun d => d.parameters.length) = some 2 := ⟨rfl, kSX13_about⟩
theorem kSX13_fight : yX13_fight.cls ≠ "java/lang/invoke/MethodHandle" ∧ yX13_fight.cls ≠ "java/lang/invoke/VarHandle" ∧ (parseMethodDescriptor yX13_fight.desc).map (fun d => d.parameters.length) = some 3 := by decide +kernel
theorem kVX13_fight : yX13_fight.cls = RX13 ∧ yX13_fight.cls ≠ "java/lang/invoke/MethodHandle" ∧ yX13_fight.cls ≠ "java/lang/invoke/VarHandle" ∧ (parseMethodDescriptor yX13_fight.desc).map (fun d => d.parameters.length) = some 3 := ⟨rfl, kSX13_fight⟩
theorem kSX13_now : yX13_now.cls ≠ "java/lang/invoke/MethodHandle" ∧ yX13_now.cls ≠ "java/lang/invoke/VarHandle" ∧ (parseMethodDescriptor yX13_now.desc).map (fun d => d.parameters.length) = some 1 := by decide +kernel
theorem kVX13_now : yX13_now.cls = RX13 ∧ yX13_now.cls ≠ "java/lang/invoke/MethodHandle" ∧ yX13_now.cls ≠ "java/lang/invoke/VarHandle" ∧ (parseMethodDescriptor yX13_now.desc).map (fun d => d.parameters.length) = some 1 := ⟨rfl, kSX13_now⟩
theorem kSX13_rest : yX13_rest.cls ≠ "java/lang/invoke/MethodHandle" ∧ yX13_rest.cls ≠ "java/lang/invoke/VarHandle" ∧ (parseMethodDescriptor yX13_rest.desc).map (fun d => d.parameters.length) = some 1 := by decide +kernel
theorem kVX13_rest : yX13_rest.cls = RX13 ∧ yX13_rest.cls ≠ "java/lang/invoke/MethodHandle" ∧ yX13_rest.cls ≠ "java/lang/invoke/VarHandle" ∧ (parseMethodDescriptor yX13_rest.desc).map (fun d => d.parameters.length) = some 1 := ⟨rfl, kSX13_rest⟩
theorem kSX13_isMat : yX13_isMat.cls ≠ "java/lang/invoke/MethodHandle" ∧ yX13_isMat.cls ≠ "java/lang/invoke/VarHandle" ∧ (parseMethodDescriptor yX13_isMat.desc).map (fun d => d.parameters.length) = some 1 := by decide +kernel
theorem kVX13_isMat : yX13_isMat.cls = RX13 ∧ yX13_isMat.cls ≠ "java/lang/invoke/MethodHandle" ∧ yX13_isMat.cls ≠ "java/lang/invoke/VarHandle" ∧ (parseMethodDescriptor yX13_isMat.desc).map (fun d => d.parameters.length) = some 1 := ⟨rfl, kSX13_isMat⟩
theorem kSX13_begin : yX13_begin.cls ≠ "java/lang/invoke/MethodHandle" ∧ yX13_begin.cls ≠ "java/lang/invoke/VarHandle" ∧ (parseMethodDescriptor yX13_begin.desc).map (fun d => d.parameters.length) = some 3 := by decide +kernel
theorem kVX13_begin : yX13_begin.cls = RX13 ∧ yX13_begin.cls ≠ "java/lang/invoke/MethodHandle" ∧ yX13_begin.cls ≠ "java/lang/invoke/VarHandle" ∧ (parseMethodDescriptor yX13_begin.desc).map (fun d => d.parameters.length) = some 3 := ⟨rfl, kSX13_begin⟩
theorem kSX13_event : yX13_event.cls ≠ "java/lang/invoke/MethodHandle" ∧ yX13_event.cls ≠ "java/lang/invoke/VarHandle" ∧ (parseMethodDescriptor yX13_event.desc).map (fun d => d.parameters.length) = some 3 := by decide +kernel
theorem kVX13_event : yX13_event.cls = RX13 ∧ yX13_event.cls ≠ "java/lang/invoke/MethodHandle" ∧ yX13_event.cls ≠ "java/lang/invoke/VarHandle" ∧ (parseMethodDescriptor yX13_event.desc).map (fun d => d.parameters.length) = some 3 := ⟨rfl, kSX13_event⟩
theorem kSX13_tick : yX13_tick.cls ≠ "java/lang/invoke/MethodHandle" ∧ yX13_tick.cls ≠ "java/lang/invoke/VarHandle" ∧ (parseMethodDescriptor yX13_tick.desc).map (fun d => d.parameters.length) = some 2 := by decide +kernel
theorem kVX13_tick : yX13_tick.cls = RX13 ∧ yX13_tick.cls ≠ "java/lang/invoke/MethodHandle" ∧ yX13_tick.cls ≠ "java/lang/invoke/VarHandle" ∧ (parseMethodDescriptor yX13_tick.desc).map (fun d => d.parameters.length) = some 2 := ⟨rfl, kSX13_tick⟩
theorem kSX13_decide : yX13_decide.cls ≠ "java/lang/invoke/MethodHandle" ∧ yX13_decide.cls ≠ "java/lang/invoke/VarHandle" ∧ (parseMethodDescriptor yX13_decide.desc).map (fun d => d.parameters.length) = some 2 := by decide +kernel
theorem kVX13_decide : yX13_decide.cls = RX13 ∧ yX13_decide.cls ≠ "java/lang/invoke/MethodHandle" ∧ yX13_decide.cls ≠ "java/lang/invoke/VarHandle" ∧ (parseMethodDescriptor yX13_decide.desc).map (fun d => d.parameters.length) = some 2 := ⟨rfl, kSX13_decide⟩
theorem kSX13_mat : yX13_mat.cls ≠ "java/lang/invoke/MethodHandle" ∧ yX13_mat.cls ≠ "java/lang/invoke/VarHandle" ∧ (parseMethodDescriptor yX13_mat.desc).map (fun d => d.parameters.length) = some 2 := by decide +kernel
theorem kVX13_mat : yX13_mat.cls = RX13 ∧ yX13_mat.cls ≠ "java/lang/invoke/MethodHandle" ∧ yX13_mat.cls ≠ "java/lang/invoke/VarHandle" ∧ (parseMethodDescriptor yX13_mat.desc).map (fun d => d.parameters.length) = some 2 := ⟨rfl, kSX13_mat⟩
theorem kSX13_strike : yX13_strike.cls ≠ "java/lang/invoke/MethodHandle" ∧ yX13_strike.cls ≠ "java/lang/invoke/VarHandle" ∧ (parseMethodDescriptor yX13_strike.desc).map (fun d => d.parameters.length) = some 2 := by decide +kernel
theorem kVX13_strike : yX13_strike.cls = RX13 ∧ yX13_strike.cls ≠ "java/lang/invoke/MethodHandle" ∧ yX13_strike.cls ≠ "java/lang/invoke/VarHandle" ∧ (parseMethodDescriptor yX13_strike.desc).map (fun d => d.parameters.length) = some 2 := ⟨rfl, kSX13_strike⟩
theorem kSX13_medal : yX13_medal.cls ≠ "java/lang/invoke/MethodHandle" ∧ yX13_medal.cls ≠ "java/lang/invoke/VarHandle" ∧ (parseMethodDescriptor yX13_medal.desc).map (fun d => d.parameters.length) = some 2 := by decide +kernel
theorem kVX13_medal : yX13_medal.cls = RX13 ∧ yX13_medal.cls ≠ "java/lang/invoke/MethodHandle" ∧ yX13_medal.cls ≠ "java/lang/invoke/VarHandle" ∧ (parseMethodDescriptor yX13_medal.desc).map (fun d => d.parameters.length) = some 2 := ⟨rfl, kSX13_medal⟩
theorem kSX13_plan : yX13_plan.cls ≠ "java/lang/invoke/MethodHandle" ∧ yX13_plan.cls ≠ "java/lang/invoke/VarHandle" ∧ (parseMethodDescriptor yX13_plan.desc).map (fun d => d.parameters.length) = some 2 := by decide +kernel
theorem kVX13_plan : yX13_plan.cls = RX13 ∧ yX13_plan.cls ≠ "java/lang/invoke/MethodHandle" ∧ yX13_plan.cls ≠ "java/lang/invoke/VarHandle" ∧ (parseMethodDescriptor yX13_plan.desc).map (fun d => d.parameters.length) = some 2 := ⟨rfl, kSX13_plan⟩
theorem kSX13_planned : yX13_planned.cls ≠ "java/lang/invoke/MethodHandle" ∧ yX13_planned.cls ≠ "java/lang/invoke/VarHandle" ∧ (parseMethodDescriptor yX13_planned.desc).map (fun d => d.parameters.length) = some 3 := by decide +kernel
theorem kVX13_planned : yX13_planned.cls = RX13 ∧ yX13_planned.cls ≠ "java/lang/invoke/MethodHandle" ∧ yX13_planned.cls ≠ "java/lang/invoke/VarHandle" ∧ (parseMethodDescriptor yX13_planned.desc).map (fun d => d.parameters.length) = some 3 := ⟨rfl, kSX13_planned⟩
theorem kSX13_count : yX13_count.cls ≠ "java/lang/invoke/MethodHandle" ∧ yX13_count.cls ≠ "java/lang/invoke/VarHandle" ∧ (parseMethodDescriptor yX13_count.desc).map (fun d => d.parameters.length) = some 1 := by decide +kernel
theorem kVX13_count : yX13_count.cls = RX13 ∧ yX13_count.cls ≠ "java/lang/invoke/MethodHandle" ∧ yX13_count.cls ≠ "java/lang/invoke/VarHandle" ∧ (parseMethodDescriptor yX13_count.desc).map (fun d => d.parameters.length) = some 1 := ⟨rfl, kSX13_count⟩
theorem kSJxa1e45_init_da8c8 : yJxa1e45_init_da8c8.cls ≠ "java/lang/invoke/MethodHandle" ∧ yJxa1e45_init_da8c8.cls ≠ "java/lang/invoke/VarHandle" ∧ (parseMethodDescriptor yJxa1e45_init_da8c8.desc).map (fun d => d.parameters.length) = some 0 := by decide +kernel
theorem kSJxc12de_init_da8c8 : yJxc12de_init_da8c8.cls ≠ "java/lang/invoke/MethodHandle" ∧ yJxc12de_init_da8c8.cls ≠ "java/lang/invoke/VarHandle" ∧ (parseMethodDescriptor yJxc12de_init_da8c8.desc).map (fun d => d.parameters.length) = some 0 := by decide +kernel
theorem kSJx4a65c_init_da8c8 : yJx4a65c_init_da8c8.cls ≠ "java/lang/invoke/MethodHandle" ∧ yJx4a65c_init_da8c8.cls ≠ "java/lang/invoke/VarHandle" ∧ (parseMethodDescriptor yJx4a65c_init_da8c8.desc).map (fun d => d.parameters.length) = some 0 := by decide +kernel
theorem kSJx4a65c_size_8abf5 : yJx4a65c_size_8abf5.cls ≠ "java/lang/invoke/MethodHandle" ∧ yJx4a65c_size_8abf5.cls ≠ "java/lang/invoke/VarHandle" ∧ (parseMethodDescriptor yJx4a65c_size_8abf5.desc).map (fun d => d.parameters.length) = some 0 := by decide +kernel
theorem kVJx4a65c_size_8abf5 : yJx4a65c_size_8abf5.cls = RJx4a65c ∧ yJx4a65c_size_8abf5.cls ≠ "java/lang/invoke/MethodHandle" ∧ yJx4a65c_size_8abf5.cls ≠ "java/lang/invoke/VarHandle" ∧ (parseMethodDescriptor yJx4a65c_size_8abf5.desc).map (fun d => d.parameters.length) = some 0 := ⟨rfl, kSJx4a65c_size_8abf5⟩
theorem kSJ7_fill_53178 : yJ7_fill_53178.cls ≠ "java/lang/invoke/MethodHandle" ∧ yJ7_fill_53178.cls ≠ "java/lang/invoke/VarHandle" ∧ (parseMethodDescriptor yJ7_fill_53178.desc).map (fun d => d.parameters.length) = some 2 := by decide +kernel
theorem kSJ7_copyOf_59c91 : yJ7_copyOf_59c91.cls ≠ "java/lang/invoke/MethodHandle" ∧ yJ7_copyOf_59c91.cls ≠ "java/lang/invoke/VarHandle" ∧ (parseMethodDescriptor yJ7_copyOf_59c91.desc).map (fun d => d.parameters.length) = some 2 := by decide +kernel
end
section
def rg (f : Nat → Int32) (n : Nat) (i : Int32) : Int32 := if i < 0 then -1 else if nI n ≤ i then -1 else f i.toNatClampNeg
def rs (f : Nat → Int32) (n : Nat) (i x : Int32) : Nat → Int32 := if i < 0 then f else if nI n ≤ i then f else upd f i.toNatClampNeg x
theorem gx_ix {i : Int32} {n : Nat} (hn : n < 2 ^ 31) (h0 : ¬ i < 0) (h1 : ¬ nI n ≤ i) : vp_in i n := by
  obtain ⟨j, hj, rfl⟩ := nI_of h0
  exact vp_in_nI (Nat.not_le.mp (fun h => h1 (nI_le h hj))) hn
def wo_c_Row_get : List Cond := [.fieldLink RX9 15 "JudoHall$Row" "cells" "[I"]
def wq_c_Row_get : List Cond := .code yX9_get cX9_get 2 (some .int) :: (wo_c_Row_get ++ (wsX90 ++ []))
theorem gd_c_Row_get : ∀ w ∈ wq_c_Row_get, Gd w := List.forall_mem_cons.mpr ⟨Or.inl rfl, List.forall_mem_append.mpr ⟨gdl wo_c_Row_get (by decide +kernel), (List.forall_mem_append.mpr ⟨gd_wsX90, (fun _ h => absurd h List.not_mem_nil)⟩)⟩⟩
theorem in_c_Row_get : ∀ w ∈ wq_c_Row_get, w ∈ lw_tbl := List.forall_mem_cons.mpr ⟨List.mem_of_getElem? (i := 645) (by decide +kernel), List.forall_mem_append.mpr ⟨inT2 wo_c_Row_get [(1, 56)] (by decide +kernel), (List.forall_mem_append.mpr ⟨in_wsX90, (fun _ h => absurd h List.not_mem_nil)⟩)⟩⟩
set_option maxHeartbeats 4000000 in
set_option maxRecDepth 100000 in
/-- Row.get -/
theorem c_Row_get (l : Launch) (G : gG) (h0 : Nat) (a0 : Nat) (n : Nat) (f : Nat → Int32) (i : Int32) (hn : n < 2 ^ 31) : Met l yX9_get wq_c_Row_get ({ frames := 0, cells := 0, slots := 0, locals := 0 }) (va_Pc [.ref h0, .int i] (pP G [(h0, .inr (10, [.ref a0])), (a0, .inl (gI G, n, .inl f))])) (vp_Si (fun r : Int32 => r = rg f n i)) 0 0 (fun _ => False) := by
  refine Met.ofW (cc := cX9_get) (maxL := 2) (ret := (some .int)) (by decide) rfl ?_
  intro p e s m args below meth c s₁ B hml hv
  obtain ⟨rfl, hP, hB⟩ := hv
  have hx := B.exec
  have hb := B.bytes
  have hr := B.returns
  have hts := atoms_spec (ws := wq_c_Row_get) B.pre
  have hown : s.vm.findClass RX9 = some m.cls := findClass_of_methodNamed B.named
  have hlocks := B.notSynchronized
  have hK := hB.1
  have hP : va_P (gD G) vwCl [(h0, .inr (10, [.ref a0])), (a0, .inl (gI G, n, .inl f))] s.heap := hP
  have hl := lv_entry ([.ref h0, .int i]) (n := 2) (Nat.le_of_ble_eq_true rfl)
  rw [lg_entry_eq]
  generalize (lg_sl ([.ref h0, .int i]) ++ List.replicate (2 - (lg_sl ([.ref h0, .int i])).length) Slot.unset).toArray = ls at hl ⊢
  have hl : lv_has ls 2 [(0, .ref h0), (1, .int i)] := hl
  refine lv_iload_n hx hb dX9_get_0 rfl (lv_at hl 1 rfl) ?_
  refine lv_if_lt (tgt := 22) hx hb dX9_get_1 (by decide) (fun c_1 => ?_) (fun c_1 => ?_)
  · skip
    refine lv_iconst (v := (-1)) hx hb dX9_get_22 (by decide) ?_
    exact W.iret (v := (-1)) hx hb hr (fun t ht hW => ⟨_, rfl, by unfold rg; rw [if_pos c_1], ht⟩) (fun q h => absurd h List.not_mem_nil) dX9_get_23
  · skip
    refine lv_iload_n hx hb dX9_get_4 rfl (lv_at hl 1 rfl) ?_
    refine lv_aload_n hx hb dX9_get_5 rfl (lv_at hl 0 rfl) ?_
    refine va_get (D := gD G) (ci := 10) (v := .ref a0) (C := RX9) (T := TX9) (N := 1) hx hb hts (fun _ h9 => (List.mem_cons_of_mem _ (List.mem_append_right _ (List.mem_append_left _ h9)))) hown hK hP 0 rfl rfl 0 (by decide) (hts (.fieldLink RX9 15 "JudoHall$Row" "cells" "[I") (List.mem_cons_of_mem _ (List.mem_append_left _ (List.mem_of_getElem? (i := 0) rfl)))) (fun _ h9 => h9) rfl dX9_get_6 ?_
    refine va_alen (D := gD G) (v := (nI n)) hx hb hK hP 1 0 rfl rfl (rfl) dX9_get_9 ?_
    refine lv_icmp_ge (tgt := 22) hx hb dX9_get_10 (by decide) (fun c_2 => ?_) (fun c_2 => ?_)
    · skip
      refine lv_iconst (v := (-1)) hx hb dX9_get_22 (by decide) ?_
      exact W.iret (v := (-1)) hx hb hr (fun t ht hW => ⟨_, rfl, by unfold rg; rw [if_neg c_1, if_pos c_2], ht⟩) (fun q h => absurd h List.not_mem_nil) dX9_get_23
    · skip
      refine lv_aload_n hx hb dX9_get_13 rfl (lv_at hl 0 rfl) ?_
      refine va_get (D := gD G) (ci := 10) (v := .ref a0) (C := RX9) (T := TX9) (N := 1) hx hb hts (fun _ h9 => (List.mem_cons_of_mem _ (List.mem_append_right _ (List.mem_append_left _ h9)))) hown hK hP 0 rfl rfl 0 (by decide) (hts (.fieldLink RX9 15 "JudoHall$Row" "cells" "[I") (List.mem_cons_of_mem _ (List.mem_append_left _ (List.mem_of_getElem? (i := 0) rfl)))) (fun _ h9 => h9) rfl dX9_get_14 ?_
      refine lv_iload_n hx hb dX9_get_17 rfl (lv_at hl 1 rfl) ?_
      refine va_iald (D := gD G) hx hb hK hP 1 0 rfl rfl (gx_ix hn c_1 c_2) dX9_get_18 ?_
      refine lv_goto (tgt := 23) hx hb dX9_get_19 (by decide) ?_
      exact W.iret (v := (f i.toNatClampNeg)) hx hb hr (fun t ht hW => ⟨_, rfl, by unfold rg; rw [if_neg c_1, if_neg c_2], ht⟩) (fun q h => absurd h List.not_mem_nil) dX9_get_23

def wo_c_Book_at : List Cond := [.fieldLink RX1 13 "JudoHall$Book" "cells" "[I"]
def wq_c_Book_at : List Cond := .code yX1_at cX1_at 2 (some .int) :: (wo_c_Book_at ++ (wsX10 ++ []))
theorem gd_c_Book_at : ∀ w ∈ wq_c_Book_at, Gd w := List.forall_mem_cons.mpr ⟨Or.inl rfl, List.forall_mem_append.mpr ⟨gdl wo_c_Book_at (by decide +kernel), (List.forall_mem_append.mpr ⟨gd_wsX10, (fun _ h => absurd h List.not_mem_nil)⟩)⟩⟩
theorem in_c_Book_at : ∀ w ∈ wq_c_Book_at, w ∈ lw_tbl := List.forall_mem_cons.mpr ⟨List.mem_of_getElem? (i := 625) (by decide +kernel), List.forall_mem_append.mpr ⟨inT2 wo_c_Book_at [(1, 72)] (by decide +kernel), (List.forall_mem_append.mpr ⟨in_wsX10, (fun _ h => absurd h List.not_mem_nil)⟩)⟩⟩
set_option maxHeartbeats 4000000 in
set_option maxRecDepth 100000 in
/-- Book.at -/
theorem c_Book_at (l : Launch) (G : gG) (h0 : Nat) (a0 : Nat) (n : Nat) (f : Nat → Int32) (v1 : Value) (v2 : Value) (v3 : Value) (v4 : Value) (v5 : Value) (i : Int32) (hn : n < 2 ^ 31) : Met l yX1_at wq_c_Book_at ({ frames := 0, cells := 0, slots := 0, locals := 0 }) (va_Pc [.ref h0, .int i] (pP G [(h0, .inr (2, [.ref a0, v1, v2, v3, v4, v5])), (a0, .inl (gI G, n, .inl f))])) (vp_Si (fun r : Int32 => r = rg f n i)) 0 0 (fun _ => False) := by
  refine Met.ofW (cc := cX1_at) (maxL := 2) (ret := (some .int)) (by decide) rfl ?_
  intro p e s m args below meth c s₁ B hml hv
  obtain ⟨rfl, hP, hB⟩ := hv
  have hx := B.exec
  have hb := B.bytes
  have hr := B.returns
  have hts := atoms_spec (ws := wq_c_Book_at) B.pre
  have hown : s.vm.findClass RX1 = some m.cls := findClass_of_methodNamed B.named
  have hlocks := B.notSynchronized
  have hK := hB.1
  have hP : va_P (gD G) vwCl [(h0, .inr (2, [.ref a0, v1, v2, v3, v4, v5])), (a0, .inl (gI G, n, .inl f))] s.heap := hP
  have hl := lv_entry ([.ref h0, .int i]) (n := 2) (Nat.le_of_ble_eq_true rfl)
  rw [lg_entry_eq]
  generalize (lg_sl ([.ref h0, .int i]) ++ List.replicate (2 - (lg_sl ([.ref h0, .int i])).length) Slot.unset).toArray = ls at hl ⊢
  have hl : lv_has ls 2 [(0, .ref h0), (1, .int i)] := hl
  refine lv_iload_n hx hb dX1_at_0 rfl (lv_at hl 1 rfl) ?_
  refine lv_if_lt (tgt := 22) hx hb dX1_at_1 (by decide) (fun c_1 => ?_) (fun c_1 => ?_)
  · skip
    refine lv_iconst (v := (-1)) hx hb dX1_at_22 (by decide) ?_
    exact W.iret (v := (-1)) hx hb hr (fun t ht hW => ⟨_, rfl, by unfold rg; rw [if_pos c_1], ht⟩) (fun q h => absurd h List.not_mem_nil) dX1_at_23
  · skip
    refine lv_iload_n hx hb dX1_at_4 rfl (lv_at hl 1 rfl) ?_
    refine lv_aload_n hx hb dX1_at_5 rfl (lv_at hl 0 rfl) ?_
    refine va_get (D := gD G) (ci := 2) (v := .ref a0) (C := RX1) (T := TX1) (N := 6) hx hb hts (fun _ h9 => (List.mem_cons_of_mem _ (List.mem_append_right _ (List.mem_append_left _ h9)))) hown hK hP 0 rfl rfl 0 (by decide) (hts (.fieldLink RX1 13 "JudoHall$Book" "cells" "[I") (List.mem_cons_of_mem _ (List.mem_append_left _ (List.mem_of_getElem? (i := 0) rfl)))) (fun _ h9 => h9) rfl dX1_at_6 ?_
    refine va_alen (D := gD G) (v := (nI n)) hx hb hK hP 1 0 rfl rfl (rfl) dX1_at_9 ?_
    refine lv_icmp_ge (tgt := 22) hx hb dX1_at_10 (by decide) (fun c_2 => ?_) (fun c_2 => ?_)
    · skip
      refine lv_iconst (v := (-1)) hx hb dX1_at_22 (by decide) ?_
      exact W.iret (v := (-1)) hx hb hr (fun t ht hW => ⟨_, rfl, by unfold rg; rw [if_neg c_1, if_pos c_2], ht⟩) (fun q h => absurd h List.not_mem_nil) dX1_at_23
    · skip
      refine lv_aload_n hx hb dX1_at_13 rfl (lv_at hl 0 rfl) ?_
      refine va_get (D := gD G) (ci := 2) (v := .ref a0) (C := RX1) (T := TX1) (N := 6) hx hb hts (fun _ h9 => (List.mem_cons_of_mem _ (List.mem_append_right _ (List.mem_append_left _ h9)))) hown hK hP 0 rfl rfl 0 (by decide) (hts (.fieldLink RX1 13 "JudoHall$Book" "cells" "[I") (List.mem_cons_of_mem _ (List.mem_append_left _ (List.mem_of_getElem? (i := 0) rfl)))) (fun _ h9 => h9) rfl dX1_at_14 ?_
      refine lv_iload_n hx hb dX1_at_17 rfl (lv_at hl 1 rfl) ?_
      refine va_iald (D := gD G) hx hb hK hP 1 0 rfl rfl (gx_ix hn c_1 c_2) dX1_at_18 ?_
      refine lv_goto (tgt := 23) hx hb dX1_at_19 (by decide) ?_
      exact W.iret (v := (f i.toNatClampNeg)) hx hb hr (fun t ht hW => ⟨_, rfl, by unfold rg; rw [if_neg c_1, if_neg c_2], ht⟩) (fun q h => absurd h List.not_mem_nil) dX1_at_23

def wo_c_Book_ofClass : List Cond := []
def wq_c_Book_ofClass : List Cond := .code yX1_ofClass cX1_ofClass 2 (some .int) :: (wo_c_Book_ofClass ++ [])
theorem gd_c_Book_ofClass : ∀ w ∈ wq_c_Book_ofClass, Gd w := List.forall_mem_cons.mpr ⟨Or.inl rfl, List.forall_mem_append.mpr ⟨gdl wo_c_Book_ofClass (by decide +kernel), (fun _ h => absurd h List.not_mem_nil)⟩⟩
theorem in_c_Book_ofClass : ∀ w ∈ wq_c_Book_ofClass, w ∈ lw_tbl := List.forall_mem_cons.mpr ⟨List.mem_of_getElem? (i := 220) (by decide +kernel), List.forall_mem_append.mpr ⟨inT2 wo_c_Book_ofClass [] (by decide +kernel), (fun _ h => absurd h List.not_mem_nil)⟩⟩
set_option maxHeartbeats 4000000 in
set_option maxRecDepth 100000 in
theorem c_Book_ofClass (l : Launch) (G : gG) (x : Int32) (y : Int32) : Met l yX1_ofClass wq_c_Book_ofClass ({ frames := 0, cells := 0, slots := 0, locals := 0 }) (va_Pc [.int x, .int y] (pP G [])) (vp_Si (fun r : Int32 => r = 4 + x * 36 + y)) 0 0 (fun _ => False) := by
  refine Met.ofW (cc := cX1_ofClass) (maxL := 2) (ret := (some .int)) (by decide) rfl ?_
  intro p e s m args below meth c s₁ B hml hv
  obtain ⟨rfl, hP, hB⟩ := hv
  have hx := B.exec
  have hb := B.bytes
  have hr := B.returns
  have hts := atoms_spec (ws := wq_c_Book_ofClass) B.pre
  have hown : s.vm.findClass RX1 = some m.cls := findClass_of_methodNamed B.named
  have hlocks := B.notSynchronized
  have hK := hB.1
  have hP : va_P (gD G) vwCl [] s.heap := hP
  have hl := lv_entry ([.int x, .int y]) (n := 2) (Nat.le_of_ble_eq_true rfl)
  rw [lg_entry_eq]
  generalize (lg_sl ([.int x, .int y]) ++ List.replicate (2 - (lg_sl ([.int x, .int y])).length) Slot.unset).toArray = ls at hl ⊢
  have hl : lv_has ls 2 [(0, .int x), (1, .int y)] := hl
  refine lv_iconst (v := 4) hx hb dX1_ofClass_0 (by decide) ?_
  refine lv_iload_n hx hb dX1_ofClass_1 rfl (lv_at hl 0 rfl) ?_
  refine lv_bipush (v := 36) hx hb dX1_ofClass_2 (by decide) ?_
  refine lv_imul hx hb dX1_ofClass_4 ?_
  refine lv_iadd hx hb dX1_ofClass_5 ?_
  refine lv_iload_n hx hb dX1_ofClass_6 rfl (lv_at hl 1 rfl) ?_
  refine lv_iadd hx hb dX1_ofClass_7 ?_
  exact W.iret (v := ((4 + (x * 36)) + y)) hx hb hr (fun t ht hW => ⟨_, rfl, rfl, ht⟩) (fun q h => absurd h List.not_mem_nil) dX1_ofClass_8

def wo_c_Book_ofMat : List Cond := []
def wq_c_Book_ofMat : List Cond := .code yX1_ofMat cX1_ofMat 2 (some .int) :: (wo_c_Book_ofMat ++ [])
theorem gd_c_Book_ofMat : ∀ w ∈ wq_c_Book_ofMat, Gd w := List.forall_mem_cons.mpr ⟨Or.inl rfl, List.forall_mem_append.mpr ⟨gdl wo_c_Book_ofMat (by decide +kernel), (fun _ h => absurd h List.not_mem_nil)⟩⟩
theorem in_c_Book_ofMat : ∀ w ∈ wq_c_Book_ofMat, w ∈ lw_tbl := List.forall_mem_cons.mpr ⟨List.mem_of_getElem? (i := 224) (by decide +kernel), List.forall_mem_append.mpr ⟨inT2 wo_c_Book_ofMat [] (by decide +kernel), (fun _ h => absurd h List.not_mem_nil)⟩⟩
set_option maxHeartbeats 4000000 in
set_option maxRecDepth 100000 in
theorem c_Book_ofMat (l : Launch) (G : gG) (x : Int32) (y : Int32) : Met l yX1_ofMat wq_c_Book_ofMat ({ frames := 0, cells := 0, slots := 0, locals := 0 }) (va_Pc [.int x, .int y] (pP G [])) (vp_Si (fun r : Int32 => r = 2004 + x * 21 + y)) 0 0 (fun _ => False) := by
  refine Met.ofW (cc := cX1_ofMat) (maxL := 2) (ret := (some .int)) (by decide) rfl ?_
  intro p e s m args below meth c s₁ B hml hv
  obtain ⟨rfl, hP, hB⟩ := hv
  have hx := B.exec
  have hb := B.bytes
  have hr := B.returns
  have hts := atoms_spec (ws := wq_c_Book_ofMat) B.pre
  have hown : s.vm.findClass RX1 = some m.cls := findClass_of_methodNamed B.named
  have hlocks := B.notSynchronized
  have hK := hB.1
  have hP : va_P (gD G) vwCl [] s.heap := hP
  have hl := lv_entry ([.int x, .int y]) (n := 2) (Nat.le_of_ble_eq_true rfl)
  rw [lg_entry_eq]
  generalize (lg_sl ([.int x, .int y]) ++ List.replicate (2 - (lg_sl ([.int x, .int y])).length) Slot.unset).toArray = ls at hl ⊢
  have hl : lv_has ls 2 [(0, .int x), (1, .int y)] := hl
  refine lv_sipush (v := 2004) hx hb dX1_ofMat_0 (by decide) ?_
  refine lv_iload_n hx hb dX1_ofMat_3 rfl (lv_at hl 0 rfl) ?_
  refine lv_bipush (v := 21) hx hb dX1_ofMat_4 (by decide) ?_
  refine lv_imul hx hb dX1_ofMat_6 ?_
  refine lv_iadd hx hb dX1_ofMat_7 ?_
  refine lv_iload_n hx hb dX1_ofMat_8 rfl (lv_at hl 1 rfl) ?_
  refine lv_iadd hx hb dX1_ofMat_9 ?_
  exact W.iret (v := ((2004 + (x * 21)) + y)) hx hb hr (fun t ht hW => ⟨_, rfl, rfl, ht⟩) (fun q h => absurd h List.not_mem_nil) dX1_ofMat_10

def fl (n : Nat) (x : Int32) (f : Nat → Int32) : Nat → Int32 := fun j => if j < n then x else f j
theorem fl_0 (x : Int32) (f : Nat → Int32) : fl 0 x f = f := by funext j; simp [fl]
theorem fl_s (k : Nat) (x : Int32) (f : Nat → Int32) : upd (fl k x f) k x = fl (k + 1) x f := by
  funext j
  unfold upd fl
  by_cases h : j = k
  · subst h; simp
  · by_cases h2 : j < k
    · rw [if_neg h, if_pos h2, if_pos (by omega)]
    · rw [if_neg h, if_neg h2, if_neg (by omega)]

def wo_c_fill : List Cond := []
def wq_c_fill : List Cond := .code yJ7_fill_53178 cJ7_fill_53178 4 none :: (wo_c_fill ++ [])
theorem gd_c_fill : ∀ w ∈ wq_c_fill, Gd w := List.forall_mem_cons.mpr ⟨Or.inl rfl, List.forall_mem_append.mpr ⟨gdl wo_c_fill (by decide +kernel), (fun _ h => absurd h List.not_mem_nil)⟩⟩
theorem in_c_fill : ∀ w ∈ wq_c_fill, w ∈ lw_tbl := List.forall_mem_cons.mpr ⟨List.mem_of_getElem? (i := 208) (by decide +kernel), List.forall_mem_append.mpr ⟨inT2 wo_c_fill [] (by decide +kernel), (fun _ h => absurd h List.not_mem_nil)⟩⟩
set_option maxHeartbeats 4000000 in
set_option maxRecDepth 100000 in
theorem c_fill (l : Launch) (G : gG) (a0 : Nat) (n : Nat) (f : Nat → Int32) (x : Int32) (sz : Nat) (hn : n < 2 ^ 31) : Met l yJ7_fill_53178 wq_c_fill ({ frames := 0, cells := 0, slots := 0, locals := 0 }) (va_Pc [.ref a0, .int x] (mP G [(a0, .inl (gI G, n, .inl f))] sz)) (va_Qv (fun _ : Unit => True) (fun (_ : Unit) (t : State) => va_P (gD G) vwCl [(a0, .inl (gI G, n, .inl (fl n x f)))] t.heap ∧ va_D (va_A [(a0, .inl (gI G, n, .inl f))] sz) [(a0, .inl (gI G, n, .inl (fl n x f)))]) (va_A [(a0, .inl (gI G, n, .inl f))] sz)) 0 0 (va_A [(a0, .inl (gI G, n, .inl f))] sz) := by
  refine Met.ofW (cc := cJ7_fill_53178) (maxL := 4) (ret := none) (by decide) rfl ?_
  intro p e s m args below meth c s₁ B hml hv
  obtain ⟨rfl, hsz, hP, hB, hD0⟩ := hv
  have hx := B.exec
  have hb := B.bytes
  have hr := B.returns
  have hts := atoms_spec (ws := wq_c_fill) B.pre
  have hown : s.vm.findClass RJ7 = some m.cls := findClass_of_methodNamed B.named
  have hlocks := B.notSynchronized
  have hK := hB.1
  subst hsz
  have hD := hD0.self (sz := s.heap.size)
  generalize hAe : va_A [(a0, .inl (gI G, n, .inl f))] s.heap.size = A at hD ⊢
  have hA : ∀ q : Nat, s.heap.size ≤ q → A q := fun q h => by rw [← hAe]; exact Or.inr h
  have hS : va_S A s.heap s.heap [] := va_S.rf
  have hP : va_P (gD G) vwCl [(a0, .inl (gI G, n, .inl f))] s.heap := hP
  have hD : va_D A [(a0, .inl (gI G, n, .inl f))] := hD
  have hl := lv_entry ([.ref a0, .int x]) (n := 4) (Nat.le_of_ble_eq_true rfl)
  rw [lg_entry_eq]
  generalize (lg_sl ([.ref a0, .int x]) ++ List.replicate (4 - (lg_sl ([.ref a0, .int x])).length) Slot.unset).toArray = ls at hl ⊢
  have hl : lv_has ls 4 [(0, .ref a0), (1, .int x)] := hl
  refine lv_iconst (v := 0) hx hb dJ7_fill_53178_0 (by decide) ?_
  refine lv_istore_n (lv' := [(2, .int 0), (0, .ref a0), (1, .int x)]) hx hb dJ7_fill_53178_1 rfl hl (by decide) rfl (fun ls hl => ?_)
  refine lv_aload_n hx hb dJ7_fill_53178_2 rfl (lv_at hl 1 rfl) ?_
  refine va_alen (D := gD G) (v := (nI n)) hx hb hK hP 0 0 rfl rfl (rfl) dJ7_fill_53178_3 ?_
  refine lv_istore_n (lv' := [(3, .int (nI n)), (2, .int 0), (0, .ref a0), (1, .int x)]) hx hb dJ7_fill_53178_4 rfl hl (by decide) rfl (fun ls hl => ?_)
  have hloop5 : ∀ (k9 : Nat) (k : Nat), n - k < k9 → (k ≤ n) → ∀ (H : Heap) (locs : List Loc) (ls : Array Slot), lv_has ls 4 [(2, .int (nI k)), (0, .ref a0), (1, .int x), (3, .int (nI n))] → va_P (gD G) vwCl [(a0, .inl (gI G, n, .inl (fl k x f)))] H → va_D A [(a0, .inl (gI G, n, .inl (fl k x f)))] → va_S A s.heap H locs → W p l e (headSpec wq_c_fill ({ frames := 0, cells := 0, slots := 0, locals := 0 })).room s m [.ref a0, .int x].toArray below meth c H locs 0 0 (MQ below (va_Qv (fun _ : Unit => True) (fun (_ : Unit) (t : State) => va_P (gD G) vwCl [(a0, .inl (gI G, n, .inl (fl n x f)))] t.heap ∧ va_D A [(a0, .inl (gI G, n, .inl (fl n x f)))]) A) [.ref a0, .int x].toArray s 0 0 A) (F0 m 5 ls []) := by
    intro k9
    induction k9 with
    | zero => intro k h9; exact absurd h9 (Nat.not_lt_zero _)
    | succ k9 ih5 =>
      intro k hm5 hkn H locs ls hl hP hD hS
      refine lv_iload_n hx hb dJ7_fill_53178_5 rfl (lv_at hl 0 rfl) ?_
      refine lv_iload_n hx hb dJ7_fill_53178_6 rfl (lv_at hl 3 rfl) ?_
      by_cases hlt : k < n
      · refine lv_icmp_ge (tgt := 20) hx hb dJ7_fill_53178_7 (by decide) (fun c9 => absurd c9 (nI_ge hlt hn)) (fun _ => ?_)
        refine lv_aload_n hx hb dJ7_fill_53178_10 rfl (lv_at hl 1 rfl) ?_
        refine lv_iload_n hx hb dJ7_fill_53178_11 rfl (lv_at hl 0 rfl) ?_
        refine lv_iload_n hx hb dJ7_fill_53178_12 rfl (lv_at hl 2 rfl) ?_
        refine va_iast (D := gD G) hx hb hK hP hD hS 0 0 rfl rfl (vp_in_nI hlt hn) dJ7_fill_53178_13 (fun H locs hP hD hS => ?_)
        have e_1 : upd (fl k x f) ((nI k).toNatClampNeg) x = fl (k + 1) x f := by rw [nI_clamp (by omega), fl_s]
        have hP : va_P (gD G) vwCl [(a0, .inl (gI G, n, .inl (upd (fl k x f) ((nI k).toNatClampNeg) x)))] H := hP
        have hD : va_D A [(a0, .inl (gI G, n, .inl (upd (fl k x f) ((nI k).toNatClampNeg) x)))] := hD
        rw [e_1] at hP hD
        refine lv_iinc (v := (nI (k + 1))) (lv' := [(2, .int (nI (k + 1))), (0, .ref a0), (1, .int x), (3, .int (nI n))]) hx hb dJ7_fill_53178_14 hl (k := 0) rfl (nI_1 k) (by decide) rfl (fun ls hl => ?_)
        refine lv_goto (tgt := 5) hx hb dJ7_fill_53178_17 (by decide) ?_
        exact ih5 (k + 1) (by omega) (by omega) _ _ _ (lv_sub hl [0, 1, 2, 3] rfl) (hP.sub [0] rfl) (hD.sub [0] (by decide) rfl) hS
      · refine lv_icmp_ge (tgt := 20) hx hb dJ7_fill_53178_7 (by decide) (fun _ => ?_) (fun c9 => absurd (nI_le (Nat.not_lt.mp hlt) (by omega)) c9)
        have ek : k = n := by omega
        subst ek
        have hP9 := hP.sub (ws' := [(a0, .inl (gI G, k, .inl (fl k x f)))]) [0] rfl
        have hD9 := hD.sub (ws' := [(a0, .inl (gI G, k, .inl (fl k x f)))]) [0] (by decide) rfl
        exact W.vret hx hb hr (fun t ht hW => ⟨⟨(), rfl, trivial, by rw [ht]; exact hP9, hD9⟩, hS.F ht⟩) hS.2.2 dJ7_fill_53178_20
  exact hloop5 ((n - 0) + 1) 0 (Nat.lt_succ_self _) (Nat.zero_le _) _ _ _ (lv_sub hl [1, 2, 3, 0] rfl) (by rw [fl_0]; exact hP) (by rw [fl_0]; exact hD) hS

def wo_c_Row_fill : List Cond := [.fieldLink RX9 15 "JudoHall$Row" "cells" "[I", .methodLink RX9 21 yJ7_fill_53178, .static yJ7_fill_53178, .initialized RJ7]
def wq_c_Row_fill : List Cond := .code yX9_fill cX9_fill 2 none :: (wo_c_Row_fill ++ (wsX90 ++ (wq_c_fill ++ [])))
theorem gd_c_Row_fill : ∀ w ∈ wq_c_Row_fill, Gd w := List.forall_mem_cons.mpr ⟨Or.inl rfl, List.forall_mem_append.mpr ⟨gdl wo_c_Row_fill (by decide +kernel), (List.forall_mem_append.mpr ⟨gd_wsX90, (List.forall_mem_append.mpr ⟨gd_c_fill, (fun _ h => absurd h List.not_mem_nil)⟩)⟩)⟩⟩
theorem in_c_Row_fill : ∀ w ∈ wq_c_Row_fill, w ∈ lw_tbl := List.forall_mem_cons.mpr ⟨List.mem_of_getElem? (i := 1094) (by decide +kernel), List.forall_mem_append.mpr ⟨inT2 wo_c_Row_fill [(1, 56), (1, 53), (1, 54), (1, 5)] (by decide +kernel), (List.forall_mem_append.mpr ⟨in_wsX90, (List.forall_mem_append.mpr ⟨in_c_fill, (fun _ h => absurd h List.not_mem_nil)⟩)⟩)⟩⟩
set_option maxHeartbeats 4000000 in
set_option maxRecDepth 100000 in
theorem c_Row_fill (l : Launch) (G : gG) (h0 : Nat) (a0 : Nat) (n : Nat) (f : Nat → Int32) (x : Int32) (sz : Nat) (hn : n < 2 ^ 31) : Met l yX9_fill wq_c_Row_fill ({ frames := 1, cells := 0, slots := 0, locals := 23 }) (va_Pc [.ref h0, .int x] (mP G [(h0, .inr (10, [.ref a0])), (a0, .inl (gI G, n, .inl f))] sz)) (va_Qv (fun _ : Unit => True) (fun (_ : Unit) (t : State) => va_P (gD G) vwCl [(h0, .inr (10, [.ref a0])), (a0, .inl (gI G, n, .inl (fl n x f)))] t.heap ∧ va_D (va_A [(h0, .inr (10, [.ref a0])), (a0, .inl (gI G, n, .inl f))] sz) [(h0, .inr (10, [.ref a0])), (a0, .inl (gI G, n, .inl (fl n x f)))]) (va_A [(h0, .inr (10, [.ref a0])), (a0, .inl (gI G, n, .inl f))] sz)) 0 0 (va_A [(h0, .inr (10, [.ref a0])), (a0, .inl (gI G, n, .inl f))] sz) := by
  refine Met.ofW (cc := cX9_fill) (maxL := 2) (ret := none) (by decide) rfl ?_
  intro p e s m args below meth c s₁ B hml hv
  obtain ⟨rfl, hsz, hP, hB, hD0⟩ := hv
  have hx := B.exec
  have hb := B.bytes
  have hr := B.returns
  have hts := atoms_spec (ws := wq_c_Row_fill) B.pre
  have hown : s.vm.findClass RX9 = some m.cls := findClass_of_methodNamed B.named
  have hlocks := B.notSynchronized
  have hK := hB.1
  subst hsz
  have hD := hD0.self (sz := s.heap.size)
  generalize hAe : va_A [(h0, .inr (10, [.ref a0])), (a0, .inl (gI G, n, .inl f))] s.heap.size = A at hD ⊢
  have hA : ∀ q : Nat, s.heap.size ≤ q → A q := fun q h => by rw [← hAe]; exact Or.inr h
  have hS : va_S A s.heap s.heap [] := va_S.rf
  have hP : va_P (gD G) vwCl [(h0, .inr (10, [.ref a0])), (a0, .inl (gI G, n, .inl f))] s.heap := hP
  have hD : va_D A [(h0, .inr (10, [.ref a0])), (a0, .inl (gI G, n, .inl f))] := hD
  have hl := lv_entry ([.ref h0, .int x]) (n := 2) (Nat.le_of_ble_eq_true rfl)
  rw [lg_entry_eq]
  generalize (lg_sl ([.ref h0, .int x]) ++ List.replicate (2 - (lg_sl ([.ref h0, .int x])).length) Slot.unset).toArray = ls at hl ⊢
  have hl : lv_has ls 2 [(0, .ref h0), (1, .int x)] := hl
  refine lv_aload_n hx hb dX9_fill_0 rfl (lv_at hl 0 rfl) ?_
  refine va_get (D := gD G) (ci := 10) (v := .ref a0) (C := RX9) (T := TX9) (N := 1) hx hb hts (fun _ h9 => (List.mem_cons_of_mem _ (List.mem_append_right _ (List.mem_append_left _ h9)))) hown hK hP 0 rfl rfl 0 (by decide) (hts (.fieldLink RX9 15 "JudoHall$Row" "cells" "[I") (List.mem_cons_of_mem _ (List.mem_append_left _ (List.mem_of_getElem? (i := 0) rfl)))) (fun _ h9 => h9) rfl dX9_fill_1 ?_
  refine lv_iload_n hx hb dX9_fill_4 rfl (lv_at hl 1 rfl) ?_
  have hPc := hP.sub (ws' := [(a0, .inl (gI G, n, .inl f))]) [1] rfl
  have hDc := hD.sub (ws' := [(a0, .inl (gI G, n, .inl f))]) [1] (by decide) rfl
  have hFc := va_free (wc := [(a0, .inl (gI G, n, .inl f))]) hD hS hA [1] rfl
  refine va_callv (va_runS (As := [.ref a0, .int x]) (rest := []) ⟨hx, hb, hml, hown, hts⟩ (c_fill l G a0 n f x s.heap.size (hn)) (va_cwS 2 hts (gdS (List.mem_cons_of_mem _ (List.mem_append_left _ (List.mem_of_getElem? (i := 1) rfl))) (List.mem_cons_of_mem _ (List.mem_append_left _ (List.mem_of_getElem? (i := 2) rfl))) (List.mem_cons_of_mem _ (List.mem_append_left _ (List.mem_of_getElem? (i := 3) rfl))) (fun w9 h9 => ⟨(List.mem_cons_of_mem _ (List.mem_append_right _ (List.mem_append_right _ (List.mem_append_left _ h9)))), gd_c_fill w9 h9⟩)) rfl rfl rfl kSJ7_fill_53178 ⟨Nat.le_of_ble_eq_true rfl, Nat.le_of_ble_eq_true rfl⟩) (preS_m (As := [.ref a0, .int x]) hPc hB hDc) rfl rfl hl.1 rfl (lv_room (Nat.le_of_ble_eq_true rfl)) dX9_fill_5 ⟨Nat.le_of_ble_eq_true rfl, Nat.le_of_ble_eq_true rfl⟩) hS (fun q _ h => hFc q h) hFc (fun u t H1 locs ht hvm hw hB1 hz1 hk1 hS => ?_)
  obtain ⟨hP1, hD1⟩ := hB1
  rw [ht] at hP1
  obtain ⟨hP, hD⟩ := va_join (wr := [(h0, .inr (10, [.ref a0]))]) (w1 := [(a0, .inl (gI G, n, .inl (fl n x f)))]) hP hD [1] [0] rfl rfl (by decide) (by decide) hk1 hFc hP1 hD1
  generalize H1 = H at hP hS ⊢
  have hP : va_P (gD G) vwCl [(h0, .inr (10, [.ref a0])), (a0, .inl (gI G, n, .inl (fl n x f)))] H := hP
  have hD : va_D A [(h0, .inr (10, [.ref a0])), (a0, .inl (gI G, n, .inl (fl n x f)))] := hD
  refine W.eq (g2 := F0 m 8 ls []) rfl ?_
  have hP9 := hP.sub (ws' := [(h0, .inr (10, [.ref a0])), (a0, .inl (gI G, n, .inl (fl n x f)))]) [0, 1] rfl
  have hD9 := hD.sub (ws' := [(h0, .inr (10, [.ref a0])), (a0, .inl (gI G, n, .inl (fl n x f)))]) [0, 1] (by decide) rfl
  exact W.vret hx hb hr (fun t ht hW => ⟨⟨(), rfl, trivial, by rw [ht]; exact hP9, hD9⟩, hS.F ht⟩) hS.2.2 dX9_fill_8

def wo_c_Row_set : List Cond := [.fieldLink RX9 15 "JudoHall$Row" "cells" "[I"]
def wq_c_Row_set : List Cond := .code yX9_set cX9_set 3 none :: (wo_c_Row_set ++ (wsX90 ++ []))
theorem gd_c_Row_set : ∀ w ∈ wq_c_Row_set, Gd w := List.forall_mem_cons.mpr ⟨Or.inl rfl, List.forall_mem_append.mpr ⟨gdl wo_c_Row_set (by decide +kernel), (List.forall_mem_append.mpr ⟨gd_wsX90, (fun _ h => absurd h List.not_mem_nil)⟩)⟩⟩
theorem in_c_Row_set : ∀ w ∈ wq_c_Row_set, w ∈ lw_tbl := List.forall_mem_cons.mpr ⟨List.mem_of_getElem? (i := 600) (by decide +kernel), List.forall_mem_append.mpr ⟨inT2 wo_c_Row_set [(1, 56)] (by decide +kernel), (List.forall_mem_append.mpr ⟨in_wsX90, (fun _ h => absurd h List.not_mem_nil)⟩)⟩⟩
set_option maxHeartbeats 4000000 in
set_option maxRecDepth 100000 in
theorem c_Row_set (l : Launch) (G : gG) (h0 : Nat) (a0 : Nat) (n : Nat) (f : Nat → Int32) (i : Int32) (x : Int32) (sz : Nat) (hn : n < 2 ^ 31) : Met l yX9_set wq_c_Row_set ({ frames := 0, cells := 0, slots := 0, locals := 0 }) (va_Pc [.ref h0, .int i, .int x] (mP G [(h0, .inr (10, [.ref a0])), (a0, .inl (gI G, n, .inl f))] sz)) (va_Qv (fun _ : Unit => True) (fun (_ : Unit) (t : State) => va_P (gD G) vwCl [(h0, .inr (10, [.ref a0])), (a0, .inl (gI G, n, .inl (rs f n i x)))] t.heap ∧ va_D (va_A [(h0, .inr (10, [.ref a0])), (a0, .inl (gI G, n, .inl f))] sz) [(h0, .inr (10, [.ref a0])), (a0, .inl (gI G, n, .inl (rs f n i x)))]) (va_A [(h0, .inr (10, [.ref a0])), (a0, .inl (gI G, n, .inl f))] sz)) 0 0 (va_A [(h0, .inr (10, [.ref a0])), (a0, .inl (gI G, n, .inl f))] sz) := by
  refine Met.ofW (cc := cX9_set) (maxL := 3) (ret := none) (by decide) rfl ?_
  intro p e s m args below meth c s₁ B hml hv
  obtain ⟨rfl, hsz, hP, hB, hD0⟩ := hv
  have hx := B.exec
  have hb := B.bytes
  have hr := B.returns
  have hts := atoms_spec (ws := wq_c_Row_set) B.pre
  have hown : s.vm.findClass RX9 = some m.cls := findClass_of_methodNamed B.named
  have hlocks := B.notSynchronized
  have hK := hB.1
  subst hsz
  have hD := hD0.self (sz := s.heap.size)
  generalize hAe : va_A [(h0, .inr (10, [.ref a0])), (a0, .inl (gI G, n, .inl f))] s.heap.size = A at hD ⊢
  have hA : ∀ q : Nat, s.heap.size ≤ q → A q := fun q h => by rw [← hAe]; exact Or.inr h
  have hS : va_S A s.heap s.heap [] := va_S.rf
  have hP : va_P (gD G) vwCl [(h0, .inr (10, [.ref a0])), (a0, .inl (gI G, n, .inl f))] s.heap := hP
  have hD : va_D A [(h0, .inr (10, [.ref a0])), (a0, .inl (gI G, n, .inl f))] := hD
  have hl := lv_entry ([.ref h0, .int i, .int x]) (n := 3) (Nat.le_of_ble_eq_true rfl)
  rw [lg_entry_eq]
  generalize (lg_sl ([.ref h0, .int i, .int x]) ++ List.replicate (3 - (lg_sl ([.ref h0, .int i, .int x])).length) Slot.unset).toArray = ls at hl ⊢
  have hl : lv_has ls 3 [(0, .ref h0), (1, .int i), (2, .int x)] := hl
  refine lv_iload_n hx hb dX9_set_0 rfl (lv_at hl 1 rfl) ?_
  refine lv_if_lt (tgt := 20) hx hb dX9_set_1 (by decide) (fun c_1 => ?_) (fun c_1 => ?_)
  · skip
    have hP9 := hP.sub (ws' := [(h0, .inr (10, [.ref a0])), (a0, .inl (gI G, n, .inl f))]) [0, 1] rfl
    have hD9 := hD.sub (ws' := [(h0, .inr (10, [.ref a0])), (a0, .inl (gI G, n, .inl f))]) [0, 1] (by decide) rfl
    have e_2 : rs f n i x = f := by unfold rs; rw [if_pos c_1]
    exact W.vret hx hb hr (fun t ht hW => ⟨⟨(), rfl, trivial, by rw [ht, e_2]; exact hP9, by rw [e_2]; exact hD9⟩, hS.F ht⟩) hS.2.2 dX9_set_20
  · skip
    refine lv_iload_n hx hb dX9_set_4 rfl (lv_at hl 1 rfl) ?_
    refine lv_aload_n hx hb dX9_set_5 rfl (lv_at hl 0 rfl) ?_
    refine va_get (D := gD G) (ci := 10) (v := .ref a0) (C := RX9) (T := TX9) (N := 1) hx hb hts (fun _ h9 => (List.mem_cons_of_mem _ (List.mem_append_right _ (List.mem_append_left _ h9)))) hown hK hP 0 rfl rfl 0 (by decide) (hts (.fieldLink RX9 15 "JudoHall$Row" "cells" "[I") (List.mem_cons_of_mem _ (List.mem_append_left _ (List.mem_of_getElem? (i := 0) rfl)))) (fun _ h9 => h9) rfl dX9_set_6 ?_
    refine va_alen (D := gD G) (v := (nI n)) hx hb hK hP 1 0 rfl rfl (rfl) dX9_set_9 ?_
    refine lv_icmp_ge (tgt := 20) hx hb dX9_set_10 (by decide) (fun c_3 => ?_) (fun c_3 => ?_)
    · skip
      have hP9 := hP.sub (ws' := [(h0, .inr (10, [.ref a0])), (a0, .inl (gI G, n, .inl f))]) [0, 1] rfl
      have hD9 := hD.sub (ws' := [(h0, .inr (10, [.ref a0])), (a0, .inl (gI G, n, .inl f))]) [0, 1] (by decide) rfl
      have e_4 : rs f n i x = f := by unfold rs; rw [if_neg c_1, if_pos c_3]
      exact W.vret hx hb hr (fun t ht hW => ⟨⟨(), rfl, trivial, by rw [ht, e_4]; exact hP9, by rw [e_4]; exact hD9⟩, hS.F ht⟩) hS.2.2 dX9_set_20
    · skip
      refine lv_aload_n hx hb dX9_set_13 rfl (lv_at hl 0 rfl) ?_
      refine va_get (D := gD G) (ci := 10) (v := .ref a0) (C := RX9) (T := TX9) (N := 1) hx hb hts (fun _ h9 => (List.mem_cons_of_mem _ (List.mem_append_right _ (List.mem_append_left _ h9)))) hown hK hP 0 rfl rfl 0 (by decide) (hts (.fieldLink RX9 15 "JudoHall$Row" "cells" "[I") (List.mem_cons_of_mem _ (List.mem_append_left _ (List.mem_of_getElem? (i := 0) rfl)))) (fun _ h9 => h9) rfl dX9_set_14 ?_
      refine lv_iload_n hx hb dX9_set_17 rfl (lv_at hl 1 rfl) ?_
      refine lv_iload_n hx hb dX9_set_18 rfl (lv_at hl 2 rfl) ?_
      refine va_iast (D := gD G) hx hb hK hP hD hS 1 0 rfl rfl (gx_ix hn c_1 c_3) dX9_set_19 (fun H locs hP hD hS => ?_)
      have hP : va_P (gD G) vwCl [(h0, .inr (10, [.ref a0])), (a0, .inl (gI G, n, .inl (upd f i.toNatClampNeg x)))] H := hP
      have hD : va_D A [(h0, .inr (10, [.ref a0])), (a0, .inl (gI G, n, .inl (upd f i.toNatClampNeg x)))] := hD
      have hP9 := hP.sub (ws' := [(h0, .inr (10, [.ref a0])), (a0, .inl (gI G, n, .inl (upd f i.toNatClampNeg x)))]) [0, 1] rfl
      have hD9 := hD.sub (ws' := [(h0, .inr (10, [.ref a0])), (a0, .inl (gI G, n, .inl (upd f i.toNatClampNeg x)))]) [0, 1] (by decide) rfl
      have e_5 : rs f n i x = upd f i.toNatClampNeg x := by unfold rs; rw [if_neg c_1, if_neg c_3]
      exact W.vret hx hb hr (fun t ht hW => ⟨⟨(), rfl, trivial, by rw [ht, e_5]; exact hP9, by rw [e_5]; exact hD9⟩, hS.F ht⟩) hS.2.2 dX9_set_20

def wo_c_Book_lay : List Cond := [.fieldLink RX1 13 "JudoHall$Book" "cells" "[I"]
def wq_c_Book_lay : List Cond := .code yX1_lay cX1_lay 3 none :: (wo_c_Book_lay ++ (wsX10 ++ []))
theorem gd_c_Book_lay : ∀ w ∈ wq_c_Book_lay, Gd w := List.forall_mem_cons.mpr ⟨Or.inl rfl, List.forall_mem_append.mpr ⟨gdl wo_c_Book_lay (by decide +kernel), (List.forall_mem_append.mpr ⟨gd_wsX10, (fun _ h => absurd h List.not_mem_nil)⟩)⟩⟩
theorem in_c_Book_lay : ∀ w ∈ wq_c_Book_lay, w ∈ lw_tbl := List.forall_mem_cons.mpr ⟨List.mem_of_getElem? (i := 217) (by decide +kernel), List.forall_mem_append.mpr ⟨inT2 wo_c_Book_lay [(1, 72)] (by decide +kernel), (List.forall_mem_append.mpr ⟨in_wsX10, (fun _ h => absurd h List.not_mem_nil)⟩)⟩⟩
set_option maxHeartbeats 4000000 in
set_option maxRecDepth 100000 in
theorem c_Book_lay (l : Launch) (G : gG) (hk : Nat) (a0 : Nat) (n : Nat) (f : Nat → Int32) (v1 : Value) (v2 : Value) (v3 : Value) (v4 : Value) (v5 : Value) (i : Int32) (x : Int32) (sz : Nat) (hn : n < 2 ^ 31) : Met l yX1_lay wq_c_Book_lay ({ frames := 0, cells := 0, slots := 0, locals := 0 }) (va_Pc [.ref hk, .int i, .int x] (mP G [(hk, .inr (2, [.ref a0, v1, v2, v3, v4, v5])), (a0, .inl (gI G, n, .inl f))] sz)) (va_Qv (fun _ : Unit => True) (fun (_ : Unit) (t : State) => va_P (gD G) vwCl [(hk, .inr (2, [.ref a0, v1, v2, v3, v4, v5])), (a0, .inl (gI G, n, .inl (rs f n i x)))] t.heap ∧ va_D (va_A [(hk, .inr (2, [.ref a0, v1, v2, v3, v4, v5])), (a0, .inl (gI G, n, .inl f))] sz) [(hk, .inr (2, [.ref a0, v1, v2, v3, v4, v5])), (a0, .inl (gI G, n, .inl (rs f n i x)))]) (va_A [(hk, .inr (2, [.ref a0, v1, v2, v3, v4, v5])), (a0, .inl (gI G, n, .inl f))] sz)) 0 0 (va_A [(hk, .inr (2, [.ref a0, v1, v2, v3, v4, v5])), (a0, .inl (gI G, n, .inl f))] sz) := by
  refine Met.ofW (cc := cX1_lay) (maxL := 3) (ret := none) (by decide) rfl ?_
  intro p e s m args below meth c s₁ B hml hv
  obtain ⟨rfl, hsz, hP, hB, hD0⟩ := hv
  have hx := B.exec
  have hb := B.bytes
  have hr := B.returns
  have hts := atoms_spec (ws := wq_c_Book_lay) B.pre
  have hown : s.vm.findClass RX1 = some m.cls := findClass_of_methodNamed B.named
  have hlocks := B.notSynchronized
  have hK := hB.1
  subst hsz
  have hD := hD0.self (sz := s.heap.size)
  generalize hAe : va_A [(hk, .inr (2, [.ref a0, v1, v2, v3, v4, v5])), (a0, .inl (gI G, n, .inl f))] s.heap.size = A at hD ⊢
  have hA : ∀ q : Nat, s.heap.size ≤ q → A q := fun q h => by rw [← hAe]; exact Or.inr h
  have hS : va_S A s.heap s.heap [] := va_S.rf
  have hP : va_P (gD G) vwCl [(hk, .inr (2, [.ref a0, v1, v2, v3, v4, v5])), (a0, .inl (gI G, n, .inl f))] s.heap := hP
  have hD : va_D A [(hk, .inr (2, [.ref a0, v1, v2, v3, v4, v5])), (a0, .inl (gI G, n, .inl f))] := hD
  have hl := lv_entry ([.ref hk, .int i, .int x]) (n := 3) (Nat.le_of_ble_eq_true rfl)
  rw [lg_entry_eq]
  generalize (lg_sl ([.ref hk, .int i, .int x]) ++ List.replicate (3 - (lg_sl ([.ref hk, .int i, .int x])).length) Slot.unset).toArray = ls at hl ⊢
  have hl : lv_has ls 3 [(0, .ref hk), (1, .int i), (2, .int x)] := hl
  refine lv_iload_n hx hb dX1_lay_0 rfl (lv_at hl 1 rfl) ?_
  refine lv_if_lt (tgt := 20) hx hb dX1_lay_1 (by decide) (fun c_1 => ?_) (fun c_1 => ?_)
  · skip
    have hP9 := hP.sub (ws' := [(hk, .inr (2, [.ref a0, v1, v2, v3, v4, v5])), (a0, .inl (gI G, n, .inl f))]) [0, 1] rfl
    have hD9 := hD.sub (ws' := [(hk, .inr (2, [.ref a0, v1, v2, v3, v4, v5])), (a0, .inl (gI G, n, .inl f))]) [0, 1] (by decide) rfl
    have e_2 : rs f n i x = f := by unfold rs; rw [if_pos c_1]
    exact W.vret hx hb hr (fun t ht hW => ⟨⟨(), rfl, trivial, by rw [ht, e_2]; exact hP9, by rw [e_2]; exact hD9⟩, hS.F ht⟩) hS.2.2 dX1_lay_20
  · skip
    refine lv_iload_n hx hb dX1_lay_4 rfl (lv_at hl 1 rfl) ?_
    refine lv_aload_n hx hb dX1_lay_5 rfl (lv_at hl 0 rfl) ?_
    refine va_get (D := gD G) (ci := 2) (v := .ref a0) (C := RX1) (T := TX1) (N := 6) hx hb hts (fun _ h9 => (List.mem_cons_of_mem _ (List.mem_append_right _ (List.mem_append_left _ h9)))) hown hK hP 0 rfl rfl 0 (by decide) (hts (.fieldLink RX1 13 "JudoHall$Book" "cells" "[I") (List.mem_cons_of_mem _ (List.mem_append_left _ (List.mem_of_getElem? (i := 0) rfl)))) (fun _ h9 => h9) rfl dX1_lay_6 ?_
    refine va_alen (D := gD G) (v := (nI n)) hx hb hK hP 1 0 rfl rfl (rfl) dX1_lay_9 ?_
    refine lv_icmp_ge (tgt := 20) hx hb dX1_lay_10 (by decide) (fun c_3 => ?_) (fun c_3 => ?_)
    · skip
      have hP9 := hP.sub (ws' := [(hk, .inr (2, [.ref a0, v1, v2, v3, v4, v5])), (a0, .inl (gI G, n, .inl f))]) [0, 1] rfl
      have hD9 := hD.sub (ws' := [(hk, .inr (2, [.ref a0, v1, v2, v3, v4, v5])), (a0, .inl (gI G, n, .inl f))]) [0, 1] (by decide) rfl
      have e_4 : rs f n i x = f := by unfold rs; rw [if_neg c_1, if_pos c_3]
      exact W.vret hx hb hr (fun t ht hW => ⟨⟨(), rfl, trivial, by rw [ht, e_4]; exact hP9, by rw [e_4]; exact hD9⟩, hS.F ht⟩) hS.2.2 dX1_lay_20
    · skip
      refine lv_aload_n hx hb dX1_lay_13 rfl (lv_at hl 0 rfl) ?_
      refine va_get (D := gD G) (ci := 2) (v := .ref a0) (C := RX1) (T := TX1) (N := 6) hx hb hts (fun _ h9 => (List.mem_cons_of_mem _ (List.mem_append_right _ (List.mem_append_left _ h9)))) hown hK hP 0 rfl rfl 0 (by decide) (hts (.fieldLink RX1 13 "JudoHall$Book" "cells" "[I") (List.mem_cons_of_mem _ (List.mem_append_left _ (List.mem_of_getElem? (i := 0) rfl)))) (fun _ h9 => h9) rfl dX1_lay_14 ?_
      refine lv_iload_n hx hb dX1_lay_17 rfl (lv_at hl 1 rfl) ?_
      refine lv_iload_n hx hb dX1_lay_18 rfl (lv_at hl 2 rfl) ?_
      refine va_iast (D := gD G) hx hb hK hP hD hS 1 0 rfl rfl (gx_ix hn c_1 c_3) dX1_lay_19 (fun H locs hP hD hS => ?_)
      have hP : va_P (gD G) vwCl [(hk, .inr (2, [.ref a0, v1, v2, v3, v4, v5])), (a0, .inl (gI G, n, .inl (upd f i.toNatClampNeg x)))] H := hP
      have hD : va_D A [(hk, .inr (2, [.ref a0, v1, v2, v3, v4, v5])), (a0, .inl (gI G, n, .inl (upd f i.toNatClampNeg x)))] := hD
      have hP9 := hP.sub (ws' := [(hk, .inr (2, [.ref a0, v1, v2, v3, v4, v5])), (a0, .inl (gI G, n, .inl (upd f i.toNatClampNeg x)))]) [0, 1] rfl
      have hD9 := hD.sub (ws' := [(hk, .inr (2, [.ref a0, v1, v2, v3, v4, v5])), (a0, .inl (gI G, n, .inl (upd f i.toNatClampNeg x)))]) [0, 1] (by decide) rfl
      have e_5 : rs f n i x = upd f i.toNatClampNeg x := by unfold rs; rw [if_neg c_1, if_neg c_3]
      exact W.vret hx hb hr (fun t ht hW => ⟨⟨(), rfl, trivial, by rw [ht, e_5]; exact hP9, by rw [e_5]; exact hD9⟩, hS.F ht⟩) hS.2.2 dX1_lay_20
end
section
def wo_c_Row_init : List Cond := [.methodLink RX9 3 objectInit, .instanceMethod objectInit, .code objectInit ⟨#[0xb1]⟩ 1 none, .methodLink RX9 9 Lib.Math.max.name, .static Lib.Math.max.name, .initialized RJ9, .code Lib.Math.max.name Lib.Math.max.code 2 (some .int), .arrayClass .int, .fieldLink RX9 15 "JudoHall$Row" "cells" "[I", .methodLink RX9 21 yJ7_fill_53178, .static yJ7_fill_53178, .initialized RJ7]
def wq_c_Row_init : List Cond := .code yX9_init cX9_init 3 none :: (wo_c_Row_init ++ (wsX90 ++ (wq_c_fill ++ [])))
theorem gd_c_Row_init : ∀ w ∈ wq_c_Row_init, Gd w := List.forall_mem_cons.mpr ⟨Or.inl rfl, List.forall_mem_append.mpr ⟨gdl wo_c_Row_init (by decide +kernel), (List.forall_mem_append.mpr ⟨gd_wsX90, (List.forall_mem_append.mpr ⟨gd_c_fill, (fun _ h => absurd h List.not_mem_nil)⟩)⟩)⟩⟩
theorem in_c_Row_init : ∀ w ∈ wq_c_Row_init, w ∈ lw_tbl := List.forall_mem_cons.mpr ⟨List.mem_of_getElem? (i := 201) (by decide +kernel), List.forall_mem_append.mpr ⟨inT2 wo_c_Row_init [(1, 49), (1, 36), (1, 37), (1, 50), (1, 51), (1, 4), (1, 52), (1, 60), (1, 56), (1, 53), (1, 54), (1, 5)] (by decide +kernel), (List.forall_mem_append.mpr ⟨in_wsX90, (List.forall_mem_append.mpr ⟨in_c_fill, (fun _ h => absurd h List.not_mem_nil)⟩)⟩)⟩⟩
set_option maxHeartbeats 4000000 in
set_option maxRecDepth 100000 in
theorem c_Row_init (l : Launch) (G : gG) (h0 : Nat) (n : Nat) (x : Int32) (sz : Nat) (hn : n ≤ 16777216) : Met l yX9_init wq_c_Row_init ({ frames := 1, cells := 1, slots := n, locals := 23 }) (va_Pc [.ref h0, .int (nI n), .int x] (mP G [(h0, .inr (10, [.null]))] sz)) (va_Qv (fun _ : Unit => True) (fun (_ : Unit) (t : State) => ∃ (q : Nat), va_P (gD G) vwCl [(h0, .inr (10, [.ref q])), (q, .inl (gI G, n, .inl (fl n x (fun _ => 0))))] t.heap ∧ va_D (va_A [(h0, .inr (10, [.null]))] sz) [(h0, .inr (10, [.ref q])), (q, .inl (gI G, n, .inl (fl n x (fun _ => 0))))]) (va_A [(h0, .inr (10, [.null]))] sz)) 1 n (va_A [(h0, .inr (10, [.null]))] sz) := by
  refine Met.ofW (cc := cX9_init) (maxL := 3) (ret := none) (by decide) rfl ?_
  intro p e s m args below meth c s₁ B hml hv
  obtain ⟨rfl, hsz, hP, hB, hD0⟩ := hv
  have hx := B.exec
  have hb := B.bytes
  have hr := B.returns
  have hts := atoms_spec (ws := wq_c_Row_init) B.pre
  have hown : s.vm.findClass RX9 = some m.cls := findClass_of_methodNamed B.named
  have hlocks := B.notSynchronized
  have hK := hB.1
  have hin : meth.name = "<init>" := (name_of_methodNamed B.named B.method).1
  subst hsz
  have hD := hD0.self (sz := s.heap.size)
  generalize hAe : va_A [(h0, .inr (10, [.null]))] s.heap.size = A at hD ⊢
  have hA : ∀ q : Nat, s.heap.size ≤ q → A q := fun q h => by rw [← hAe]; exact Or.inr h
  have hS : va_S A s.heap s.heap [] := va_S.rf
  have hP : va_P (gD G) vwCl [(h0, .inr (10, [.null]))] s.heap := hP
  have hD : va_D A [(h0, .inr (10, [.null]))] := hD
  have hl := lv_entry ([.ref h0, .int (nI n), .int x]) (n := 3) (Nat.le_of_ble_eq_true rfl)
  rw [lg_entry_eq]
  generalize (lg_sl ([.ref h0, .int (nI n), .int x]) ++ List.replicate (3 - (lg_sl ([.ref h0, .int (nI n), .int x])).length) Slot.unset).toArray = ls at hl ⊢
  have hl : lv_has ls 3 [(0, .ref h0), (1, .int (nI n)), (2, .int x)] := hl
  refine lv_aload_n hx hb dX9_init_0 rfl (lv_at hl 0 rfl) ?_
  refine W.objInit hx hb hown (hts (.methodLink RX9 3 objectInit) (List.mem_cons_of_mem _ (List.mem_append_left _ (List.mem_of_getElem? (i := 0) rfl)))) (hts (.instanceMethod objectInit) (List.mem_cons_of_mem _ (List.mem_append_left _ (List.mem_of_getElem? (i := 1) rfl)))) (hts _ (List.mem_cons_of_mem _ (List.mem_append_left _ (List.mem_of_getElem? (i := 2) rfl)))) rfl (by rw [hml]; exact hl.1) rfl dX9_init_1 (Nat.le_of_ble_eq_true rfl) (Nat.le_of_ble_eq_true rfl) ?_
  refine W.eq (g2 := F0 m 4 ls []) rfl ?_
  refine lv_aload_n hx hb dX9_init_4 rfl (lv_at hl 0 rfl) ?_
  refine lv_iload_n hx hb dX9_init_5 rfl (lv_at hl 1 rfl) ?_
  refine lv_iconst (v := 0) hx hb dX9_init_6 (by decide) ?_
  refine va_mmax hx hb (hml.trans hl.1.symm) hown (hts (.methodLink RX9 9 Lib.Math.max.name) (List.mem_cons_of_mem _ (List.mem_append_left _ (List.mem_of_getElem? (i := 3) rfl)))) (hts (.static Lib.Math.max.name) (List.mem_cons_of_mem _ (List.mem_append_left _ (List.mem_of_getElem? (i := 4) rfl)))) (hts (.initialized RJ9) (List.mem_cons_of_mem _ (List.mem_append_left _ (List.mem_of_getElem? (i := 5) rfl)))) (hts _ (List.mem_cons_of_mem _ (List.mem_append_left _ (List.mem_of_getElem? (i := 6) rfl)))) (Nat.le_of_ble_eq_true rfl) (Nat.le_of_ble_eq_true rfl) (Nat.le_of_ble_eq_true rfl) (Nat.le_of_ble_eq_true rfl) dX9_init_7 ?_
  refine gx_ti (y := (nI n)) (if_neg (nI_pos (by omega))) ?_
  refine va_newa (atype := .int) (D := gD G) (ty := .int) (a0 := (n, .inl (fun _ => 0))) hx hb (hts (.arrayClass .int) (List.mem_cons_of_mem _ (List.mem_append_left _ (List.mem_of_getElem? (i := 7) rfl)))) rfl hK hP hD hS hA (fun _ => rfl) (nI_pos (by omega)) (nI_clamp (by omega)) (by show n * 4 ≤ 536870912; omega) (Nat.le_of_ble_eq_true rfl) (by show 0 + n ≤ n; omega) dX9_init_10 (fun q_1 k_2 H hK9 hP hD hS => ?_)
  have e_3 : k_2 = gI G := ky_I hK9
  subst e_3
  have hP : va_P (gD G) vwCl [(h0, .inr (10, [.null])), (q_1, .inl (gI G, n, .inl (fun _ => 0)))] H := hP
  have hD : va_D A [(h0, .inr (10, [.null])), (q_1, .inl (gI G, n, .inl (fun _ => 0)))] := hD
  refine va_put (D := gD G) (ci := 10) (v := .ref q_1) (ty := tyX9 0) (C := RX9) (T := TX9) (N := 1) hx hb hts (fun _ h9 => (List.mem_cons_of_mem _ (List.mem_append_right _ (List.mem_append_left _ h9)))) tyX9 tyX9_ok nmX9 hown hK hP hD hS 0 rfl rfl 0 (by decide) (hts (.fieldLink RX9 15 "JudoHall$Row" "cells" "[I") (List.mem_cons_of_mem _ (List.mem_append_left _ (List.mem_of_getElem? (i := 8) rfl)))) (fun _ h9 => h9) rfl (tyX9_ok 0 (by decide)) rfl rfl (Nat.le_of_ble_eq_true rfl) dX9_init_12 (fun H locs hP hD hS => ?_)
  have hP : va_P (gD G) vwCl [(h0, .inr (10, [.ref q_1])), (q_1, .inl (gI G, n, .inl (fun _ => 0)))] H := hP
  have hD : va_D A [(h0, .inr (10, [.ref q_1])), (q_1, .inl (gI G, n, .inl (fun _ => 0)))] := hD
  refine lv_aload_n hx hb dX9_init_15 rfl (lv_at hl 0 rfl) ?_
  refine va_get (D := gD G) (ci := 10) (v := .ref q_1) (C := RX9) (T := TX9) (N := 1) hx hb hts (fun _ h9 => (List.mem_cons_of_mem _ (List.mem_append_right _ (List.mem_append_left _ h9)))) hown hK hP 0 rfl rfl 0 (by decide) (hts (.fieldLink RX9 15 "JudoHall$Row" "cells" "[I") (List.mem_cons_of_mem _ (List.mem_append_left _ (List.mem_of_getElem? (i := 8) rfl)))) (fun _ h9 => h9) rfl dX9_init_16 ?_
  refine lv_iload_n hx hb dX9_init_19 rfl (lv_at hl 2 rfl) ?_
  have hPc := hP.sub (ws' := [(q_1, .inl (gI G, n, .inl (fun _ => 0)))]) [1] rfl
  have hDc := hD.sub (ws' := [(q_1, .inl (gI G, n, .inl (fun _ => 0)))]) [1] (by decide) rfl
  have hFc := va_free (wc := [(q_1, .inl (gI G, n, .inl (fun _ => 0)))]) hD hS hA [1] rfl
  refine va_callv (va_runS (As := [.ref q_1, .int x]) (rest := []) ⟨hx, hb, hml, hown, hts⟩ (c_fill l G q_1 n (fun _ => 0) x H.size (by omega)) (va_cwS 2 hts (gdS (List.mem_cons_of_mem _ (List.mem_append_left _ (List.mem_of_getElem? (i := 9) rfl))) (List.mem_cons_of_mem _ (List.mem_append_left _ (List.mem_of_getElem? (i := 10) rfl))) (List.mem_cons_of_mem _ (List.mem_append_left _ (List.mem_of_getElem? (i := 11) rfl))) (fun w9 h9 => ⟨(List.mem_cons_of_mem _ (List.mem_append_right _ (List.mem_append_right _ (List.mem_append_left _ h9)))), gd_c_fill w9 h9⟩)) rfl rfl rfl kSJ7_fill_53178 ⟨Nat.le_of_ble_eq_true rfl, Nat.le_of_ble_eq_true rfl⟩) (preS_m (As := [.ref q_1, .int x]) hPc hB hDc) rfl rfl hl.1 rfl (lv_room (Nat.le_of_ble_eq_true rfl)) dX9_init_20 ⟨Nat.le_of_ble_eq_true rfl, by show 0 + n + 0 ≤ n; omega⟩) hS (fun q _ h => hFc q h) hFc (fun u t H1 locs ht hvm hw hB1 hz1 hk1 hS => ?_)
  obtain ⟨hP1, hD1⟩ := hB1
  rw [ht] at hP1
  obtain ⟨hP, hD⟩ := va_join (wr := [(h0, .inr (10, [.ref q_1]))]) (w1 := [(q_1, .inl (gI G, n, .inl (fl n x (fun _ => 0))))]) hP hD [1] [0] rfl rfl (by decide) (by decide) hk1 hFc hP1 hD1
  generalize H1 = H at hP hS ⊢
  have hP : va_P (gD G) vwCl [(h0, .inr (10, [.ref q_1])), (q_1, .inl (gI G, n, .inl (fl n x (fun _ => 0))))] H := hP
  have hD : va_D A [(h0, .inr (10, [.ref q_1])), (q_1, .inl (gI G, n, .inl (fl n x (fun _ => 0))))] := hD
  refine W.eq (g2 := F0 m 23 ls []) rfl ?_
  have hP9 := hP.sub (ws' := [(h0, .inr (10, [.ref q_1])), (q_1, .inl (gI G, n, .inl (fl n x (fun _ => 0))))]) [0, 1] rfl
  have hD9 := hD.sub (ws' := [(h0, .inr (10, [.ref q_1])), (q_1, .inl (gI G, n, .inl (fl n x (fun _ => 0))))]) [0, 1] (by decide) rfl
  refine W.widen (k := 1) (n := n) (Nat.le_of_ble_eq_true rfl) (by omega) ?_
  exact W.vret hx hb hr (fun t ht hW => ⟨⟨(), rfl, trivial, q_1, by rw [ht]; exact hP9, hD9⟩, hS.F ht⟩) hS.2.2 dX9_init_23

def bk0 : Nat → Int32 := rs (rs (rs (rs (rs (rs (rs (rs (rs (fun _ => 0) 2088 1 10) 2088 (4 + 0 * 36 + 1) 200000) 2088 (4 + 1 * 36 + 1) 200000) 2088 (4 + 2 * 36 + 1) 200000) 2088 (4 + 3 * 36 + 1) 200000) 2088 (2004 + 0 * 21 + 1) (-1)) 2088 (2004 + 1 * 21 + 1) (-1)) 2088 (2004 + 2 * 21 + 1) (-1)) 2088 (2004 + 3 * 21 + 1) (-1)
def wo_c_Book_init : List Cond := [.methodLink RX1 7 objectInit, .instanceMethod objectInit, .code objectInit ⟨#[0xb1]⟩ 1 none, .arrayClass .int, .fieldLink RX1 13 "JudoHall$Book" "cells" "[I", .classLink RX1 17 RX9, .instantiable RX9 1, .initialized RX9, .methodLink RX1 19 yX9_init, .instanceMethod yX9_init, .fieldLink RX1 22 "JudoHall$Book" "changed" "LJudoHall$Row;", .fieldLink RX1 26 "JudoHall$Book" "before" "LJudoHall$Row;", .fieldLink RX1 29 "JudoHall$Book" "starts" "LJudoHall$Row;", .methodLink RX1 32 yX1_lay, .instanceMethod yX1_lay, .selects RX1 yX1_lay yX1_lay, .initialized RX1, .methodLink RX1 35 yX1_ofClass, .static yX1_ofClass, .constant RX1 39 (200000), .methodLink RX1 40 yX1_ofMat, .static yX1_ofMat]
def wq_c_Book_init : List Cond := .code yX1_init cX1_init 2 none :: (wo_c_Book_init ++ (wsX10 ++ (wsX90 ++ (wq_c_Row_init ++ (wq_c_Book_lay ++ (wq_c_Book_ofClass ++ (wq_c_Book_ofMat ++ [])))))))
theorem gd_c_Book_init : ∀ w ∈ wq_c_Book_init, Gd w := List.forall_mem_cons.mpr ⟨Or.inl rfl, List.forall_mem_append.mpr ⟨gdl wo_c_Book_init (by decide +kernel), (List.forall_mem_append.mpr ⟨gd_wsX10, (List.forall_mem_append.mpr ⟨gd_wsX90, (List.forall_mem_append.mpr ⟨gd_c_Row_init, (List.forall_mem_append.mpr ⟨gd_c_Book_lay, (List.forall_mem_append.mpr ⟨gd_c_Book_ofClass, (List.forall_mem_append.mpr ⟨gd_c_Book_ofMat, (fun _ h => absurd h List.not_mem_nil)⟩)⟩)⟩)⟩)⟩)⟩)⟩⟩
theorem in_c_Book_init : ∀ w ∈ wq_c_Book_init, w ∈ lw_tbl := List.forall_mem_cons.mpr ⟨List.mem_of_getElem? (i := 195) (by decide +kernel), List.forall_mem_append.mpr ⟨inT2 wo_c_Book_init [(1, 43), (1, 36), (1, 37), (1, 60), (1, 72), (1, 44), (1, 45), (1, 3), (1, 46), (1, 47), (1, 73), (1, 74), (1, 75), (1, 61), (1, 63), (0, 0), (1, 2), (1, 65), (1, 66), (1, 68), (1, 69), (1, 70)] (by decide +kernel), (List.forall_mem_append.mpr ⟨in_wsX10, (List.forall_mem_append.mpr ⟨in_wsX90, (List.forall_mem_append.mpr ⟨in_c_Row_init, (List.forall_mem_append.mpr ⟨in_c_Book_lay, (List.forall_mem_append.mpr ⟨in_c_Book_ofClass, (List.forall_mem_append.mpr ⟨in_c_Book_ofMat, (fun _ h => absurd h List.not_mem_nil)⟩)⟩)⟩)⟩)⟩)⟩)⟩⟩
set_option maxHeartbeats 4000000 in
set_option maxRecDepth 100000 in
theorem c_Book_init (l : Launch) (G : gG) (hk : Nat) (sz : Nat) : Met l yX1_init wq_c_Book_init ({ frames := 2, cells := 7, slots := 3615, locals := 45 }) (va_Pc [.ref hk] (mP G [(hk, .inr (2, [.null, .null, .null, .null, .int 0, .int 0]))] sz)) (va_Qv (fun _ : Unit => True) (fun (_ : Unit) (t : State) => ∃ (a0 : Nat) (hc : Nat) (ac : Nat) (hb : Nat) (ab : Nat) (hs : Nat) (as : Nat), va_P (gD G) vwCl [(hk, .inr (2, [.ref a0, .ref hc, .ref hb, .ref hs, .int 0, .int 0])), (a0, .inl (gI G, 2088, .inl bk0)), (hc, .inr (10, [.ref ac])), (ac, .inl (gI G, 512, .inl (fl 512 0 (fun _ => 0)))), (hb, .inr (10, [.ref ab])), (ab, .inl (gI G, 512, .inl (fl 512 0 (fun _ => 0)))), (hs, .inr (10, [.ref as])), (as, .inl (gI G, 500, .inl (fl 500 0 (fun _ => 0))))] t.heap ∧ va_D (va_A [(hk, .inr (2, [.null, .null, .null, .null, .int 0, .int 0]))] sz) [(hk, .inr (2, [.ref a0, .ref hc, .ref hb, .ref hs, .int 0, .int 0])), (a0, .inl (gI G, 2088, .inl bk0)), (hc, .inr (10, [.ref ac])), (ac, .inl (gI G, 512, .inl (fl 512 0 (fun _ => 0)))), (hb, .inr (10, [.ref ab])), (ab, .inl (gI G, 512, .inl (fl 512 0 (fun _ => 0)))), (hs, .inr (10, [.ref as])), (as, .inl (gI G, 500, .inl (fl 500 0 (fun _ => 0))))]) (va_A [(hk, .inr (2, [.null, .null, .null, .null, .int 0, .int 0]))] sz)) 7 3615 (va_A [(hk, .inr (2, [.null, .null, .null, .null, .int 0, .int 0]))] sz) := by
  refine Met.ofW (cc := cX1_init) (maxL := 2) (ret := none) (by decide) rfl ?_
  intro p e s m args below meth c s₁ B hml hv
  obtain ⟨rfl, hsz, hP, hB, hD0⟩ := hv
  have hx := B.exec
  have hb := B.bytes
  have hr := B.returns
  have hts := atoms_spec (ws := wq_c_Book_init) B.pre
  have hown : s.vm.findClass RX1 = some m.cls := findClass_of_methodNamed B.named
  have hlocks := B.notSynchronized
  have hK := hB.1
  have hin : meth.name = "<init>" := (name_of_methodNamed B.named B.method).1
  subst hsz
  have hD := hD0.self (sz := s.heap.size)
  generalize hAe : va_A [(hk, .inr (2, [.null, .null, .null, .null, .int 0, .int 0]))] s.heap.size = A at hD ⊢
  have hA : ∀ q : Nat, s.heap.size ≤ q → A q := fun q h => by rw [← hAe]; exact Or.inr h
  have hS : va_S A s.heap s.heap [] := va_S.rf
  have hP : va_P (gD G) vwCl [(hk, .inr (2, [.null, .null, .null, .null, .int 0, .int 0]))] s.heap := hP
  have hD : va_D A [(hk, .inr (2, [.null, .null, .null, .null, .int 0, .int 0]))] := hD
  have hl := lv_entry ([.ref hk]) (n := 2) (Nat.le_of_ble_eq_true rfl)
  rw [lg_entry_eq]
  generalize (lg_sl ([.ref hk]) ++ List.replicate (2 - (lg_sl ([.ref hk])).length) Slot.unset).toArray = ls at hl ⊢
  have hl : lv_has ls 2 [(0, .ref hk)] := hl
  refine lv_aload_n hx hb dX1_init_0 rfl (lv_at hl 0 rfl) ?_
  refine W.objInit hx hb hown (hts (.methodLink RX1 7 objectInit) (List.mem_cons_of_mem _ (List.mem_append_left _ (List.mem_of_getElem? (i := 0) rfl)))) (hts (.instanceMethod objectInit) (List.mem_cons_of_mem _ (List.mem_append_left _ (List.mem_of_getElem? (i := 1) rfl)))) (hts _ (List.mem_cons_of_mem _ (List.mem_append_left _ (List.mem_of_getElem? (i := 2) rfl)))) rfl (by rw [hml]; exact hl.1) rfl dX1_init_1 (Nat.le_of_ble_eq_true rfl) (Nat.le_of_ble_eq_true rfl) ?_
  refine W.eq (g2 := F0 m 4 ls []) rfl ?_
  refine lv_aload_n hx hb dX1_init_4 rfl (lv_at hl 0 rfl) ?_
  refine lv_sipush (v := 2088) hx hb dX1_init_5 (by decide) ?_
  refine va_newa (atype := .int) (D := gD G) (ty := .int) (a0 := (2088, .inl (fun _ => 0))) hx hb (hts (.arrayClass .int) (List.mem_cons_of_mem _ (List.mem_append_left _ (List.mem_of_getElem? (i := 3) rfl)))) rfl hK hP hD hS hA (fun _ => rfl) (by decide) (by decide) (by decide) (Nat.le_of_ble_eq_true rfl) (Nat.le_of_ble_eq_true rfl) dX1_init_8 (fun q_1 k_2 H hK9 hP hD hS => ?_)
  have e_3 : k_2 = gI G := ky_I hK9
  subst e_3
  have hP : va_P (gD G) vwCl [(hk, .inr (2, [.null, .null, .null, .null, .int 0, .int 0])), (q_1, .inl (gI G, 2088, .inl (fun _ => 0)))] H := hP
  have hD : va_D A [(hk, .inr (2, [.null, .null, .null, .null, .int 0, .int 0])), (q_1, .inl (gI G, 2088, .inl (fun _ => 0)))] := hD
  refine va_putF (D := gD G) (ci := 2) (v := .ref q_1) (ty := tyX1 0) (C := RX1) (T := TX1) (N := 6) hx hb hts (fun _ h9 => (List.mem_cons_of_mem _ (List.mem_append_right _ (List.mem_append_left _ h9)))) tyX1 tyX1_ok nmX1 hown hK hP hD hS 0 rfl rfl 0 (by decide) (hts (.fieldLink RX1 13 "JudoHall$Book" "cells" "[I") (List.mem_cons_of_mem _ (List.mem_append_left _ (List.mem_of_getElem? (i := 4) rfl)))) (fun _ h9 => h9) rfl hin rfl (tyX1_ok 0 (by decide)) rfl rfl (Nat.le_of_ble_eq_true rfl) dX1_init_10 (fun H locs hP hD hS => ?_)
  have hP : va_P (gD G) vwCl [(hk, .inr (2, [.ref q_1, .null, .null, .null, .int 0, .int 0])), (q_1, .inl (gI G, 2088, .inl (fun _ => 0)))] H := hP
  have hD : va_D A [(hk, .inr (2, [.ref q_1, .null, .null, .null, .int 0, .int 0])), (q_1, .inl (gI G, 2088, .inl (fun _ => 0)))] := hD
  refine lv_aload_n hx hb dX1_init_13 rfl (lv_at hl 0 rfl) ?_
  refine va_new (D := gD G) (ci := 10) (fs := [.null]) (C := RX9) (T := TX9) (N := 1) hx hb hts (fun _ h9 => (List.mem_cons_of_mem _ (List.mem_append_right _ (List.mem_append_right _ (List.mem_append_left _ h9))))) tyX9 tyX9_ok hown (hts (.classLink RX1 17 RX9) (List.mem_cons_of_mem _ (List.mem_append_left _ (List.mem_of_getElem? (i := 5) rfl)))) (hts (.instantiable RX9 1) (List.mem_cons_of_mem _ (List.mem_append_left _ (List.mem_of_getElem? (i := 6) rfl)))) (hts (.initialized RX9) (List.mem_cons_of_mem _ (List.mem_append_left _ (List.mem_of_getElem? (i := 7) rfl)))) hK hP hD hS hA rfl dvX9 (Nat.le_of_ble_eq_true rfl) (Nat.le_of_ble_eq_true rfl) dX1_init_14 (fun q_4 H hP hD hS => ?_)
  have hP : va_P (gD G) vwCl [(hk, .inr (2, [.ref q_1, .null, .null, .null, .int 0, .int 0])), (q_1, .inl (gI G, 2088, .inl (fun _ => 0))), (q_4, .inr (10, [.null]))] H := hP
  have hD : va_D A [(hk, .inr (2, [.ref q_1, .null, .null, .null, .int 0, .int 0])), (q_1, .inl (gI G, 2088, .inl (fun _ => 0))), (q_4, .inr (10, [.null]))] := hD
  refine lv_dup hx hb dX1_init_17 rfl ?_
  refine lv_sipush (v := 512) hx hb dX1_init_18 (by decide) ?_
  refine lv_iconst (v := 0) hx hb dX1_init_21 (by decide) ?_
  have hPc := hP.sub (ws' := [(q_4, .inr (10, [.null]))]) [2] rfl
  have hDc := hD.sub (ws' := [(q_4, .inr (10, [.null]))]) [2] (by decide) rfl
  have hFc := va_free (wc := [(q_4, .inr (10, [.null]))]) hD hS hA [2] rfl
  refine va_callv (va_runI (As := [.int 512, .int 0]) (rest := [.ref q_4, .ref hk]) ⟨hx, hb, hml, hown, hts⟩ (c_Row_init l G q_4 512 0 H.size (by decide)) (cwI 2 hts (fun w9 h9 => ⟨(List.mem_cons_of_mem _ (List.mem_append_right _ (List.mem_append_right _ (List.mem_append_right _ (List.mem_append_left _ h9))))), gd_c_Row_init w9 h9⟩) rfl rfl rfl (hts (.initialized RX9) (List.mem_cons_of_mem _ (List.mem_append_left _ (List.mem_of_getElem? (i := 7) rfl)))) (hts (.methodLink RX1 19 yX9_init) (List.mem_cons_of_mem _ (List.mem_append_left _ (List.mem_of_getElem? (i := 8) rfl)))) (hts (.instanceMethod yX9_init) (List.mem_cons_of_mem _ (List.mem_append_left _ (List.mem_of_getElem? (i := 9) rfl)))) rfl kSX9_init ⟨Nat.le_of_ble_eq_true rfl, Nat.le_of_ble_eq_true rfl⟩) (preS_m (As := [.ref q_4, .int 512, .int 0]) hPc hB hDc) rfl rfl hl.1 rfl (lv_room (Nat.le_of_ble_eq_true rfl)) dX1_init_22 ⟨Nat.le_of_ble_eq_true rfl, Nat.le_of_ble_eq_true rfl⟩) hS (fun q _ h => hFc q h) hFc (fun u t H1 locs ht hvm hw hB1 hz1 hk1 hS => ?_)
  obtain ⟨q_6, hP1, hD1⟩ := hB1
  rw [ht] at hP1
  obtain ⟨hP, hD⟩ := va_join (wr := [(hk, .inr (2, [.ref q_1, .null, .null, .null, .int 0, .int 0])), (q_1, .inl (gI G, 2088, .inl (fun _ => 0)))]) (w1 := [(q_4, .inr (10, [.ref q_6])), (q_6, .inl (gI G, 512, .inl (fl 512 0 (fun _ => 0))))]) hP hD [2] [0, 1] rfl rfl (by decide) (by decide) hk1 hFc hP1 hD1
  generalize H1 = H at hP hS ⊢
  have hP : va_P (gD G) vwCl [(hk, .inr (2, [.ref q_1, .null, .null, .null, .int 0, .int 0])), (q_1, .inl (gI G, 2088, .inl (fun _ => 0))), (q_4, .inr (10, [.ref q_6])), (q_6, .inl (gI G, 512, .inl (fl 512 0 (fun _ => 0))))] H := hP
  have hD : va_D A [(hk, .inr (2, [.ref q_1, .null, .null, .null, .int 0, .int 0])), (q_1, .inl (gI G, 2088, .inl (fun _ => 0))), (q_4, .inr (10, [.ref q_6])), (q_6, .inl (gI G, 512, .inl (fl 512 0 (fun _ => 0))))] := hD
  refine W.eq (g2 := F0 m 25 ls [.ref q_4, .ref hk]) rfl ?_
  refine va_putF (D := gD G) (ci := 2) (v := .ref q_4) (ty := tyX1 1) (C := RX1) (T := TX1) (N := 6) hx hb hts (fun _ h9 => (List.mem_cons_of_mem _ (List.mem_append_right _ (List.mem_append_left _ h9)))) tyX1 tyX1_ok nmX1 hown hK hP hD hS 0 rfl rfl 1 (by decide) (hts (.fieldLink RX1 22 "JudoHall$Book" "changed" "LJudoHall$Row;") (List.mem_cons_of_mem _ (List.mem_append_left _ (List.mem_of_getElem? (i := 10) rfl)))) (fun _ h9 => h9) rfl hin rfl (tyX1_ok 1 (by decide)) rfl rfl (Nat.le_of_ble_eq_true rfl) dX1_init_25 (fun H locs hP hD hS => ?_)
  have hP : va_P (gD G) vwCl [(hk, .inr (2, [.ref q_1, .ref q_4, .null, .null, .int 0, .int 0])), (q_1, .inl (gI G, 2088, .inl (fun _ => 0))), (q_4, .inr (10, [.ref q_6])), (q_6, .inl (gI G, 512, .inl (fl 512 0 (fun _ => 0))))] H := hP
  have hD : va_D A [(hk, .inr (2, [.ref q_1, .ref q_4, .null, .null, .int 0, .int 0])), (q_1, .inl (gI G, 2088, .inl (fun _ => 0))), (q_4, .inr (10, [.ref q_6])), (q_6, .inl (gI G, 512, .inl (fl 512 0 (fun _ => 0))))] := hD
  refine lv_aload_n hx hb dX1_init_28 rfl (lv_at hl 0 rfl) ?_
  refine va_new (D := gD G) (ci := 10) (fs := [.null]) (C := RX9) (T := TX9) (N := 1) hx hb hts (fun _ h9 => (List.mem_cons_of_mem _ (List.mem_append_right _ (List.mem_append_right _ (List.mem_append_left _ h9))))) tyX9 tyX9_ok hown (hts (.classLink RX1 17 RX9) (List.mem_cons_of_mem _ (List.mem_append_left _ (List.mem_of_getElem? (i := 5) rfl)))) (hts (.instantiable RX9 1) (List.mem_cons_of_mem _ (List.mem_append_left _ (List.mem_of_getElem? (i := 6) rfl)))) (hts (.initialized RX9) (List.mem_cons_of_mem _ (List.mem_append_left _ (List.mem_of_getElem? (i := 7) rfl)))) hK hP hD hS hA rfl dvX9 (Nat.le_of_ble_eq_true rfl) (Nat.le_of_ble_eq_true rfl) dX1_init_29 (fun q_7 H hP hD hS => ?_)
  have hP : va_P (gD G) vwCl [(hk, .inr (2, [.ref q_1, .ref q_4, .null, .null, .int 0, .int 0])), (q_1, .inl (gI G, 2088, .inl (fun _ => 0))), (q_4, .inr (10, [.ref q_6])), (q_6, .inl (gI G, 512, .inl (fl 512 0 (fun _ => 0)))), (q_7, .inr (10, [.null]))] H := hP
  have hD : va_D A [(hk, .inr (2, [.ref q_1, .ref q_4, .null, .null, .int 0, .int 0])), (q_1, .inl (gI G, 2088, .inl (fun _ => 0))), (q_4, .inr (10, [.ref q_6])), (q_6, .inl (gI G, 512, .inl (fl 512 0 (fun _ => 0)))), (q_7, .inr (10, [.null]))] := hD
  refine lv_dup hx hb dX1_init_32 rfl ?_
  refine lv_sipush (v := 512) hx hb dX1_init_33 (by decide) ?_
  refine lv_iconst (v := 0) hx hb dX1_init_36 (by decide) ?_
  have hPc := hP.sub (ws' := [(q_7, .inr (10, [.null]))]) [4] rfl
  have hDc := hD.sub (ws' := [(q_7, .inr (10, [.null]))]) [4] (by decide) rfl
  have hFc := va_free (wc := [(q_7, .inr (10, [.null]))]) hD hS hA [4] rfl
  refine va_callv (va_runI (As := [.int 512, .int 0]) (rest := [.ref q_7, .ref hk]) ⟨hx, hb, hml, hown, hts⟩ (c_Row_init l G q_7 512 0 H.size (by decide)) (cwI 2 hts (fun w9 h9 => ⟨(List.mem_cons_of_mem _ (List.mem_append_right _ (List.mem_append_right _ (List.mem_append_right _ (List.mem_append_left _ h9))))), gd_c_Row_init w9 h9⟩) rfl rfl rfl (hts (.initialized RX9) (List.mem_cons_of_mem _ (List.mem_append_left _ (List.mem_of_getElem? (i := 7) rfl)))) (hts (.methodLink RX1 19 yX9_init) (List.mem_cons_of_mem _ (List.mem_append_left _ (List.mem_of_getElem? (i := 8) rfl)))) (hts (.instanceMethod yX9_init) (List.mem_cons_of_mem _ (List.mem_append_left _ (List.mem_of_getElem? (i := 9) rfl)))) rfl kSX9_init ⟨Nat.le_of_ble_eq_true rfl, Nat.le_of_ble_eq_true rfl⟩) (preS_m (As := [.ref q_7, .int 512, .int 0]) hPc hB hDc) rfl rfl hl.1 rfl (lv_room (Nat.le_of_ble_eq_true rfl)) dX1_init_37 ⟨Nat.le_of_ble_eq_true rfl, Nat.le_of_ble_eq_true rfl⟩) hS (fun q _ h => hFc q h) hFc (fun u t H1 locs ht hvm hw hB1 hz1 hk1 hS => ?_)
  obtain ⟨q_9, hP1, hD1⟩ := hB1
  rw [ht] at hP1
  obtain ⟨hP, hD⟩ := va_join (wr := [(hk, .inr (2, [.ref q_1, .ref q_4, .null, .null, .int 0, .int 0])), (q_1, .inl (gI G, 2088, .inl (fun _ => 0))), (q_4, .inr (10, [.ref q_6])), (q_6, .inl (gI G, 512, .inl (fl 512 0 (fun _ => 0))))]) (w1 := [(q_7, .inr (10, [.ref q_9])), (q_9, .inl (gI G, 512, .inl (fl 512 0 (fun _ => 0))))]) hP hD [4] [0, 1, 2, 3] rfl rfl (by decide) (by decide) hk1 hFc hP1 hD1
  generalize H1 = H at hP hS ⊢
  have hP : va_P (gD G) vwCl [(hk, .inr (2, [.ref q_1, .ref q_4, .null, .null, .int 0, .int 0])), (q_1, .inl (gI G, 2088, .inl (fun _ => 0))), (q_4, .inr (10, [.ref q_6])), (q_6, .inl (gI G, 512, .inl (fl 512 0 (fun _ => 0)))), (q_7, .inr (10, [.ref q_9])), (q_9, .inl (gI G, 512, .inl (fl 512 0 (fun _ => 0))))] H := hP
  have hD : va_D A [(hk, .inr (2, [.ref q_1, .ref q_4, .null, .null, .int 0, .int 0])), (q_1, .inl (gI G, 2088, .inl (fun _ => 0))), (q_4, .inr (10, [.ref q_6])), (q_6, .inl (gI G, 512, .inl (fl 512 0 (fun _ => 0)))), (q_7, .inr (10, [.ref q_9])), (q_9, .inl (gI G, 512, .inl (fl 512 0 (fun _ => 0))))] := hD
  refine W.eq (g2 := F0 m 40 ls [.ref q_7, .ref hk]) rfl ?_
  refine va_putF (D := gD G) (ci := 2) (v := .ref q_7) (ty := tyX1 2) (C := RX1) (T := TX1) (N := 6) hx hb hts (fun _ h9 => (List.mem_cons_of_mem _ (List.mem_append_right _ (List.mem_append_left _ h9)))) tyX1 tyX1_ok nmX1 hown hK hP hD hS 0 rfl rfl 2 (by decide) (hts (.fieldLink RX1 26 "JudoHall$Book" "before" "LJudoHall$Row;") (List.mem_cons_of_mem _ (List.mem_append_left _ (List.mem_of_getElem? (i := 11) rfl)))) (fun _ h9 => h9) rfl hin rfl (tyX1_ok 2 (by decide)) rfl rfl (Nat.le_of_ble_eq_true rfl) dX1_init_40 (fun H locs hP hD hS => ?_)
  have hP : va_P (gD G) vwCl [(hk, .inr (2, [.ref q_1, .ref q_4, .ref q_7, .null, .int 0, .int 0])), (q_1, .inl (gI G, 2088, .inl (fun _ => 0))), (q_4, .inr (10, [.ref q_6])), (q_6, .inl (gI G, 512, .inl (fl 512 0 (fun _ => 0)))), (q_7, .inr (10, [.ref q_9])), (q_9, .inl (gI G, 512, .inl (fl 512 0 (fun _ => 0))))] H := hP
  have hD : va_D A [(hk, .inr (2, [.ref q_1, .ref q_4, .ref q_7, .null, .int 0, .int 0])), (q_1, .inl (gI G, 2088, .inl (fun _ => 0))), (q_4, .inr (10, [.ref q_6])), (q_6, .inl (gI G, 512, .inl (fl 512 0 (fun _ => 0)))), (q_7, .inr (10, [.ref q_9])), (q_9, .inl (gI G, 512, .inl (fl 512 0 (fun _ => 0))))] := hD
  refine lv_aload_n hx hb dX1_init_43 rfl (lv_at hl 0 rfl) ?_
  refine va_new (D := gD G) (ci := 10) (fs := [.null]) (C := RX9) (T := TX9) (N := 1) hx hb hts (fun _ h9 => (List.mem_cons_of_mem _ (List.mem_append_right _ (List.mem_append_right _ (List.mem_append_left _ h9))))) tyX9 tyX9_ok hown (hts (.classLink RX1 17 RX9) (List.mem_cons_of_mem _ (List.mem_append_left _ (List.mem_of_getElem? (i := 5) rfl)))) (hts (.instantiable RX9 1) (List.mem_cons_of_mem _ (List.mem_append_left _ (List.mem_of_getElem? (i := 6) rfl)))) (hts (.initialized RX9) (List.mem_cons_of_mem _ (List.mem_append_left _ (List.mem_of_getElem? (i := 7) rfl)))) hK hP hD hS hA rfl dvX9 (Nat.le_of_ble_eq_true rfl) (Nat.le_of_ble_eq_true rfl) dX1_init_44 (fun q_10 H hP hD hS => ?_)
  have hP : va_P (gD G) vwCl [(hk, .inr (2, [.ref q_1, .ref q_4, .ref q_7, .null, .int 0, .int 0])), (q_1, .inl (gI G, 2088, .inl (fun _ => 0))), (q_4, .inr (10, [.ref q_6])), (q_6, .inl (gI G, 512, .inl (fl 512 0 (fun _ => 0)))), (q_7, .inr (10, [.ref q_9])), (q_9, .inl (gI G, 512, .inl (fl 512 0 (fun _ => 0)))), (q_10, .inr (10, [.null]))] H := hP
  have hD : va_D A [(hk, .inr (2, [.ref q_1, .ref q_4, .ref q_7, .null, .int 0, .int 0])), (q_1, .inl (gI G, 2088, .inl (fun _ => 0))), (q_4, .inr (10, [.ref q_6])), (q_6, .inl (gI G, 512, .inl (fl 512 0 (fun _ => 0)))), (q_7, .inr (10, [.ref q_9])), (q_9, .inl (gI G, 512, .inl (fl 512 0 (fun _ => 0)))), (q_10, .inr (10, [.null]))] := hD
  refine lv_dup hx hb dX1_init_47 rfl ?_
  refine lv_sipush (v := 500) hx hb dX1_init_48 (by decide) ?_
  refine lv_iconst (v := 0) hx hb dX1_init_51 (by decide) ?_
  have hPc := hP.sub (ws' := [(q_10, .inr (10, [.null]))]) [6] rfl
  have hDc := hD.sub (ws' := [(q_10, .inr (10, [.null]))]) [6] (by decide) rfl
  have hFc := va_free (wc := [(q_10, .inr (10, [.null]))]) hD hS hA [6] rfl
  refine va_callv (va_runI (As := [.int 500, .int 0]) (rest := [.ref q_10, .ref hk]) ⟨hx, hb, hml, hown, hts⟩ (c_Row_init l G q_10 500 0 H.size (by decide)) (cwI 2 hts (fun w9 h9 => ⟨(List.mem_cons_of_mem _ (List.mem_append_right _ (List.mem_append_right _ (List.mem_append_right _ (List.mem_append_left _ h9))))), gd_c_Row_init w9 h9⟩) rfl rfl rfl (hts (.initialized RX9) (List.mem_cons_of_mem _ (List.mem_append_left _ (List.mem_of_getElem? (i := 7) rfl)))) (hts (.methodLink RX1 19 yX9_init) (List.mem_cons_of_mem _ (List.mem_append_left _ (List.mem_of_getElem? (i := 8) rfl)))) (hts (.instanceMethod yX9_init) (List.mem_cons_of_mem _ (List.mem_append_left _ (List.mem_of_getElem? (i := 9) rfl)))) rfl kSX9_init ⟨Nat.le_of_ble_eq_true rfl, Nat.le_of_ble_eq_true rfl⟩) (preS_m (As := [.ref q_10, .int 500, .int 0]) hPc hB hDc) rfl rfl hl.1 rfl (lv_room (Nat.le_of_ble_eq_true rfl)) dX1_init_52 ⟨Nat.le_of_ble_eq_true rfl, Nat.le_of_ble_eq_true rfl⟩) hS (fun q _ h => hFc q h) hFc (fun u t H1 locs ht hvm hw hB1 hz1 hk1 hS => ?_)
  obtain ⟨q_12, hP1, hD1⟩ := hB1
  rw [ht] at hP1
  obtain ⟨hP, hD⟩ := va_join (wr := [(hk, .inr (2, [.ref q_1, .ref q_4, .ref q_7, .null, .int 0, .int 0])), (q_1, .inl (gI G, 2088, .inl (fun _ => 0))), (q_4, .inr (10, [.ref q_6])), (q_6, .inl (gI G, 512, .inl (fl 512 0 (fun _ => 0)))), (q_7, .inr (10, [.ref q_9])), (q_9, .inl (gI G, 512, .inl (fl 512 0 (fun _ => 0))))]) (w1 := [(q_10, .inr (10, [.ref q_12])), (q_12, .inl (gI G, 500, .inl (fl 500 0 (fun _ => 0))))]) hP hD [6] [0, 1, 2, 3, 4, 5] rfl rfl (by decide) (by decide) hk1 hFc hP1 hD1
  generalize H1 = H at hP hS ⊢
  have hP : va_P (gD G) vwCl [(hk, .inr (2, [.ref q_1, .ref q_4, .ref q_7, .null, .int 0, .int 0])), (q_1, .inl (gI G, 2088, .inl (fun _ => 0))), (q_4, .inr (10, [.ref q_6])), (q_6, .inl (gI G, 512, .inl (fl 512 0 (fun _ => 0)))), (q_7, .inr (10, [.ref q_9])), (q_9, .inl (gI G, 512, .inl (fl 512 0 (fun _ => 0)))), (q_10, .inr (10, [.ref q_12])), (q_12, .inl (gI G, 500, .inl (fl 500 0 (fun _ => 0))))] H := hP
  have hD : va_D A [(hk, .inr (2, [.ref q_1, .ref q_4, .ref q_7, .null, .int 0, .int 0])), (q_1, .inl (gI G, 2088, .inl (fun _ => 0))), (q_4, .inr (10, [.ref q_6])), (q_6, .inl (gI G, 512, .inl (fl 512 0 (fun _ => 0)))), (q_7, .inr (10, [.ref q_9])), (q_9, .inl (gI G, 512, .inl (fl 512 0 (fun _ => 0)))), (q_10, .inr (10, [.ref q_12])), (q_12, .inl (gI G, 500, .inl (fl 500 0 (fun _ => 0))))] := hD
  refine W.eq (g2 := F0 m 55 ls [.ref q_10, .ref hk]) rfl ?_
  refine va_putF (D := gD G) (ci := 2) (v := .ref q_10) (ty := tyX1 3) (C := RX1) (T := TX1) (N := 6) hx hb hts (fun _ h9 => (List.mem_cons_of_mem _ (List.mem_append_right _ (List.mem_append_left _ h9)))) tyX1 tyX1_ok nmX1 hown hK hP hD hS 0 rfl rfl 3 (by decide) (hts (.fieldLink RX1 29 "JudoHall$Book" "starts" "LJudoHall$Row;") (List.mem_cons_of_mem _ (List.mem_append_left _ (List.mem_of_getElem? (i := 12) rfl)))) (fun _ h9 => h9) rfl hin rfl (tyX1_ok 3 (by decide)) rfl rfl (Nat.le_of_ble_eq_true rfl) dX1_init_55 (fun H locs hP hD hS => ?_)
  have hP : va_P (gD G) vwCl [(hk, .inr (2, [.ref q_1, .ref q_4, .ref q_7, .ref q_10, .int 0, .int 0])), (q_1, .inl (gI G, 2088, .inl (fun _ => 0))), (q_4, .inr (10, [.ref q_6])), (q_6, .inl (gI G, 512, .inl (fl 512 0 (fun _ => 0)))), (q_7, .inr (10, [.ref q_9])), (q_9, .inl (gI G, 512, .inl (fl 512 0 (fun _ => 0)))), (q_10, .inr (10, [.ref q_12])), (q_12, .inl (gI G, 500, .inl (fl 500 0 (fun _ => 0))))] H := hP
  have hD : va_D A [(hk, .inr (2, [.ref q_1, .ref q_4, .ref q_7, .ref q_10, .int 0, .int 0])), (q_1, .inl (gI G, 2088, .inl (fun _ => 0))), (q_4, .inr (10, [.ref q_6])), (q_6, .inl (gI G, 512, .inl (fl 512 0 (fun _ => 0)))), (q_7, .inr (10, [.ref q_9])), (q_9, .inl (gI G, 512, .inl (fl 512 0 (fun _ => 0)))), (q_10, .inr (10, [.ref q_12])), (q_12, .inl (gI G, 500, .inl (fl 500 0 (fun _ => 0))))] := hD
  refine lv_aload_n hx hb dX1_init_58 rfl (lv_at hl 0 rfl) ?_
  refine lv_iconst (v := 1) hx hb dX1_init_59 (by decide) ?_
  refine lv_bipush (v := 10) hx hb dX1_init_60 (by decide) ?_
  have hPc := hP.sub (ws' := [(hk, .inr (2, [.ref q_1, .ref q_4, .ref q_7, .ref q_10, .int 0, .int 0])), (q_1, .inl (gI G, 2088, .inl (fun _ => 0)))]) [0, 1] rfl
  have hDc := hD.sub (ws' := [(hk, .inr (2, [.ref q_1, .ref q_4, .ref q_7, .ref q_10, .int 0, .int 0])), (q_1, .inl (gI G, 2088, .inl (fun _ => 0)))]) [0, 1] (by decide) rfl
  have hFc := va_free (wc := [(hk, .inr (2, [.ref q_1, .ref q_4, .ref q_7, .ref q_10, .int 0, .int 0])), (q_1, .inl (gI G, 2088, .inl (fun _ => 0)))]) hD hS hA [0, 1] rfl
  refine va_callv (va_runV (As := [.int 1, .int 10]) (rest := []) ⟨hx, hb, hml, hown, hts⟩ (c_Book_lay l G hk q_1 2088 (fun _ => 0) (.ref q_4) (.ref q_7) (.ref q_10) (.int 0) (.int 0) 1 10 H.size (by decide)) (cwV 2 hts (gdV (List.mem_cons_of_mem _ (List.mem_append_left _ (List.mem_of_getElem? (i := 13) rfl))) (List.mem_cons_of_mem _ (List.mem_append_left _ (List.mem_of_getElem? (i := 14) rfl))) (List.mem_cons_of_mem _ (List.mem_append_left _ (List.mem_of_getElem? (i := 15) rfl))) (List.mem_cons_of_mem _ (List.mem_append_left _ (List.mem_of_getElem? (i := 16) rfl))) (fun w9 h9 => ⟨(List.mem_cons_of_mem _ (List.mem_append_right _ (List.mem_append_right _ (List.mem_append_right _ (List.mem_append_right _ (List.mem_append_left _ h9)))))), gd_c_Book_lay w9 h9⟩)) rfl rfl rfl kVX1_lay ⟨Nat.le_of_ble_eq_true rfl, Nat.le_of_ble_eq_true rfl⟩) (preV_m (As := [.int 1, .int 10]) hPc hB hDc rfl rfl) rfl rfl hl.1 rfl (lv_room (Nat.le_of_ble_eq_true rfl)) dX1_init_62 ⟨Nat.le_of_ble_eq_true rfl, Nat.le_of_ble_eq_true rfl⟩) hS (fun q _ h => hFc q h) hFc (fun u t H1 locs ht hvm hw hB1 hz1 hk1 hS => ?_)
  obtain ⟨hP1, hD1⟩ := hB1
  rw [ht] at hP1
  obtain ⟨hP, hD⟩ := va_join (wr := [(q_4, .inr (10, [.ref q_6])), (q_6, .inl (gI G, 512, .inl (fl 512 0 (fun _ => 0)))), (q_7, .inr (10, [.ref q_9])), (q_9, .inl (gI G, 512, .inl (fl 512 0 (fun _ => 0)))), (q_10, .inr (10, [.ref q_12])), (q_12, .inl (gI G, 500, .inl (fl 500 0 (fun _ => 0))))]) (w1 := [(hk, .inr (2, [.ref q_1, .ref q_4, .ref q_7, .ref q_10, .int 0, .int 0])), (q_1, .inl (gI G, 2088, .inl (rs (fun _ => 0) 2088 1 10)))]) hP hD [0, 1] [2, 3, 4, 5, 6, 7] rfl rfl (by decide) (by decide) hk1 hFc hP1 hD1
  generalize H1 = H at hP hS ⊢
  have hP : va_P (gD G) vwCl [(q_4, .inr (10, [.ref q_6])), (q_6, .inl (gI G, 512, .inl (fl 512 0 (fun _ => 0)))), (q_7, .inr (10, [.ref q_9])), (q_9, .inl (gI G, 512, .inl (fl 512 0 (fun _ => 0)))), (q_10, .inr (10, [.ref q_12])), (q_12, .inl (gI G, 500, .inl (fl 500 0 (fun _ => 0)))), (hk, .inr (2, [.ref q_1, .ref q_4, .ref q_7, .ref q_10, .int 0, .int 0])), (q_1, .inl (gI G, 2088, .inl (rs (fun _ => 0) 2088 1 10)))] H := hP
  have hD : va_D A [(q_4, .inr (10, [.ref q_6])), (q_6, .inl (gI G, 512, .inl (fl 512 0 (fun _ => 0)))), (q_7, .inr (10, [.ref q_9])), (q_9, .inl (gI G, 512, .inl (fl 512 0 (fun _ => 0)))), (q_10, .inr (10, [.ref q_12])), (q_12, .inl (gI G, 500, .inl (fl 500 0 (fun _ => 0)))), (hk, .inr (2, [.ref q_1, .ref q_4, .ref q_7, .ref q_10, .int 0, .int 0])), (q_1, .inl (gI G, 2088, .inl (rs (fun _ => 0) 2088 1 10)))] := hD
  refine W.eq (g2 := F0 m 65 ls []) rfl ?_
  refine lv_iconst (v := 0) hx hb dX1_init_65 (by decide) ?_
  refine lv_istore_n (lv' := [(1, .int 0), (0, .ref hk)]) hx hb dX1_init_66 rfl hl (by decide) rfl (fun ls hl => ?_)
  refine lv_iload_n hx hb dX1_init_67 rfl (lv_at hl 0 rfl) ?_
  refine lv_iconst (v := 4) hx hb dX1_init_68 (by decide) ?_
  refine lv_icmp_ge (tgt := 89) hx hb dX1_init_69 (by decide) (fun c9 => absurd c9 (by decide)) (fun _ => ?_)
  refine lv_aload_n hx hb dX1_init_72 rfl (lv_at hl 1 rfl) ?_
  refine lv_iload_n hx hb dX1_init_73 rfl (lv_at hl 0 rfl) ?_
  refine lv_iconst (v := 1) hx hb dX1_init_74 (by decide) ?_
  refine vp_callSi (va_Run.run (va_runS (As := [.int 0, .int 1]) (rest := [.ref hk]) ⟨hx, hb, hml, hown, hts⟩ (c_Book_ofClass l G 0 1) (va_cwS 2 hts (gdS (List.mem_cons_of_mem _ (List.mem_append_left _ (List.mem_of_getElem? (i := 17) rfl))) (List.mem_cons_of_mem _ (List.mem_append_left _ (List.mem_of_getElem? (i := 18) rfl))) (List.mem_cons_of_mem _ (List.mem_append_left _ (List.mem_of_getElem? (i := 16) rfl))) (fun w9 h9 => ⟨(List.mem_cons_of_mem _ (List.mem_append_right _ (List.mem_append_right _ (List.mem_append_right _ (List.mem_append_right _ (List.mem_append_right _ (List.mem_append_left _ h9))))))), gd_c_Book_ofClass w9 h9⟩)) rfl rfl rfl kSX1_ofClass ⟨Nat.le_of_ble_eq_true rfl, Nat.le_of_ble_eq_true rfl⟩) (preS_p (As := [.int 0, .int 1]) (hP.sub (ws' := []) [] rfl) hB) rfl rfl hl.1 rfl (lv_room (Nat.le_of_ble_eq_true rfl)) dX1_init_75 ⟨Nat.le_of_ble_eq_true rfl, Nat.le_of_ble_eq_true rfl⟩)) (fun r_14 hr_14 => ?_)
  subst hr_14
  refine lv_ldc (v := 200000) hx hb hown (hts (.constant RX1 39 (200000)) (List.mem_cons_of_mem _ (List.mem_append_left _ (List.mem_of_getElem? (i := 19) rfl)))) dX1_init_78 ?_
  have hPc := hP.sub (ws' := [(hk, .inr (2, [.ref q_1, .ref q_4, .ref q_7, .ref q_10, .int 0, .int 0])), (q_1, .inl (gI G, 2088, .inl (rs (fun _ => 0) 2088 1 10)))]) [6, 7] rfl
  have hDc := hD.sub (ws' := [(hk, .inr (2, [.ref q_1, .ref q_4, .ref q_7, .ref q_10, .int 0, .int 0])), (q_1, .inl (gI G, 2088, .inl (rs (fun _ => 0) 2088 1 10)))]) [6, 7] (by decide) rfl
  have hFc := va_free (wc := [(hk, .inr (2, [.ref q_1, .ref q_4, .ref q_7, .ref q_10, .int 0, .int 0])), (q_1, .inl (gI G, 2088, .inl (rs (fun _ => 0) 2088 1 10)))]) hD hS hA [6, 7] rfl
  refine va_callv (va_runV (As := [.int (4 + 0 * 36 + 1), .int 200000]) (rest := []) ⟨hx, hb, hml, hown, hts⟩ (c_Book_lay l G hk q_1 2088 (rs (fun _ => 0) 2088 1 10) (.ref q_4) (.ref q_7) (.ref q_10) (.int 0) (.int 0) (4 + 0 * 36 + 1) 200000 H.size (by decide)) (cwV 2 hts (gdV (List.mem_cons_of_mem _ (List.mem_append_left _ (List.mem_of_getElem? (i := 13) rfl))) (List.mem_cons_of_mem _ (List.mem_append_left _ (List.mem_of_getElem? (i := 14) rfl))) (List.mem_cons_of_mem _ (List.mem_append_left _ (List.mem_of_getElem? (i := 15) rfl))) (List.mem_cons_of_mem _ (List.mem_append_left _ (List.mem_of_getElem? (i := 16) rfl))) (fun w9 h9 => ⟨(List.mem_cons_of_mem _ (List.mem_append_right _ (List.mem_append_right _ (List.mem_append_right _ (List.mem_append_right _ (List.mem_append_left _ h9)))))), gd_c_Book_lay w9 h9⟩)) rfl rfl rfl kVX1_lay ⟨Nat.le_of_ble_eq_true rfl, Nat.le_of_ble_eq_true rfl⟩) (preV_m (As := [.int (4 + 0 * 36 + 1), .int 200000]) hPc hB hDc rfl rfl) rfl rfl hl.1 rfl (lv_room (Nat.le_of_ble_eq_true rfl)) dX1_init_80 ⟨Nat.le_of_ble_eq_true rfl, Nat.le_of_ble_eq_true rfl⟩) hS (fun q _ h => hFc q h) hFc (fun u t H1 locs ht hvm hw hB1 hz1 hk1 hS => ?_)
  obtain ⟨hP1, hD1⟩ := hB1
  rw [ht] at hP1
  obtain ⟨hP, hD⟩ := va_join (wr := [(q_4, .inr (10, [.ref q_6])), (q_6, .inl (gI G, 512, .inl (fl 512 0 (fun _ => 0)))), (q_7, .inr (10, [.ref q_9])), (q_9, .inl (gI G, 512, .inl (fl 512 0 (fun _ => 0)))), (q_10, .inr (10, [.ref q_12])), (q_12, .inl (gI G, 500, .inl (fl 500 0 (fun _ => 0))))]) (w1 := [(hk, .inr (2, [.ref q_1, .ref q_4, .ref q_7, .ref q_10, .int 0, .int 0])), (q_1, .inl (gI G, 2088, .inl (rs (rs (fun _ => 0) 2088 1 10) 2088 (4 + 0 * 36 + 1) 200000)))]) hP hD [6, 7] [0, 1, 2, 3, 4, 5] rfl rfl (by decide) (by decide) hk1 hFc hP1 hD1
  generalize H1 = H at hP hS ⊢
  have hP : va_P (gD G) vwCl [(q_4, .inr (10, [.ref q_6])), (q_6, .inl (gI G, 512, .inl (fl 512 0 (fun _ => 0)))), (q_7, .inr (10, [.ref q_9])), (q_9, .inl (gI G, 512, .inl (fl 512 0 (fun _ => 0)))), (q_10, .inr (10, [.ref q_12])), (q_12, .inl (gI G, 500, .inl (fl 500 0 (fun _ => 0)))), (hk, .inr (2, [.ref q_1, .ref q_4, .ref q_7, .ref q_10, .int 0, .int 0])), (q_1, .inl (gI G, 2088, .inl (rs (rs (fun _ => 0) 2088 1 10) 2088 (4 + 0 * 36 + 1) 200000)))] H := hP
  have hD : va_D A [(q_4, .inr (10, [.ref q_6])), (q_6, .inl (gI G, 512, .inl (fl 512 0 (fun _ => 0)))), (q_7, .inr (10, [.ref q_9])), (q_9, .inl (gI G, 512, .inl (fl 512 0 (fun _ => 0)))), (q_10, .inr (10, [.ref q_12])), (q_12, .inl (gI G, 500, .inl (fl 500 0 (fun _ => 0)))), (hk, .inr (2, [.ref q_1, .ref q_4, .ref q_7, .ref q_10, .int 0, .int 0])), (q_1, .inl (gI G, 2088, .inl (rs (rs (fun _ => 0) 2088 1 10) 2088 (4 + 0 * 36 + 1) 200000)))] := hD
  refine W.eq (g2 := F0 m 83 ls []) rfl ?_
  refine lv_iinc (v := 1) (lv' := [(1, .int 1), (0, .ref hk)]) hx hb dX1_init_83 hl (k := 0) rfl (by decide) (by decide) rfl (fun ls hl => ?_)
  refine lv_goto (tgt := 67) hx hb dX1_init_86 (by decide) ?_
  refine lv_iload_n hx hb dX1_init_67 rfl (lv_at hl 0 rfl) ?_
  refine lv_iconst (v := 4) hx hb dX1_init_68 (by decide) ?_
  refine lv_icmp_ge (tgt := 89) hx hb dX1_init_69 (by decide) (fun c9 => absurd c9 (by decide)) (fun _ => ?_)
  refine lv_aload_n hx hb dX1_init_72 rfl (lv_at hl 1 rfl) ?_
  refine lv_iload_n hx hb dX1_init_73 rfl (lv_at hl 0 rfl) ?_
  refine lv_iconst (v := 1) hx hb dX1_init_74 (by decide) ?_
  refine vp_callSi (va_Run.run (va_runS (As := [.int 1, .int 1]) (rest := [.ref hk]) ⟨hx, hb, hml, hown, hts⟩ (c_Book_ofClass l G 1 1) (va_cwS 2 hts (gdS (List.mem_cons_of_mem _ (List.mem_append_left _ (List.mem_of_getElem? (i := 17) rfl))) (List.mem_cons_of_mem _ (List.mem_append_left _ (List.mem_of_getElem? (i := 18) rfl))) (List.mem_cons_of_mem _ (List.mem_append_left _ (List.mem_of_getElem? (i := 16) rfl))) (fun w9 h9 => ⟨(List.mem_cons_of_mem _ (List.mem_append_right _ (List.mem_append_right _ (List.mem_append_right _ (List.mem_append_right _ (List.mem_append_right _ (List.mem_append_left _ h9))))))), gd_c_Book_ofClass w9 h9⟩)) rfl rfl rfl kSX1_ofClass ⟨Nat.le_of_ble_eq_true rfl, Nat.le_of_ble_eq_true rfl⟩) (preS_p (As := [.int 1, .int 1]) (hP.sub (ws' := []) [] rfl) hB) rfl rfl hl.1 rfl (lv_room (Nat.le_of_ble_eq_true rfl)) dX1_init_75 ⟨Nat.le_of_ble_eq_true rfl, Nat.le_of_ble_eq_true rfl⟩)) (fun r_16 hr_16 => ?_)
  subst hr_16
  refine lv_ldc (v := 200000) hx hb hown (hts (.constant RX1 39 (200000)) (List.mem_cons_of_mem _ (List.mem_append_left _ (List.mem_of_getElem? (i := 19) rfl)))) dX1_init_78 ?_
  have hPc := hP.sub (ws' := [(hk, .inr (2, [.ref q_1, .ref q_4, .ref q_7, .ref q_10, .int 0, .int 0])), (q_1, .inl (gI G, 2088, .inl (rs (rs (fun _ => 0) 2088 1 10) 2088 (4 + 0 * 36 + 1) 200000)))]) [6, 7] rfl
  have hDc := hD.sub (ws' := [(hk, .inr (2, [.ref q_1, .ref q_4, .ref q_7, .ref q_10, .int 0, .int 0])), (q_1, .inl (gI G, 2088, .inl (rs (rs (fun _ => 0) 2088 1 10) 2088 (4 + 0 * 36 + 1) 200000)))]) [6, 7] (by decide) rfl
  have hFc := va_free (wc := [(hk, .inr (2, [.ref q_1, .ref q_4, .ref q_7, .ref q_10, .int 0, .int 0])), (q_1, .inl (gI G, 2088, .inl (rs (rs (fun _ => 0) 2088 1 10) 2088 (4 + 0 * 36 + 1) 200000)))]) hD hS hA [6, 7] rfl
  refine va_callv (va_runV (As := [.int (4 + 1 * 36 + 1), .int 200000]) (rest := []) ⟨hx, hb, hml, hown, hts⟩ (c_Book_lay l G hk q_1 2088 (rs (rs (fun _ => 0) 2088 1 10) 2088 (4 + 0 * 36 + 1) 200000) (.ref q_4) (.ref q_7) (.ref q_10) (.int 0) (.int 0) (4 + 1 * 36 + 1) 200000 H.size (by decide)) (cwV 2 hts (gdV (List.mem_cons_of_mem _ (List.mem_append_left _ (List.mem_of_getElem? (i := 13) rfl))) (List.mem_cons_of_mem _ (List.mem_append_left _ (List.mem_of_getElem? (i := 14) rfl))) (List.mem_cons_of_mem _ (List.mem_append_left _ (List.mem_of_getElem? (i := 15) rfl))) (List.mem_cons_of_mem _ (List.mem_append_left _ (List.mem_of_getElem? (i := 16) rfl))) (fun w9 h9 => ⟨(List.mem_cons_of_mem _ (List.mem_append_right _ (List.mem_append_right _ (List.mem_append_right _ (List.mem_append_right _ (List.mem_append_left _ h9)))))), gd_c_Book_lay w9 h9⟩)) rfl rfl rfl kVX1_lay ⟨Nat.le_of_ble_eq_true rfl, Nat.le_of_ble_eq_true rfl⟩) (preV_m (As := [.int (4 + 1 * 36 + 1), .int 200000]) hPc hB hDc rfl rfl) rfl rfl hl.1 rfl (lv_room (Nat.le_of_ble_eq_true rfl)) dX1_init_80 ⟨Nat.le_of_ble_eq_true rfl, Nat.le_of_ble_eq_true rfl⟩) hS (fun q _ h => hFc q h) hFc (fun u t H1 locs ht hvm hw hB1 hz1 hk1 hS => ?_)
  obtain ⟨hP1, hD1⟩ := hB1
  rw [ht] at hP1
  obtain ⟨hP, hD⟩ := va_join (wr := [(q_4, .inr (10, [.ref q_6])), (q_6, .inl (gI G, 512, .inl (fl 512 0 (fun _ => 0)))), (q_7, .inr (10, [.ref q_9])), (q_9, .inl (gI G, 512, .inl (fl 512 0 (fun _ => 0)))), (q_10, .inr (10, [.ref q_12])), (q_12, .inl (gI G, 500, .inl (fl 500 0 (fun _ => 0))))]) (w1 := [(hk, .inr (2, [.ref q_1, .ref q_4, .ref q_7, .ref q_10, .int 0, .int 0])), (q_1, .inl (gI G, 2088, .inl (rs (rs (rs (fun _ => 0) 2088 1 10) 2088 (4 + 0 * 36 + 1) 200000) 2088 (4 + 1 * 36 + 1) 200000)))]) hP hD [6, 7] [0, 1, 2, 3, 4, 5] rfl rfl (by decide) (by decide) hk1 hFc hP1 hD1
  generalize H1 = H at hP hS ⊢
  have hP : va_P (gD G) vwCl [(q_4, .inr (10, [.ref q_6])), (q_6, .inl (gI G, 512, .inl (fl 512 0 (fun _ => 0)))), (q_7, .inr (10, [.ref q_9])), (q_9, .inl (gI G, 512, .inl (fl 512 0 (fun _ => 0)))), (q_10, .inr (10, [.ref q_12])), (q_12, .inl (gI G, 500, .inl (fl 500 0 (fun _ => 0)))), (hk, .inr (2, [.ref q_1, .ref q_4, .ref q_7, .ref q_10, .int 0, .int 0])), (q_1, .inl (gI G, 2088, .inl (rs (rs (rs (fun _ => 0) 2088 1 10) 2088 (4 + 0 * 36 + 1) 200000) 2088 (4 + 1 * 36 + 1) 200000)))] H := hP
  have hD : va_D A [(q_4, .inr (10, [.ref q_6])), (q_6, .inl (gI G, 512, .inl (fl 512 0 (fun _ => 0)))), (q_7, .inr (10, [.ref q_9])), (q_9, .inl (gI G, 512, .inl (fl 512 0 (fun _ => 0)))), (q_10, .inr (10, [.ref q_12])), (q_12, .inl (gI G, 500, .inl (fl 500 0 (fun _ => 0)))), (hk, .inr (2, [.ref q_1, .ref q_4, .ref q_7, .ref q_10, .int 0, .int 0])), (q_1, .inl (gI G, 2088, .inl (rs (rs (rs (fun _ => 0) 2088 1 10) 2088 (4 + 0 * 36 + 1) 200000) 2088 (4 + 1 * 36 + 1) 200000)))] := hD
  refine W.eq (g2 := F0 m 83 ls []) rfl ?_
  refine lv_iinc (v := 2) (lv' := [(1, .int 2), (0, .ref hk)]) hx hb dX1_init_83 hl (k := 0) rfl (by decide) (by decide) rfl (fun ls hl => ?_)
  refine lv_goto (tgt := 67) hx hb dX1_init_86 (by decide) ?_
  refine lv_iload_n hx hb dX1_init_67 rfl (lv_at hl 0 rfl) ?_
  refine lv_iconst (v := 4) hx hb dX1_init_68 (by decide) ?_
  refine lv_icmp_ge (tgt := 89) hx hb dX1_init_69 (by decide) (fun c9 => absurd c9 (by decide)) (fun _ => ?_)
  refine lv_aload_n hx hb dX1_init_72 rfl (lv_at hl 1 rfl) ?_
  refine lv_iload_n hx hb dX1_init_73 rfl (lv_at hl 0 rfl) ?_
  refine lv_iconst (v := 1) hx hb dX1_init_74 (by decide) ?_
  refine vp_callSi (va_Run.run (va_runS (As := [.int 2, .int 1]) (rest := [.ref hk]) ⟨hx, hb, hml, hown, hts⟩ (c_Book_ofClass l G 2 1) (va_cwS 2 hts (gdS (List.mem_cons_of_mem _ (List.mem_append_left _ (List.mem_of_getElem? (i := 17) rfl))) (List.mem_cons_of_mem _ (List.mem_append_left _ (List.mem_of_getElem? (i := 18) rfl))) (List.mem_cons_of_mem _ (List.mem_append_left _ (List.mem_of_getElem? (i := 16) rfl))) (fun w9 h9 => ⟨(List.mem_cons_of_mem _ (List.mem_append_right _ (List.mem_append_right _ (List.mem_append_right _ (List.mem_append_right _ (List.mem_append_right _ (List.mem_append_left _ h9))))))), gd_c_Book_ofClass w9 h9⟩)) rfl rfl rfl kSX1_ofClass ⟨Nat.le_of_ble_eq_true rfl, Nat.le_of_ble_eq_true rfl⟩) (preS_p (As := [.int 2, .int 1]) (hP.sub (ws' := []) [] rfl) hB) rfl rfl hl.1 rfl (lv_room (Nat.le_of_ble_eq_true rfl)) dX1_init_75 ⟨Nat.le_of_ble_eq_true rfl, Nat.le_of_ble_eq_true rfl⟩)) (fun r_18 hr_18 => ?_)
  subst hr_18
  refine lv_ldc (v := 200000) hx hb hown (hts (.constant RX1 39 (200000)) (List.mem_cons_of_mem _ (List.mem_append_left _ (List.mem_of_getElem? (i := 19) rfl)))) dX1_init_78 ?_
  have hPc := hP.sub (ws' := [(hk, .inr (2, [.ref q_1, .ref q_4, .ref q_7, .ref q_10, .int 0, .int 0])), (q_1, .inl (gI G, 2088, .inl (rs (rs (rs (fun _ => 0) 2088 1 10) 2088 (4 + 0 * 36 + 1) 200000) 2088 (4 + 1 * 36 + 1) 200000)))]) [6, 7] rfl
  have hDc := hD.sub (ws' := [(hk, .inr (2, [.ref q_1, .ref q_4, .ref q_7, .ref q_10, .int 0, .int 0])), (q_1, .inl (gI G, 2088, .inl (rs (rs (rs (fun _ => 0) 2088 1 10) 2088 (4 + 0 * 36 + 1) 200000) 2088 (4 + 1 * 36 + 1) 200000)))]) [6, 7] (by decide) rfl
  have hFc := va_free (wc := [(hk, .inr (2, [.ref q_1, .ref q_4, .ref q_7, .ref q_10, .int 0, .int 0])), (q_1, .inl (gI G, 2088, .inl (rs (rs (rs (fun _ => 0) 2088 1 10) 2088 (4 + 0 * 36 + 1) 200000) 2088 (4 + 1 * 36 + 1) 200000)))]) hD hS hA [6, 7] rfl
  refine va_callv (va_runV (As := [.int (4 + 2 * 36 + 1), .int 200000]) (rest := []) ⟨hx, hb, hml, hown, hts⟩ (c_Book_lay l G hk q_1 2088 (rs (rs (rs (fun _ => 0) 2088 1 10) 2088 (4 + 0 * 36 + 1) 200000) 2088 (4 + 1 * 36 + 1) 200000) (.ref q_4) (.ref q_7) (.ref q_10) (.int 0) (.int 0) (4 + 2 * 36 + 1) 200000 H.size (by decide)) (cwV 2 hts (gdV (List.mem_cons_of_mem _ (List.mem_append_left _ (List.mem_of_getElem? (i := 13) rfl))) (List.mem_cons_of_mem _ (List.mem_append_left _ (List.mem_of_getElem? (i := 14) rfl))) (List.mem_cons_of_mem _ (List.mem_append_left _ (List.mem_of_getElem? (i := 15) rfl))) (List.mem_cons_of_mem _ (List.mem_append_left _ (List.mem_of_getElem? (i := 16) rfl))) (fun w9 h9 => ⟨(List.mem_cons_of_mem _ (List.mem_append_right _ (List.mem_append_right _ (List.mem_append_right _ (List.mem_append_right _ (List.mem_append_left _ h9)))))), gd_c_Book_lay w9 h9⟩)) rfl rfl rfl kVX1_lay ⟨Nat.le_of_ble_eq_true rfl, Nat.le_of_ble_eq_true rfl⟩) (preV_m (As := [.int (4 + 2 * 36 + 1), .int 200000]) hPc hB hDc rfl rfl) rfl rfl hl.1 rfl (lv_room (Nat.le_of_ble_eq_true rfl)) dX1_init_80 ⟨Nat.le_of_ble_eq_true rfl, Nat.le_of_ble_eq_true rfl⟩) hS (fun q _ h => hFc q h) hFc (fun u t H1 locs ht hvm hw hB1 hz1 hk1 hS => ?_)
  obtain ⟨hP1, hD1⟩ := hB1
  rw [ht] at hP1
  obtain ⟨hP, hD⟩ := va_join (wr := [(q_4, .inr (10, [.ref q_6])), (q_6, .inl (gI G, 512, .inl (fl 512 0 (fun _ => 0)))), (q_7, .inr (10, [.ref q_9])), (q_9, .inl (gI G, 512, .inl (fl 512 0 (fun _ => 0)))), (q_10, .inr (10, [.ref q_12])), (q_12, .inl (gI G, 500, .inl (fl 500 0 (fun _ => 0))))]) (w1 := [(hk, .inr (2, [.ref q_1, .ref q_4, .ref q_7, .ref q_10, .int 0, .int 0])), (q_1, .inl (gI G, 2088, .inl (rs (rs (rs (rs (fun _ => 0) 2088 1 10) 2088 (4 + 0 * 36 + 1) 200000) 2088 (4 + 1 * 36 + 1) 200000) 2088 (4 + 2 * 36 + 1) 200000)))]) hP hD [6, 7] [0, 1, 2, 3, 4, 5] rfl rfl (by decide) (by decide) hk1 hFc hP1 hD1
  generalize H1 = H at hP hS ⊢
  have hP : va_P (gD G) vwCl [(q_4, .inr (10, [.ref q_6])), (q_6, .inl (gI G, 512, .inl (fl 512 0 (fun _ => 0)))), (q_7, .inr (10, [.ref q_9])), (q_9, .inl (gI G, 512, .inl (fl 512 0 (fun _ => 0)))), (q_10, .inr (10, [.ref q_12])), (q_12, .inl (gI G, 500, .inl (fl 500 0 (fun _ => 0)))), (hk, .inr (2, [.ref q_1, .ref q_4, .ref q_7, .ref q_10, .int 0, .int 0])), (q_1, .inl (gI G, 2088, .inl (rs (rs (rs (rs (fun _ => 0) 2088 1 10) 2088 (4 + 0 * 36 + 1) 200000) 2088 (4 + 1 * 36 + 1) 200000) 2088 (4 + 2 * 36 + 1) 200000)))] H := hP
  have hD : va_D A [(q_4, .inr (10, [.ref q_6])), (q_6, .inl (gI G, 512, .inl (fl 512 0 (fun _ => 0)))), (q_7, .inr (10, [.ref q_9])), (q_9, .inl (gI G, 512, .inl (fl 512 0 (fun _ => 0)))), (q_10, .inr (10, [.ref q_12])), (q_12, .inl (gI G, 500, .inl (fl 500 0 (fun _ => 0)))), (hk, .inr (2, [.ref q_1, .ref q_4, .ref q_7, .ref q_10, .int 0, .int 0])), (q_1, .inl (gI G, 2088, .inl (rs (rs (rs (rs (fun _ => 0) 2088 1 10) 2088 (4 + 0 * 36 + 1) 200000) 2088 (4 + 1 * 36 + 1) 200000) 2088 (4 + 2 * 36 + 1) 200000)))] := hD
  refine W.eq (g2 := F0 m 83 ls []) rfl ?_
  refine lv_iinc (v := 3) (lv' := [(1, .int 3), (0, .ref hk)]) hx hb dX1_init_83 hl (k := 0) rfl (by decide) (by decide) rfl (fun ls hl => ?_)
  refine lv_goto (tgt := 67) hx hb dX1_init_86 (by decide) ?_
  refine lv_iload_n hx hb dX1_init_67 rfl (lv_at hl 0 rfl) ?_
  refine lv_iconst (v := 4) hx hb dX1_init_68 (by decide) ?_
  refine lv_icmp_ge (tgt := 89) hx hb dX1_init_69 (by decide) (fun c9 => absurd c9 (by decide)) (fun _ => ?_)
  refine lv_aload_n hx hb dX1_init_72 rfl (lv_at hl 1 rfl) ?_
  refine lv_iload_n hx hb dX1_init_73 rfl (lv_at hl 0 rfl) ?_
  refine lv_iconst (v := 1) hx hb dX1_init_74 (by decide) ?_
  refine vp_callSi (va_Run.run (va_runS (As := [.int 3, .int 1]) (rest := [.ref hk]) ⟨hx, hb, hml, hown, hts⟩ (c_Book_ofClass l G 3 1) (va_cwS 2 hts (gdS (List.mem_cons_of_mem _ (List.mem_append_left _ (List.mem_of_getElem? (i := 17) rfl))) (List.mem_cons_of_mem _ (List.mem_append_left _ (List.mem_of_getElem? (i := 18) rfl))) (List.mem_cons_of_mem _ (List.mem_append_left _ (List.mem_of_getElem? (i := 16) rfl))) (fun w9 h9 => ⟨(List.mem_cons_of_mem _ (List.mem_append_right _ (List.mem_append_right _ (List.mem_append_right _ (List.mem_append_right _ (List.mem_append_right _ (List.mem_append_left _ h9))))))), gd_c_Book_ofClass w9 h9⟩)) rfl rfl rfl kSX1_ofClass ⟨Nat.le_of_ble_eq_true rfl, Nat.le_of_ble_eq_true rfl⟩) (preS_p (As := [.int 3, .int 1]) (hP.sub (ws' := []) [] rfl) hB) rfl rfl hl.1 rfl (lv_room (Nat.le_of_ble_eq_true rfl)) dX1_init_75 ⟨Nat.le_of_ble_eq_true rfl, Nat.le_of_ble_eq_true rfl⟩)) (fun r_20 hr_20 => ?_)
  subst hr_20
  refine lv_ldc (v := 200000) hx hb hown (hts (.constant RX1 39 (200000)) (List.mem_cons_of_mem _ (List.mem_append_left _ (List.mem_of_getElem? (i := 19) rfl)))) dX1_init_78 ?_
  have hPc := hP.sub (ws' := [(hk, .inr (2, [.ref q_1, .ref q_4, .ref q_7, .ref q_10, .int 0, .int 0])), (q_1, .inl (gI G, 2088, .inl (rs (rs (rs (rs (fun _ => 0) 2088 1 10) 2088 (4 + 0 * 36 + 1) 200000) 2088 (4 + 1 * 36 + 1) 200000) 2088 (4 + 2 * 36 + 1) 200000)))]) [6, 7] rfl
  have hDc := hD.sub (ws' := [(hk, .inr (2, [.ref q_1, .ref q_4, .ref q_7, .ref q_10, .int 0, .int 0])), (q_1, .inl (gI G, 2088, .inl (rs (rs (rs (rs (fun _ => 0) 2088 1 10) 2088 (4 + 0 * 36 + 1) 200000) 2088 (4 + 1 * 36 + 1) 200000) 2088 (4 + 2 * 36 + 1) 200000)))]) [6, 7] (by decide) rfl
  have hFc := va_free (wc := [(hk, .inr (2, [.ref q_1, .ref q_4, .ref q_7, .ref q_10, .int 0, .int 0])), (q_1, .inl (gI G, 2088, .inl (rs (rs (rs (rs (fun _ => 0) 2088 1 10) 2088 (4 + 0 * 36 + 1) 200000) 2088 (4 + 1 * 36 + 1) 200000) 2088 (4 + 2 * 36 + 1) 200000)))]) hD hS hA [6, 7] rfl
  refine va_callv (va_runV (As := [.int (4 + 3 * 36 + 1), .int 200000]) (rest := []) ⟨hx, hb, hml, hown, hts⟩ (c_Book_lay l G hk q_1 2088 (rs (rs (rs (rs (fun _ => 0) 2088 1 10) 2088 (4 + 0 * 36 + 1) 200000) 2088 (4 + 1 * 36 + 1) 200000) 2088 (4 + 2 * 36 + 1) 200000) (.ref q_4) (.ref q_7) (.ref q_10) (.int 0) (.int 0) (4 + 3 * 36 + 1) 200000 H.size (by decide)) (cwV 2 hts (gdV (List.mem_cons_of_mem _ (List.mem_append_left _ (List.mem_of_getElem? (i := 13) rfl))) (List.mem_cons_of_mem _ (List.mem_append_left _ (List.mem_of_getElem? (i := 14) rfl))) (List.mem_cons_of_mem _ (List.mem_append_left _ (List.mem_of_getElem? (i := 15) rfl))) (List.mem_cons_of_mem _ (List.mem_append_left _ (List.mem_of_getElem? (i := 16) rfl))) (fun w9 h9 => ⟨(List.mem_cons_of_mem _ (List.mem_append_right _ (List.mem_append_right _ (List.mem_append_right _ (List.mem_append_right _ (List.mem_append_left _ h9)))))), gd_c_Book_lay w9 h9⟩)) rfl rfl rfl kVX1_lay ⟨Nat.le_of_ble_eq_true rfl, Nat.le_of_ble_eq_true rfl⟩) (preV_m (As := [.int (4 + 3 * 36 + 1), .int 200000]) hPc hB hDc rfl rfl) rfl rfl hl.1 rfl (lv_room (Nat.le_of_ble_eq_true rfl)) dX1_init_80 ⟨Nat.le_of_ble_eq_true rfl, Nat.le_of_ble_eq_true rfl⟩) hS (fun q _ h => hFc q h) hFc (fun u t H1 locs ht hvm hw hB1 hz1 hk1 hS => ?_)
  obtain ⟨hP1, hD1⟩ := hB1
  rw [ht] at hP1
  obtain ⟨hP, hD⟩ := va_join (wr := [(q_4, .inr (10, [.ref q_6])), (q_6, .inl (gI G, 512, .inl (fl 512 0 (fun _ => 0)))), (q_7, .inr (10, [.ref q_9])), (q_9, .inl (gI G, 512, .inl (fl 512 0 (fun _ => 0)))), (q_10, .inr (10, [.ref q_12])), (q_12, .inl (gI G, 500, .inl (fl 500 0 (fun _ => 0))))]) (w1 := [(hk, .inr (2, [.ref q_1, .ref q_4, .ref q_7, .ref q_10, .int 0, .int 0])), (q_1, .inl (gI G, 2088, .inl (rs (rs (rs (rs (rs (fun _ => 0) 2088 1 10) 2088 (4 + 0 * 36 + 1) 200000) 2088 (4 + 1 * 36 + 1) 200000) 2088 (4 + 2 * 36 + 1) 200000) 2088 (4 + 3 * 36 + 1) 200000)))]) hP hD [6, 7] [0, 1, 2, 3, 4, 5] rfl rfl (by decide) (by decide) hk1 hFc hP1 hD1
  generalize H1 = H at hP hS ⊢
  have hP : va_P (gD G) vwCl [(q_4, .inr (10, [.ref q_6])), (q_6, .inl (gI G, 512, .inl (fl 512 0 (fun _ => 0)))), (q_7, .inr (10, [.ref q_9])), (q_9, .inl (gI G, 512, .inl (fl 512 0 (fun _ => 0)))), (q_10, .inr (10, [.ref q_12])), (q_12, .inl (gI G, 500, .inl (fl 500 0 (fun _ => 0)))), (hk, .inr (2, [.ref q_1, .ref q_4, .ref q_7, .ref q_10, .int 0, .int 0])), (q_1, .inl (gI G, 2088, .inl (rs (rs (rs (rs (rs (fun _ => 0) 2088 1 10) 2088 (4 + 0 * 36 + 1) 200000) 2088 (4 + 1 * 36 + 1) 200000) 2088 (4 + 2 * 36 + 1) 200000) 2088 (4 + 3 * 36 + 1) 200000)))] H := hP
  have hD : va_D A [(q_4, .inr (10, [.ref q_6])), (q_6, .inl (gI G, 512, .inl (fl 512 0 (fun _ => 0)))), (q_7, .inr (10, [.ref q_9])), (q_9, .inl (gI G, 512, .inl (fl 512 0 (fun _ => 0)))), (q_10, .inr (10, [.ref q_12])), (q_12, .inl (gI G, 500, .inl (fl 500 0 (fun _ => 0)))), (hk, .inr (2, [.ref q_1, .ref q_4, .ref q_7, .ref q_10, .int 0, .int 0])), (q_1, .inl (gI G, 2088, .inl (rs (rs (rs (rs (rs (fun _ => 0) 2088 1 10) 2088 (4 + 0 * 36 + 1) 200000) 2088 (4 + 1 * 36 + 1) 200000) 2088 (4 + 2 * 36 + 1) 200000) 2088 (4 + 3 * 36 + 1) 200000)))] := hD
  refine W.eq (g2 := F0 m 83 ls []) rfl ?_
  refine lv_iinc (v := 4) (lv' := [(1, .int 4), (0, .ref hk)]) hx hb dX1_init_83 hl (k := 0) rfl (by decide) (by decide) rfl (fun ls hl => ?_)
  refine lv_goto (tgt := 67) hx hb dX1_init_86 (by decide) ?_
  refine lv_iload_n hx hb dX1_init_67 rfl (lv_at hl 0 rfl) ?_
  refine lv_iconst (v := 4) hx hb dX1_init_68 (by decide) ?_
  refine lv_icmp_ge (tgt := 89) hx hb dX1_init_69 (by decide) (fun _ => ?_) (fun c9 => absurd (by decide) c9)
  refine lv_iconst (v := 0) hx hb dX1_init_89 (by decide) ?_
  refine lv_istore_n (lv' := [(1, .int 0), (0, .ref hk)]) hx hb dX1_init_90 rfl hl (by decide) rfl (fun ls hl => ?_)
  refine lv_iload_n hx hb dX1_init_91 rfl (lv_at hl 0 rfl) ?_
  refine lv_iconst (v := 4) hx hb dX1_init_92 (by decide) ?_
  refine lv_icmp_ge (tgt := 112) hx hb dX1_init_93 (by decide) (fun c9 => absurd c9 (by decide)) (fun _ => ?_)
  refine lv_aload_n hx hb dX1_init_96 rfl (lv_at hl 1 rfl) ?_
  refine lv_iload_n hx hb dX1_init_97 rfl (lv_at hl 0 rfl) ?_
  refine lv_iconst (v := 1) hx hb dX1_init_98 (by decide) ?_
  refine vp_callSi (va_Run.run (va_runS (As := [.int 0, .int 1]) (rest := [.ref hk]) ⟨hx, hb, hml, hown, hts⟩ (c_Book_ofMat l G 0 1) (va_cwS 2 hts (gdS (List.mem_cons_of_mem _ (List.mem_append_left _ (List.mem_of_getElem? (i := 20) rfl))) (List.mem_cons_of_mem _ (List.mem_append_left _ (List.mem_of_getElem? (i := 21) rfl))) (List.mem_cons_of_mem _ (List.mem_append_left _ (List.mem_of_getElem? (i := 16) rfl))) (fun w9 h9 => ⟨(List.mem_cons_of_mem _ (List.mem_append_right _ (List.mem_append_right _ (List.mem_append_right _ (List.mem_append_right _ (List.mem_append_right _ (List.mem_append_right _ (List.mem_append_left _ h9)))))))), gd_c_Book_ofMat w9 h9⟩)) rfl rfl rfl kSX1_ofMat ⟨Nat.le_of_ble_eq_true rfl, Nat.le_of_ble_eq_true rfl⟩) (preS_p (As := [.int 0, .int 1]) (hP.sub (ws' := []) [] rfl) hB) rfl rfl hl.1 rfl (lv_room (Nat.le_of_ble_eq_true rfl)) dX1_init_99 ⟨Nat.le_of_ble_eq_true rfl, Nat.le_of_ble_eq_true rfl⟩)) (fun r_22 hr_22 => ?_)
  subst hr_22
  refine lv_iconst (v := (-1)) hx hb dX1_init_102 (by decide) ?_
  have hPc := hP.sub (ws' := [(hk, .inr (2, [.ref q_1, .ref q_4, .ref q_7, .ref q_10, .int 0, .int 0])), (q_1, .inl (gI G, 2088, .inl (rs (rs (rs (rs (rs (fun _ => 0) 2088 1 10) 2088 (4 + 0 * 36 + 1) 200000) 2088 (4 + 1 * 36 + 1) 200000) 2088 (4 + 2 * 36 + 1) 200000) 2088 (4 + 3 * 36 + 1) 200000)))]) [6, 7] rfl
  have hDc := hD.sub (ws' := [(hk, .inr (2, [.ref q_1, .ref q_4, .ref q_7, .ref q_10, .int 0, .int 0])), (q_1, .inl (gI G, 2088, .inl (rs (rs (rs (rs (rs (fun _ => 0) 2088 1 10) 2088 (4 + 0 * 36 + 1) 200000) 2088 (4 + 1 * 36 + 1) 200000) 2088 (4 + 2 * 36 + 1) 200000) 2088 (4 + 3 * 36 + 1) 200000)))]) [6, 7] (by decide) rfl
  have hFc := va_free (wc := [(hk, .inr (2, [.ref q_1, .ref q_4, .ref q_7, .ref q_10, .int 0, .int 0])), (q_1, .inl (gI G, 2088, .inl (rs (rs (rs (rs (rs (fun _ => 0) 2088 1 10) 2088 (4 + 0 * 36 + 1) 200000) 2088 (4 + 1 * 36 + 1) 200000) 2088 (4 + 2 * 36 + 1) 200000) 2088 (4 + 3 * 36 + 1) 200000)))]) hD hS hA [6, 7] rfl
  refine va_callv (va_runV (As := [.int (2004 + 0 * 21 + 1), .int (-1)]) (rest := []) ⟨hx, hb, hml, hown, hts⟩ (c_Book_lay l G hk q_1 2088 (rs (rs (rs (rs (rs (fun _ => 0) 2088 1 10) 2088 (4 + 0 * 36 + 1) 200000) 2088 (4 + 1 * 36 + 1) 200000) 2088 (4 + 2 * 36 + 1) 200000) 2088 (4 + 3 * 36 + 1) 200000) (.ref q_4) (.ref q_7) (.ref q_10) (.int 0) (.int 0) (2004 + 0 * 21 + 1) (-1) H.size (by decide)) (cwV 2 hts (gdV (List.mem_cons_of_mem _ (List.mem_append_left _ (List.mem_of_getElem? (i := 13) rfl))) (List.mem_cons_of_mem _ (List.mem_append_left _ (List.mem_of_getElem? (i := 14) rfl))) (List.mem_cons_of_mem _ (List.mem_append_left _ (List.mem_of_getElem? (i := 15) rfl))) (List.mem_cons_of_mem _ (List.mem_append_left _ (List.mem_of_getElem? (i := 16) rfl))) (fun w9 h9 => ⟨(List.mem_cons_of_mem _ (List.mem_append_right _ (List.mem_append_right _ (List.mem_append_right _ (List.mem_append_right _ (List.mem_append_left _ h9)))))), gd_c_Book_lay w9 h9⟩)) rfl rfl rfl kVX1_lay ⟨Nat.le_of_ble_eq_true rfl, Nat.le_of_ble_eq_true rfl⟩) (preV_m (As := [.int (2004 + 0 * 21 + 1), .int (-1)]) hPc hB hDc rfl rfl) rfl rfl hl.1 rfl (lv_room (Nat.le_of_ble_eq_true rfl)) dX1_init_103 ⟨Nat.le_of_ble_eq_true rfl, Nat.le_of_ble_eq_true rfl⟩) hS (fun q _ h => hFc q h) hFc (fun u t H1 locs ht hvm hw hB1 hz1 hk1 hS => ?_)
  obtain ⟨hP1, hD1⟩ := hB1
  rw [ht] at hP1
  obtain ⟨hP, hD⟩ := va_join (wr := [(q_4, .inr (10, [.ref q_6])), (q_6, .inl (gI G, 512, .inl (fl 512 0 (fun _ => 0)))), (q_7, .inr (10, [.ref q_9])), (q_9, .inl (gI G, 512, .inl (fl 512 0 (fun _ => 0)))), (q_10, .inr (10, [.ref q_12])), (q_12, .inl (gI G, 500, .inl (fl 500 0 (fun _ => 0))))]) (w1 := [(hk, .inr (2, [.ref q_1, .ref q_4, .ref q_7, .ref q_10, .int 0, .int 0])), (q_1, .inl (gI G, 2088, .inl (rs (rs (rs (rs (rs (rs (fun _ => 0) 2088 1 10) 2088 (4 + 0 * 36 + 1) 200000) 2088 (4 + 1 * 36 + 1) 200000) 2088 (4 + 2 * 36 + 1) 200000) 2088 (4 + 3 * 36 + 1) 200000) 2088 (2004 + 0 * 21 + 1) (-1))))]) hP hD [6, 7] [0, 1, 2, 3, 4, 5] rfl rfl (by decide) (by decide) hk1 hFc hP1 hD1
  generalize H1 = H at hP hS ⊢
  have hP : va_P (gD G) vwCl [(q_4, .inr (10, [.ref q_6])), (q_6, .inl (gI G, 512, .inl (fl 512 0 (fun _ => 0)))), (q_7, .inr (10, [.ref q_9])), (q_9, .inl (gI G, 512, .inl (fl 512 0 (fun _ => 0)))), (q_10, .inr (10, [.ref q_12])), (q_12, .inl (gI G, 500, .inl (fl 500 0 (fun _ => 0)))), (hk, .inr (2, [.ref q_1, .ref q_4, .ref q_7, .ref q_10, .int 0, .int 0])), (q_1, .inl (gI G, 2088, .inl (rs (rs (rs (rs (rs (rs (fun _ => 0) 2088 1 10) 2088 (4 + 0 * 36 + 1) 200000) 2088 (4 + 1 * 36 + 1) 200000) 2088 (4 + 2 * 36 + 1) 200000) 2088 (4 + 3 * 36 + 1) 200000) 2088 (2004 + 0 * 21 + 1) (-1))))] H := hP
  have hD : va_D A [(q_4, .inr (10, [.ref q_6])), (q_6, .inl (gI G, 512, .inl (fl 512 0 (fun _ => 0)))), (q_7, .inr (10, [.ref q_9])), (q_9, .inl (gI G, 512, .inl (fl 512 0 (fun _ => 0)))), (q_10, .inr (10, [.ref q_12])), (q_12, .inl (gI G, 500, .inl (fl 500 0 (fun _ => 0)))), (hk, .inr (2, [.ref q_1, .ref q_4, .ref q_7, .ref q_10, .int 0, .int 0])), (q_1, .inl (gI G, 2088, .inl (rs (rs (rs (rs (rs (rs (fun _ => 0) 2088 1 10) 2088 (4 + 0 * 36 + 1) 200000) 2088 (4 + 1 * 36 + 1) 200000) 2088 (4 + 2 * 36 + 1) 200000) 2088 (4 + 3 * 36 + 1) 200000) 2088 (2004 + 0 * 21 + 1) (-1))))] := hD
  refine W.eq (g2 := F0 m 106 ls []) rfl ?_
  refine lv_iinc (v := 1) (lv' := [(1, .int 1), (0, .ref hk)]) hx hb dX1_init_106 hl (k := 0) rfl (by decide) (by decide) rfl (fun ls hl => ?_)
  refine lv_goto (tgt := 91) hx hb dX1_init_109 (by decide) ?_
  refine lv_iload_n hx hb dX1_init_91 rfl (lv_at hl 0 rfl) ?_
  refine lv_iconst (v := 4) hx hb dX1_init_92 (by decide) ?_
  refine lv_icmp_ge (tgt := 112) hx hb dX1_init_93 (by decide) (fun c9 => absurd c9 (by decide)) (fun _ => ?_)
  refine lv_aload_n hx hb dX1_init_96 rfl (lv_at hl 1 rfl) ?_
  refine lv_iload_n hx hb dX1_init_97 rfl (lv_at hl 0 rfl) ?_
  refine lv_iconst (v := 1) hx hb dX1_init_98 (by decide) ?_
  refine vp_callSi (va_Run.run (va_runS (As := [.int 1, .int 1]) (rest := [.ref hk]) ⟨hx, hb, hml, hown, hts⟩ (c_Book_ofMat l G 1 1) (va_cwS 2 hts (gdS (List.mem_cons_of_mem _ (List.mem_append_left _ (List.mem_of_getElem? (i := 20) rfl))) (List.mem_cons_of_mem _ (List.mem_append_left _ (List.mem_of_getElem? (i := 21) rfl))) (List.mem_cons_of_mem _ (List.mem_append_left _ (List.mem_of_getElem? (i := 16) rfl))) (fun w9 h9 => ⟨(List.mem_cons_of_mem _ (List.mem_append_right _ (List.mem_append_right _ (List.mem_append_right _ (List.mem_append_right _ (List.mem_append_right _ (List.mem_append_right _ (List.mem_append_left _ h9)))))))), gd_c_Book_ofMat w9 h9⟩)) rfl rfl rfl kSX1_ofMat ⟨Nat.le_of_ble_eq_true rfl, Nat.le_of_ble_eq_true rfl⟩) (preS_p (As := [.int 1, .int 1]) (hP.sub (ws' := []) [] rfl) hB) rfl rfl hl.1 rfl (lv_room (Nat.le_of_ble_eq_true rfl)) dX1_init_99 ⟨Nat.le_of_ble_eq_true rfl, Nat.le_of_ble_eq_true rfl⟩)) (fun r_24 hr_24 => ?_)
  subst hr_24
  refine lv_iconst (v := (-1)) hx hb dX1_init_102 (by decide) ?_
  have hPc := hP.sub (ws' := [(hk, .inr (2, [.ref q_1, .ref q_4, .ref q_7, .ref q_10, .int 0, .int 0])), (q_1, .inl (gI G, 2088, .inl (rs (rs (rs (rs (rs (rs (fun _ => 0) 2088 1 10) 2088 (4 + 0 * 36 + 1) 200000) 2088 (4 + 1 * 36 + 1) 200000) 2088 (4 + 2 * 36 + 1) 200000) 2088 (4 + 3 * 36 + 1) 200000) 2088 (2004 + 0 * 21 + 1) (-1))))]) [6, 7] rfl
  have hDc := hD.sub (ws' := [(hk, .inr (2, [.ref q_1, .ref q_4, .ref q_7, .ref q_10, .int 0, .int 0])), (q_1, .inl (gI G, 2088, .inl (rs (rs (rs (rs (rs (rs (fun _ => 0) 2088 1 10) 2088 (4 + 0 * 36 + 1) 200000) 2088 (4 + 1 * 36 + 1) 200000) 2088 (4 + 2 * 36 + 1) 200000) 2088 (4 + 3 * 36 + 1) 200000) 2088 (2004 + 0 * 21 + 1) (-1))))]) [6, 7] (by decide) rfl
  have hFc := va_free (wc := [(hk, .inr (2, [.ref q_1, .ref q_4, .ref q_7, .ref q_10, .int 0, .int 0])), (q_1, .inl (gI G, 2088, .inl (rs (rs (rs (rs (rs (rs (fun _ => 0) 2088 1 10) 2088 (4 + 0 * 36 + 1) 200000) 2088 (4 + 1 * 36 + 1) 200000) 2088 (4 + 2 * 36 + 1) 200000) 2088 (4 + 3 * 36 + 1) 200000) 2088 (2004 + 0 * 21 + 1) (-1))))]) hD hS hA [6, 7] rfl
  refine va_callv (va_runV (As := [.int (2004 + 1 * 21 + 1), .int (-1)]) (rest := []) ⟨hx, hb, hml, hown, hts⟩ (c_Book_lay l G hk q_1 2088 (rs (rs (rs (rs (rs (rs (fun _ => 0) 2088 1 10) 2088 (4 + 0 * 36 + 1) 200000) 2088 (4 + 1 * 36 + 1) 200000) 2088 (4 + 2 * 36 + 1) 200000) 2088 (4 + 3 * 36 + 1) 200000) 2088 (2004 + 0 * 21 + 1) (-1)) (.ref q_4) (.ref q_7) (.ref q_10) (.int 0) (.int 0) (2004 + 1 * 21 + 1) (-1) H.size (by decide)) (cwV 2 hts (gdV (List.mem_cons_of_mem _ (List.mem_append_left _ (List.mem_of_getElem? (i := 13) rfl))) (List.mem_cons_of_mem _ (List.mem_append_left _ (List.mem_of_getElem? (i := 14) rfl))) (List.mem_cons_of_mem _ (List.mem_append_left _ (List.mem_of_getElem? (i := 15) rfl))) (List.mem_cons_of_mem _ (List.mem_append_left _ (List.mem_of_getElem? (i := 16) rfl))) (fun w9 h9 => ⟨(List.mem_cons_of_mem _ (List.mem_append_right _ (List.mem_append_right _ (List.mem_append_right _ (List.mem_append_right _ (List.mem_append_left _ h9)))))), gd_c_Book_lay w9 h9⟩)) rfl rfl rfl kVX1_lay ⟨Nat.le_of_ble_eq_true rfl, Nat.le_of_ble_eq_true rfl⟩) (preV_m (As := [.int (2004 + 1 * 21 + 1), .int (-1)]) hPc hB hDc rfl rfl) rfl rfl hl.1 rfl (lv_room (Nat.le_of_ble_eq_true rfl)) dX1_init_103 ⟨Nat.le_of_ble_eq_true rfl, Nat.le_of_ble_eq_true rfl⟩) hS (fun q _ h => hFc q h) hFc (fun u t H1 locs ht hvm hw hB1 hz1 hk1 hS => ?_)
  obtain ⟨hP1, hD1⟩ := hB1
  rw [ht] at hP1
  obtain ⟨hP, hD⟩ := va_join (wr := [(q_4, .inr (10, [.ref q_6])), (q_6, .inl (gI G, 512, .inl (fl 512 0 (fun _ => 0)))), (q_7, .inr (10, [.ref q_9])), (q_9, .inl (gI G, 512, .inl (fl 512 0 (fun _ => 0)))), (q_10, .inr (10, [.ref q_12])), (q_12, .inl (gI G, 500, .inl (fl 500 0 (fun _ => 0))))]) (w1 := [(hk, .inr (2, [.ref q_1, .ref q_4, .ref q_7, .ref q_10, .int 0, .int 0])), (q_1, .inl (gI G, 2088, .inl (rs (rs (rs (rs (rs (rs (rs (fun _ => 0) 2088 1 10) 2088 (4 + 0 * 36 + 1) 200000) 2088 (4 + 1 * 36 + 1) 200000) 2088 (4 + 2 * 36 + 1) 200000) 2088 (4 + 3 * 36 + 1) 200000) 2088 (2004 + 0 * 21 + 1) (-1)) 2088 (2004 + 1 * 21 + 1) (-1))))]) hP hD [6, 7] [0, 1, 2, 3, 4, 5] rfl rfl (by decide) (by decide) hk1 hFc hP1 hD1
  generalize H1 = H at hP hS ⊢
  have hP : va_P (gD G) vwCl [(q_4, .inr (10, [.ref q_6])), (q_6, .inl (gI G, 512, .inl (fl 512 0 (fun _ => 0)))), (q_7, .inr (10, [.ref q_9])), (q_9, .inl (gI G, 512, .inl (fl 512 0 (fun _ => 0)))), (q_10, .inr (10, [.ref q_12])), (q_12, .inl (gI G, 500, .inl (fl 500 0 (fun _ => 0)))), (hk, .inr (2, [.ref q_1, .ref q_4, .ref q_7, .ref q_10, .int 0, .int 0])), (q_1, .inl (gI G, 2088, .inl (rs (rs (rs (rs (rs (rs (rs (fun _ => 0) 2088 1 10) 2088 (4 + 0 * 36 + 1) 200000) 2088 (4 + 1 * 36 + 1) 200000) 2088 (4 + 2 * 36 + 1) 200000) 2088 (4 + 3 * 36 + 1) 200000) 2088 (2004 + 0 * 21 + 1) (-1)) 2088 (2004 + 1 * 21 + 1) (-1))))] H := hP
  have hD : va_D A [(q_4, .inr (10, [.ref q_6])), (q_6, .inl (gI G, 512, .inl (fl 512 0 (fun _ => 0)))), (q_7, .inr (10, [.ref q_9])), (q_9, .inl (gI G, 512, .inl (fl 512 0 (fun _ => 0)))), (q_10, .inr (10, [.ref q_12])), (q_12, .inl (gI G, 500, .inl (fl 500 0 (fun _ => 0)))), (hk, .inr (2, [.ref q_1, .ref q_4, .ref q_7, .ref q_10, .int 0, .int 0])), (q_1, .inl (gI G, 2088, .inl (rs (rs (rs (rs (rs (rs (rs (fun _ => 0) 2088 1 10) 2088 (4 + 0 * 36 + 1) 200000) 2088 (4 + 1 * 36 + 1) 200000) 2088 (4 + 2 * 36 + 1) 200000) 2088 (4 + 3 * 36 + 1) 200000) 2088 (2004 + 0 * 21 + 1) (-1)) 2088 (2004 + 1 * 21 + 1) (-1))))] := hD
  refine W.eq (g2 := F0 m 106 ls []) rfl ?_
  refine lv_iinc (v := 2) (lv' := [(1, .int 2), (0, .ref hk)]) hx hb dX1_init_106 hl (k := 0) rfl (by decide) (by decide) rfl (fun ls hl => ?_)
  refine lv_goto (tgt := 91) hx hb dX1_init_109 (by decide) ?_
  refine lv_iload_n hx hb dX1_init_91 rfl (lv_at hl 0 rfl) ?_
  refine lv_iconst (v := 4) hx hb dX1_init_92 (by decide) ?_
  refine lv_icmp_ge (tgt := 112) hx hb dX1_init_93 (by decide) (fun c9 => absurd c9 (by decide)) (fun _ => ?_)
  refine lv_aload_n hx hb dX1_init_96 rfl (lv_at hl 1 rfl) ?_
  refine lv_iload_n hx hb dX1_init_97 rfl (lv_at hl 0 rfl) ?_
  refine lv_iconst (v := 1) hx hb dX1_init_98 (by decide) ?_
  refine vp_callSi (va_Run.run (va_runS (As := [.int 2, .int 1]) (rest := [.ref hk]) ⟨hx, hb, hml, hown, hts⟩ (c_Book_ofMat l G 2 1) (va_cwS 2 hts (gdS (List.mem_cons_of_mem _ (List.mem_append_left _ (List.mem_of_getElem? (i := 20) rfl))) (List.mem_cons_of_mem _ (List.mem_append_left _ (List.mem_of_getElem? (i := 21) rfl))) (List.mem_cons_of_mem _ (List.mem_append_left _ (List.mem_of_getElem? (i := 16) rfl))) (fun w9 h9 => ⟨(List.mem_cons_of_mem _ (List.mem_append_right _ (List.mem_append_right _ (List.mem_append_right _ (List.mem_append_right _ (List.mem_append_right _ (List.mem_append_right _ (List.mem_append_left _ h9)))))))), gd_c_Book_ofMat w9 h9⟩)) rfl rfl rfl kSX1_ofMat ⟨Nat.le_of_ble_eq_true rfl, Nat.le_of_ble_eq_true rfl⟩) (preS_p (As := [.int 2, .int 1]) (hP.sub (ws' := []) [] rfl) hB) rfl rfl hl.1 rfl (lv_room (Nat.le_of_ble_eq_true rfl)) dX1_init_99 ⟨Nat.le_of_ble_eq_true rfl, Nat.le_of_ble_eq_true rfl⟩)) (fun r_26 hr_26 => ?_)
  subst hr_26
  refine lv_iconst (v := (-1)) hx hb dX1_init_102 (by decide) ?_
  have hPc := hP.sub (ws' := [(hk, .inr (2, [.ref q_1, .ref q_4, .ref q_7, .ref q_10, .int 0, .int 0])), (q_1, .inl (gI G, 2088, .inl (rs (rs (rs (rs (rs (rs (rs (fun _ => 0) 2088 1 10) 2088 (4 + 0 * 36 + 1) 200000) 2088 (4 + 1 * 36 + 1) 200000) 2088 (4 + 2 * 36 + 1) 200000) 2088 (4 + 3 * 36 + 1) 200000) 2088 (2004 + 0 * 21 + 1) (-1)) 2088 (2004 + 1 * 21 + 1) (-1))))]) [6, 7] rfl
  have hDc := hD.sub (ws' := [(hk, .inr (2, [.ref q_1, .ref q_4, .ref q_7, .ref q_10, .int 0, .int 0])), (q_1, .inl (gI G, 2088, .inl (rs (rs (rs (rs (rs (rs (rs (fun _ => 0) 2088 1 10) 2088 (4 + 0 * 36 + 1) 200000) 2088 (4 + 1 * 36 + 1) 200000) 2088 (4 + 2 * 36 + 1) 200000) 2088 (4 + 3 * 36 + 1) 200000) 2088 (2004 + 0 * 21 + 1) (-1)) 2088 (2004 + 1 * 21 + 1) (-1))))]) [6, 7] (by decide) rfl
  have hFc := va_free (wc := [(hk, .inr (2, [.ref q_1, .ref q_4, .ref q_7, .ref q_10, .int 0, .int 0])), (q_1, .inl (gI G, 2088, .inl (rs (rs (rs (rs (rs (rs (rs (fun _ => 0) 2088 1 10) 2088 (4 + 0 * 36 + 1) 200000) 2088 (4 + 1 * 36 + 1) 200000) 2088 (4 + 2 * 36 + 1) 200000) 2088 (4 + 3 * 36 + 1) 200000) 2088 (2004 + 0 * 21 + 1) (-1)) 2088 (2004 + 1 * 21 + 1) (-1))))]) hD hS hA [6, 7] rfl
  refine va_callv (va_runV (As := [.int (2004 + 2 * 21 + 1), .int (-1)]) (rest := []) ⟨hx, hb, hml, hown, hts⟩ (c_Book_lay l G hk q_1 2088 (rs (rs (rs (rs (rs (rs (rs (fun _ => 0) 2088 1 10) 2088 (4 + 0 * 36 + 1) 200000) 2088 (4 + 1 * 36 + 1) 200000) 2088 (4 + 2 * 36 + 1) 200000) 2088 (4 + 3 * 36 + 1) 200000) 2088 (2004 + 0 * 21 + 1) (-1)) 2088 (2004 + 1 * 21 + 1) (-1)) (.ref q_4) (.ref q_7) (.ref q_10) (.int 0) (.int 0) (2004 + 2 * 21 + 1) (-1) H.size (by decide)) (cwV 2 hts (gdV (List.mem_cons_of_mem _ (List.mem_append_left _ (List.mem_of_getElem? (i := 13) rfl))) (List.mem_cons_of_mem _ (List.mem_append_left _ (List.mem_of_getElem? (i := 14) rfl))) (List.mem_cons_of_mem _ (List.mem_append_left _ (List.mem_of_getElem? (i := 15) rfl))) (List.mem_cons_of_mem _ (List.mem_append_left _ (List.mem_of_getElem? (i := 16) rfl))) (fun w9 h9 => ⟨(List.mem_cons_of_mem _ (List.mem_append_right _ (List.mem_append_right _ (List.mem_append_right _ (List.mem_append_right _ (List.mem_append_left _ h9)))))), gd_c_Book_lay w9 h9⟩)) rfl rfl rfl kVX1_lay ⟨Nat.le_of_ble_eq_true rfl, Nat.le_of_ble_eq_true rfl⟩) (preV_m (As := [.int (2004 + 2 * 21 + 1), .int (-1)]) hPc hB hDc rfl rfl) rfl rfl hl.1 rfl (lv_room (Nat.le_of_ble_eq_true rfl)) dX1_init_103 ⟨Nat.le_of_ble_eq_true rfl, Nat.le_of_ble_eq_true rfl⟩) hS (fun q _ h => hFc q h) hFc (fun u t H1 locs ht hvm hw hB1 hz1 hk1 hS => ?_)
  obtain ⟨hP1, hD1⟩ := hB1
  rw [ht] at hP1
  obtain ⟨hP, hD⟩ := va_join (wr := [(q_4, .inr (10, [.ref q_6])), (q_6, .inl (gI G, 512, .inl (fl 512 0 (fun _ => 0)))), (q_7, .inr (10, [.ref q_9])), (q_9, .inl (gI G, 512, .inl (fl 512 0 (fun _ => 0)))), (q_10, .inr (10, [.ref q_12])), (q_12, .inl (gI G, 500, .inl (fl 500 0 (fun _ => 0))))]) (w1 := [(hk, .inr (2, [.ref q_1, .ref q_4, .ref q_7, .ref q_10, .int 0, .int 0])), (q_1, .inl (gI G, 2088, .inl (rs (rs (rs (rs (rs (rs (rs (rs (fun _ => 0) 2088 1 10) 2088 (4 + 0 * 36 + 1) 200000) 2088 (4 + 1 * 36 + 1) 200000) 2088 (4 + 2 * 36 + 1) 200000) 2088 (4 + 3 * 36 + 1) 200000) 2088 (2004 + 0 * 21 + 1) (-1)) 2088 (2004 + 1 * 21 + 1) (-1)) 2088 (2004 + 2 * 21 + 1) (-1))))]) hP hD [6, 7] [0, 1, 2, 3, 4, 5] rfl rfl (by decide) (by decide) hk1 hFc hP1 hD1
  generalize H1 = H at hP hS ⊢
  have hP : va_P (gD G) vwCl [(q_4, .inr (10, [.ref q_6])), (q_6, .inl (gI G, 512, .inl (fl 512 0 (fun _ => 0)))), (q_7, .inr (10, [.ref q_9])), (q_9, .inl (gI G, 512, .inl (fl 512 0 (fun _ => 0)))), (q_10, .inr (10, [.ref q_12])), (q_12, .inl (gI G, 500, .inl (fl 500 0 (fun _ => 0)))), (hk, .inr (2, [.ref q_1, .ref q_4, .ref q_7, .ref q_10, .int 0, .int 0])), (q_1, .inl (gI G, 2088, .inl (rs (rs (rs (rs (rs (rs (rs (rs (fun _ => 0) 2088 1 10) 2088 (4 + 0 * 36 + 1) 200000) 2088 (4 + 1 * 36 + 1) 200000) 2088 (4 + 2 * 36 + 1) 200000) 2088 (4 + 3 * 36 + 1) 200000) 2088 (2004 + 0 * 21 + 1) (-1)) 2088 (2004 + 1 * 21 + 1) (-1)) 2088 (2004 + 2 * 21 + 1) (-1))))] H := hP
  have hD : va_D A [(q_4, .inr (10, [.ref q_6])), (q_6, .inl (gI G, 512, .inl (fl 512 0 (fun _ => 0)))), (q_7, .inr (10, [.ref q_9])), (q_9, .inl (gI G, 512, .inl (fl 512 0 (fun _ => 0)))), (q_10, .inr (10, [.ref q_12])), (q_12, .inl (gI G, 500, .inl (fl 500 0 (fun _ => 0)))), (hk, .inr (2, [.ref q_1, .ref q_4, .ref q_7, .ref q_10, .int 0, .int 0])), (q_1, .inl (gI G, 2088, .inl (rs (rs (rs (rs (rs (rs (rs (rs (fun _ => 0) 2088 1 10) 2088 (4 + 0 * 36 + 1) 200000) 2088 (4 + 1 * 36 + 1) 200000) 2088 (4 + 2 * 36 + 1) 200000) 2088 (4 + 3 * 36 + 1) 200000) 2088 (2004 + 0 * 21 + 1) (-1)) 2088 (2004 + 1 * 21 + 1) (-1)) 2088 (2004 + 2 * 21 + 1) (-1))))] := hD
  refine W.eq (g2 := F0 m 106 ls []) rfl ?_
  refine lv_iinc (v := 3) (lv' := [(1, .int 3), (0, .ref hk)]) hx hb dX1_init_106 hl (k := 0) rfl (by decide) (by decide) rfl (fun ls hl => ?_)
  refine lv_goto (tgt := 91) hx hb dX1_init_109 (by decide) ?_
  refine lv_iload_n hx hb dX1_init_91 rfl (lv_at hl 0 rfl) ?_
  refine lv_iconst (v := 4) hx hb dX1_init_92 (by decide) ?_
  refine lv_icmp_ge (tgt := 112) hx hb dX1_init_93 (by decide) (fun c9 => absurd c9 (by decide)) (fun _ => ?_)
  refine lv_aload_n hx hb dX1_init_96 rfl (lv_at hl 1 rfl) ?_
  refine lv_iload_n hx hb dX1_init_97 rfl (lv_at hl 0 rfl) ?_
  refine lv_iconst (v := 1) hx hb dX1_init_98 (by decide) ?_
  refine vp_callSi (va_Run.run (va_runS (As := [.int 3, .int 1]) (rest := [.ref hk]) ⟨hx, hb, hml, hown, hts⟩ (c_Book_ofMat l G 3 1) (va_cwS 2 hts (gdS (List.mem_cons_of_mem _ (List.mem_append_left _ (List.mem_of_getElem? (i := 20) rfl))) (List.mem_cons_of_mem _ (List.mem_append_left _ (List.mem_of_getElem? (i := 21) rfl))) (List.mem_cons_of_mem _ (List.mem_append_left _ (List.mem_of_getElem? (i := 16) rfl))) (fun w9 h9 => ⟨(List.mem_cons_of_mem _ (List.mem_append_right _ (List.mem_append_right _ (List.mem_append_right _ (List.mem_append_right _ (List.mem_append_right _ (List.mem_append_right _ (List.mem_append_left _ h9)))))))), gd_c_Book_ofMat w9 h9⟩)) rfl rfl rfl kSX1_ofMat ⟨Nat.le_of_ble_eq_true rfl, Nat.le_of_ble_eq_true rfl⟩) (preS_p (As := [.int 3, .int 1]) (hP.sub (ws' := []) [] rfl) hB) rfl rfl hl.1 rfl (lv_room (Nat.le_of_ble_eq_true rfl)) dX1_init_99 ⟨Nat.le_of_ble_eq_true rfl, Nat.le_of_ble_eq_true rfl⟩)) (fun r_28 hr_28 => ?_)
  subst hr_28
  refine lv_iconst (v := (-1)) hx hb dX1_init_102 (by decide) ?_
  have hPc := hP.sub (ws' := [(hk, .inr (2, [.ref q_1, .ref q_4, .ref q_7, .ref q_10, .int 0, .int 0])), (q_1, .inl (gI G, 2088, .inl (rs (rs (rs (rs (rs (rs (rs (rs (fun _ => 0) 2088 1 10) 2088 (4 + 0 * 36 + 1) 200000) 2088 (4 + 1 * 36 + 1) 200000) 2088 (4 + 2 * 36 + 1) 200000) 2088 (4 + 3 * 36 + 1) 200000) 2088 (2004 + 0 * 21 + 1) (-1)) 2088 (2004 + 1 * 21 + 1) (-1)) 2088 (2004 + 2 * 21 + 1) (-1))))]) [6, 7] rfl
  have hDc := hD.sub (ws' := [(hk, .inr (2, [.ref q_1, .ref q_4, .ref q_7, .ref q_10, .int 0, .int 0])), (q_1, .inl (gI G, 2088, .inl (rs (rs (rs (rs (rs (rs (rs (rs (fun _ => 0) 2088 1 10) 2088 (4 + 0 * 36 + 1) 200000) 2088 (4 + 1 * 36 + 1) 200000) 2088 (4 + 2 * 36 + 1) 200000) 2088 (4 + 3 * 36 + 1) 200000) 2088 (2004 + 0 * 21 + 1) (-1)) 2088 (2004 + 1 * 21 + 1) (-1)) 2088 (2004 + 2 * 21 + 1) (-1))))]) [6, 7] (by decide) rfl
  have hFc := va_free (wc := [(hk, .inr (2, [.ref q_1, .ref q_4, .ref q_7, .ref q_10, .int 0, .int 0])), (q_1, .inl (gI G, 2088, .inl (rs (rs (rs (rs (rs (rs (rs (rs (fun _ => 0) 2088 1 10) 2088 (4 + 0 * 36 + 1) 200000) 2088 (4 + 1 * 36 + 1) 200000) 2088 (4 + 2 * 36 + 1) 200000) 2088 (4 + 3 * 36 + 1) 200000) 2088 (2004 + 0 * 21 + 1) (-1)) 2088 (2004 + 1 * 21 + 1) (-1)) 2088 (2004 + 2 * 21 + 1) (-1))))]) hD hS hA [6, 7] rfl
  refine va_callv (va_runV (As := [.int (2004 + 3 * 21 + 1), .int (-1)]) (rest := []) ⟨hx, hb, hml, hown, hts⟩ (c_Book_lay l G hk q_1 2088 (rs (rs (rs (rs (rs (rs (rs (rs (fun _ => 0) 2088 1 10) 2088 (4 + 0 * 36 + 1) 200000) 2088 (4 + 1 * 36 + 1) 200000) 2088 (4 + 2 * 36 + 1) 200000) 2088 (4 + 3 * 36 + 1) 200000) 2088 (2004 + 0 * 21 + 1) (-1)) 2088 (2004 + 1 * 21 + 1) (-1)) 2088 (2004 + 2 * 21 + 1) (-1)) (.ref q_4) (.ref q_7) (.ref q_10) (.int 0) (.int 0) (2004 + 3 * 21 + 1) (-1) H.size (by decide)) (cwV 2 hts (gdV (List.mem_cons_of_mem _ (List.mem_append_left _ (List.mem_of_getElem? (i := 13) rfl))) (List.mem_cons_of_mem _ (List.mem_append_left _ (List.mem_of_getElem? (i := 14) rfl))) (List.mem_cons_of_mem _ (List.mem_append_left _ (List.mem_of_getElem? (i := 15) rfl))) (List.mem_cons_of_mem _ (List.mem_append_left _ (List.mem_of_getElem? (i := 16) rfl))) (fun w9 h9 => ⟨(List.mem_cons_of_mem _ (List.mem_append_right _ (List.mem_append_right _ (List.mem_append_right _ (List.mem_append_right _ (List.mem_append_left _ h9)))))), gd_c_Book_lay w9 h9⟩)) rfl rfl rfl kVX1_lay ⟨Nat.le_of_ble_eq_true rfl, Nat.le_of_ble_eq_true rfl⟩) (preV_m (As := [.int (2004 + 3 * 21 + 1), .int (-1)]) hPc hB hDc rfl rfl) rfl rfl hl.1 rfl (lv_room (Nat.le_of_ble_eq_true rfl)) dX1_init_103 ⟨Nat.le_of_ble_eq_true rfl, Nat.le_of_ble_eq_true rfl⟩) hS (fun q _ h => hFc q h) hFc (fun u t H1 locs ht hvm hw hB1 hz1 hk1 hS => ?_)
  obtain ⟨hP1, hD1⟩ := hB1
  rw [ht] at hP1
  obtain ⟨hP, hD⟩ := va_join (wr := [(q_4, .inr (10, [.ref q_6])), (q_6, .inl (gI G, 512, .inl (fl 512 0 (fun _ => 0)))), (q_7, .inr (10, [.ref q_9])), (q_9, .inl (gI G, 512, .inl (fl 512 0 (fun _ => 0)))), (q_10, .inr (10, [.ref q_12])), (q_12, .inl (gI G, 500, .inl (fl 500 0 (fun _ => 0))))]) (w1 := [(hk, .inr (2, [.ref q_1, .ref q_4, .ref q_7, .ref q_10, .int 0, .int 0])), (q_1, .inl (gI G, 2088, .inl (rs (rs (rs (rs (rs (rs (rs (rs (rs (fun _ => 0) 2088 1 10) 2088 (4 + 0 * 36 + 1) 200000) 2088 (4 + 1 * 36 + 1) 200000) 2088 (4 + 2 * 36 + 1) 200000) 2088 (4 + 3 * 36 + 1) 200000) 2088 (2004 + 0 * 21 + 1) (-1)) 2088 (2004 + 1 * 21 + 1) (-1)) 2088 (2004 + 2 * 21 + 1) (-1)) 2088 (2004 + 3 * 21 + 1) (-1))))]) hP hD [6, 7] [0, 1, 2, 3, 4, 5] rfl rfl (by decide) (by decide) hk1 hFc hP1 hD1
  generalize H1 = H at hP hS ⊢
  have hP : va_P (gD G) vwCl [(q_4, .inr (10, [.ref q_6])), (q_6, .inl (gI G, 512, .inl (fl 512 0 (fun _ => 0)))), (q_7, .inr (10, [.ref q_9])), (q_9, .inl (gI G, 512, .inl (fl 512 0 (fun _ => 0)))), (q_10, .inr (10, [.ref q_12])), (q_12, .inl (gI G, 500, .inl (fl 500 0 (fun _ => 0)))), (hk, .inr (2, [.ref q_1, .ref q_4, .ref q_7, .ref q_10, .int 0, .int 0])), (q_1, .inl (gI G, 2088, .inl (rs (rs (rs (rs (rs (rs (rs (rs (rs (fun _ => 0) 2088 1 10) 2088 (4 + 0 * 36 + 1) 200000) 2088 (4 + 1 * 36 + 1) 200000) 2088 (4 + 2 * 36 + 1) 200000) 2088 (4 + 3 * 36 + 1) 200000) 2088 (2004 + 0 * 21 + 1) (-1)) 2088 (2004 + 1 * 21 + 1) (-1)) 2088 (2004 + 2 * 21 + 1) (-1)) 2088 (2004 + 3 * 21 + 1) (-1))))] H := hP
  have hD : va_D A [(q_4, .inr (10, [.ref q_6])), (q_6, .inl (gI G, 512, .inl (fl 512 0 (fun _ => 0)))), (q_7, .inr (10, [.ref q_9])), (q_9, .inl (gI G, 512, .inl (fl 512 0 (fun _ => 0)))), (q_10, .inr (10, [.ref q_12])), (q_12, .inl (gI G, 500, .inl (fl 500 0 (fun _ => 0)))), (hk, .inr (2, [.ref q_1, .ref q_4, .ref q_7, .ref q_10, .int 0, .int 0])), (q_1, .inl (gI G, 2088, .inl (rs (rs (rs (rs (rs (rs (rs (rs (rs (fun _ => 0) 2088 1 10) 2088 (4 + 0 * 36 + 1) 200000) 2088 (4 + 1 * 36 + 1) 200000) 2088 (4 + 2 * 36 + 1) 200000) 2088 (4 + 3 * 36 + 1) 200000) 2088 (2004 + 0 * 21 + 1) (-1)) 2088 (2004 + 1 * 21 + 1) (-1)) 2088 (2004 + 2 * 21 + 1) (-1)) 2088 (2004 + 3 * 21 + 1) (-1))))] := hD
  refine W.eq (g2 := F0 m 106 ls []) rfl ?_
  refine lv_iinc (v := 4) (lv' := [(1, .int 4), (0, .ref hk)]) hx hb dX1_init_106 hl (k := 0) rfl (by decide) (by decide) rfl (fun ls hl => ?_)
  refine lv_goto (tgt := 91) hx hb dX1_init_109 (by decide) ?_
  refine lv_iload_n hx hb dX1_init_91 rfl (lv_at hl 0 rfl) ?_
  refine lv_iconst (v := 4) hx hb dX1_init_92 (by decide) ?_
  refine lv_icmp_ge (tgt := 112) hx hb dX1_init_93 (by decide) (fun _ => ?_) (fun c9 => absurd (by decide) c9)
  have hP9 := hP.sub (ws' := [(hk, .inr (2, [.ref q_1, .ref q_4, .ref q_7, .ref q_10, .int 0, .int 0])), (q_1, .inl (gI G, 2088, .inl (rs (rs (rs (rs (rs (rs (rs (rs (rs (fun _ => 0) 2088 1 10) 2088 (4 + 0 * 36 + 1) 200000) 2088 (4 + 1 * 36 + 1) 200000) 2088 (4 + 2 * 36 + 1) 200000) 2088 (4 + 3 * 36 + 1) 200000) 2088 (2004 + 0 * 21 + 1) (-1)) 2088 (2004 + 1 * 21 + 1) (-1)) 2088 (2004 + 2 * 21 + 1) (-1)) 2088 (2004 + 3 * 21 + 1) (-1)))), (q_4, .inr (10, [.ref q_6])), (q_6, .inl (gI G, 512, .inl (fl 512 0 (fun _ => 0)))), (q_7, .inr (10, [.ref q_9])), (q_9, .inl (gI G, 512, .inl (fl 512 0 (fun _ => 0)))), (q_10, .inr (10, [.ref q_12])), (q_12, .inl (gI G, 500, .inl (fl 500 0 (fun _ => 0))))]) [6, 7, 0, 1, 2, 3, 4, 5] rfl
  have hD9 := hD.sub (ws' := [(hk, .inr (2, [.ref q_1, .ref q_4, .ref q_7, .ref q_10, .int 0, .int 0])), (q_1, .inl (gI G, 2088, .inl (rs (rs (rs (rs (rs (rs (rs (rs (rs (fun _ => 0) 2088 1 10) 2088 (4 + 0 * 36 + 1) 200000) 2088 (4 + 1 * 36 + 1) 200000) 2088 (4 + 2 * 36 + 1) 200000) 2088 (4 + 3 * 36 + 1) 200000) 2088 (2004 + 0 * 21 + 1) (-1)) 2088 (2004 + 1 * 21 + 1) (-1)) 2088 (2004 + 2 * 21 + 1) (-1)) 2088 (2004 + 3 * 21 + 1) (-1)))), (q_4, .inr (10, [.ref q_6])), (q_6, .inl (gI G, 512, .inl (fl 512 0 (fun _ => 0)))), (q_7, .inr (10, [.ref q_9])), (q_9, .inl (gI G, 512, .inl (fl 512 0 (fun _ => 0)))), (q_10, .inr (10, [.ref q_12])), (q_12, .inl (gI G, 500, .inl (fl 500 0 (fun _ => 0))))]) [6, 7, 0, 1, 2, 3, 4, 5] (by decide) rfl
  have e_30 : bk0 = rs (rs (rs (rs (rs (rs (rs (rs (rs (fun _ => 0) 2088 1 10) 2088 (4 + 0 * 36 + 1) 200000) 2088 (4 + 1 * 36 + 1) 200000) 2088 (4 + 2 * 36 + 1) 200000) 2088 (4 + 3 * 36 + 1) 200000) 2088 (2004 + 0 * 21 + 1) (-1)) 2088 (2004 + 1 * 21 + 1) (-1)) 2088 (2004 + 2 * 21 + 1) (-1)) 2088 (2004 + 3 * 21 + 1) (-1) := rfl
  exact W.vret hx hb hr (fun t ht hW => ⟨⟨(), rfl, trivial, q_1, q_4, q_6, q_7, q_9, q_10, q_12, by rw [ht, e_30]; exact hP9, by rw [e_30]; exact hD9⟩, hS.F ht⟩) hS.2.2 dX1_init_112

def wo_c_Tape_init : List Cond := [.methodLink RX10 1 objectInit, .instanceMethod objectInit, .code objectInit ⟨#[0xb1]⟩ 1 none, .classLink RX10 7 RX9, .instantiable RX9 1, .initialized RX9, .methodLink RX10 11 yX9_init, .instanceMethod yX9_init, .fieldLink RX10 14 "JudoHall$Tape" "bytes" "LJudoHall$Row;"]
def wq_c_Tape_init : List Cond := .code yX10_init cX10_init 1 none :: (wo_c_Tape_init ++ (wsX90 ++ (wq_c_Row_init ++ (wsX100 ++ []))))
theorem gd_c_Tape_init : ∀ w ∈ wq_c_Tape_init, Gd w := List.forall_mem_cons.mpr ⟨Or.inl rfl, List.forall_mem_append.mpr ⟨gdl wo_c_Tape_init (by decide +kernel), (List.forall_mem_append.mpr ⟨gd_wsX90, (List.forall_mem_append.mpr ⟨gd_c_Row_init, (List.forall_mem_append.mpr ⟨gd_wsX100, (fun _ h => absurd h List.not_mem_nil)⟩)⟩)⟩)⟩⟩
theorem in_c_Tape_init : ∀ w ∈ wq_c_Tape_init, w ∈ lw_tbl := List.forall_mem_cons.mpr ⟨List.mem_of_getElem? (i := 249) (by decide +kernel), List.forall_mem_append.mpr ⟨inT2 wo_c_Tape_init [(1, 97), (1, 36), (1, 37), (1, 98), (1, 45), (1, 3), (1, 99), (1, 47), (1, 100)] (by decide +kernel), (List.forall_mem_append.mpr ⟨in_wsX90, (List.forall_mem_append.mpr ⟨in_c_Row_init, (List.forall_mem_append.mpr ⟨in_wsX100, (fun _ h => absurd h List.not_mem_nil)⟩)⟩)⟩)⟩⟩
set_option maxHeartbeats 4000000 in
set_option maxRecDepth 100000 in
theorem c_Tape_init (l : Launch) (G : gG) (h0 : Nat) (sz : Nat) : Met l yX10_init wq_c_Tape_init ({ frames := 2, cells := 2, slots := 3001, locals := 45 }) (va_Pc [.ref h0] (mP G [(h0, .inr (11, [.null, .int 0, .int 0, .int 0, .int 0, .int 0]))] sz)) (va_Qv (fun _ : Unit => True) (fun (_ : Unit) (t : State) => ∃ (hy : Nat) (ay : Nat), va_P (gD G) vwCl [(h0, .inr (11, [.ref hy, .int 0, .int 0, .int 0, .int 0, .int 0])), (hy, .inr (10, [.ref ay])), (ay, .inl (gI G, 3000, .inl (fl 3000 0 (fun _ => 0))))] t.heap ∧ va_D (va_A [(h0, .inr (11, [.null, .int 0, .int 0, .int 0, .int 0, .int 0]))] sz) [(h0, .inr (11, [.ref hy, .int 0, .int 0, .int 0, .int 0, .int 0])), (hy, .inr (10, [.ref ay])), (ay, .inl (gI G, 3000, .inl (fl 3000 0 (fun _ => 0))))]) (va_A [(h0, .inr (11, [.null, .int 0, .int 0, .int 0, .int 0, .int 0]))] sz)) 2 3001 (va_A [(h0, .inr (11, [.null, .int 0, .int 0, .int 0, .int 0, .int 0]))] sz) := by
  refine Met.ofW (cc := cX10_init) (maxL := 1) (ret := none) (by decide) rfl ?_
  intro p e s m args below meth c s₁ B hml hv
  obtain ⟨rfl, hsz, hP, hB, hD0⟩ := hv
  have hx := B.exec
  have hb := B.bytes
  have hr := B.returns
  have hts := atoms_spec (ws := wq_c_Tape_init) B.pre
  have hown : s.vm.findClass RX10 = some m.cls := findClass_of_methodNamed B.named
  have hlocks := B.notSynchronized
  have hK := hB.1
  have hin : meth.name = "<init>" := (name_of_methodNamed B.named B.method).1
  subst hsz
  have hD := hD0.self (sz := s.heap.size)
  generalize hAe : va_A [(h0, .inr (11, [.null, .int 0, .int 0, .int 0, .int 0, .int 0]))] s.heap.size = A at hD ⊢
  have hA : ∀ q : Nat, s.heap.size ≤ q → A q := fun q h => by rw [← hAe]; exact Or.inr h
  have hS : va_S A s.heap s.heap [] := va_S.rf
  have hP : va_P (gD G) vwCl [(h0, .inr (11, [.null, .int 0, .int 0, .int 0, .int 0, .int 0]))] s.heap := hP
  have hD : va_D A [(h0, .inr (11, [.null, .int 0, .int 0, .int 0, .int 0, .int 0]))] := hD
  have hl := lv_entry ([.ref h0]) (n := 1) (Nat.le_of_ble_eq_true rfl)
  rw [lg_entry_eq]
  generalize (lg_sl ([.ref h0]) ++ List.replicate (1 - (lg_sl ([.ref h0])).length) Slot.unset).toArray = ls at hl ⊢
  have hl : lv_has ls 1 [(0, .ref h0)] := hl
  refine lv_aload_n hx hb dX10_init_0 rfl (lv_at hl 0 rfl) ?_
  refine W.objInit hx hb hown (hts (.methodLink RX10 1 objectInit) (List.mem_cons_of_mem _ (List.mem_append_left _ (List.mem_of_getElem? (i := 0) rfl)))) (hts (.instanceMethod objectInit) (List.mem_cons_of_mem _ (List.mem_append_left _ (List.mem_of_getElem? (i := 1) rfl)))) (hts _ (List.mem_cons_of_mem _ (List.mem_append_left _ (List.mem_of_getElem? (i := 2) rfl)))) rfl (by rw [hml]; exact hl.1) rfl dX10_init_1 (Nat.le_of_ble_eq_true rfl) (Nat.le_of_ble_eq_true rfl) ?_
  refine W.eq (g2 := F0 m 4 ls []) rfl ?_
  refine lv_aload_n hx hb dX10_init_4 rfl (lv_at hl 0 rfl) ?_
  refine va_new (D := gD G) (ci := 10) (fs := [.null]) (C := RX9) (T := TX9) (N := 1) hx hb hts (fun _ h9 => (List.mem_cons_of_mem _ (List.mem_append_right _ (List.mem_append_left _ h9)))) tyX9 tyX9_ok hown (hts (.classLink RX10 7 RX9) (List.mem_cons_of_mem _ (List.mem_append_left _ (List.mem_of_getElem? (i := 3) rfl)))) (hts (.instantiable RX9 1) (List.mem_cons_of_mem _ (List.mem_append_left _ (List.mem_of_getElem? (i := 4) rfl)))) (hts (.initialized RX9) (List.mem_cons_of_mem _ (List.mem_append_left _ (List.mem_of_getElem? (i := 5) rfl)))) hK hP hD hS hA rfl dvX9 (Nat.le_of_ble_eq_true rfl) (Nat.le_of_ble_eq_true rfl) dX10_init_5 (fun q_1 H hP hD hS => ?_)
  have hP : va_P (gD G) vwCl [(h0, .inr (11, [.null, .int 0, .int 0, .int 0, .int 0, .int 0])), (q_1, .inr (10, [.null]))] H := hP
  have hD : va_D A [(h0, .inr (11, [.null, .int 0, .int 0, .int 0, .int 0, .int 0])), (q_1, .inr (10, [.null]))] := hD
  refine lv_dup hx hb dX10_init_8 rfl ?_
  refine lv_sipush (v := 3000) hx hb dX10_init_9 (by decide) ?_
  refine lv_iconst (v := 0) hx hb dX10_init_12 (by decide) ?_
  have hPc := hP.sub (ws' := [(q_1, .inr (10, [.null]))]) [1] rfl
  have hDc := hD.sub (ws' := [(q_1, .inr (10, [.null]))]) [1] (by decide) rfl
  have hFc := va_free (wc := [(q_1, .inr (10, [.null]))]) hD hS hA [1] rfl
  refine va_callv (va_runI (As := [.int 3000, .int 0]) (rest := [.ref q_1, .ref h0]) ⟨hx, hb, hml, hown, hts⟩ (c_Row_init l G q_1 3000 0 H.size (by decide)) (cwI 2 hts (fun w9 h9 => ⟨(List.mem_cons_of_mem _ (List.mem_append_right _ (List.mem_append_right _ (List.mem_append_left _ h9)))), gd_c_Row_init w9 h9⟩) rfl rfl rfl (hts (.initialized RX9) (List.mem_cons_of_mem _ (List.mem_append_left _ (List.mem_of_getElem? (i := 5) rfl)))) (hts (.methodLink RX10 11 yX9_init) (List.mem_cons_of_mem _ (List.mem_append_left _ (List.mem_of_getElem? (i := 6) rfl)))) (hts (.instanceMethod yX9_init) (List.mem_cons_of_mem _ (List.mem_append_left _ (List.mem_of_getElem? (i := 7) rfl)))) rfl kSX9_init ⟨Nat.le_of_ble_eq_true rfl, Nat.le_of_ble_eq_true rfl⟩) (preS_m (As := [.ref q_1, .int 3000, .int 0]) hPc hB hDc) rfl rfl hl.1 rfl (lv_room (Nat.le_of_ble_eq_true rfl)) dX10_init_13 ⟨Nat.le_of_ble_eq_true rfl, Nat.le_of_ble_eq_true rfl⟩) hS (fun q _ h => hFc q h) hFc (fun u t H1 locs ht hvm hw hB1 hz1 hk1 hS => ?_)
  obtain ⟨q_3, hP1, hD1⟩ := hB1
  rw [ht] at hP1
  obtain ⟨hP, hD⟩ := va_join (wr := [(h0, .inr (11, [.null, .int 0, .int 0, .int 0, .int 0, .int 0]))]) (w1 := [(q_1, .inr (10, [.ref q_3])), (q_3, .inl (gI G, 3000, .inl (fl 3000 0 (fun _ => 0))))]) hP hD [1] [0] rfl rfl (by decide) (by decide) hk1 hFc hP1 hD1
  generalize H1 = H at hP hS ⊢
  have hP : va_P (gD G) vwCl [(h0, .inr (11, [.null, .int 0, .int 0, .int 0, .int 0, .int 0])), (q_1, .inr (10, [.ref q_3])), (q_3, .inl (gI G, 3000, .inl (fl 3000 0 (fun _ => 0))))] H := hP
  have hD : va_D A [(h0, .inr (11, [.null, .int 0, .int 0, .int 0, .int 0, .int 0])), (q_1, .inr (10, [.ref q_3])), (q_3, .inl (gI G, 3000, .inl (fl 3000 0 (fun _ => 0))))] := hD
  refine W.eq (g2 := F0 m 16 ls [.ref q_1, .ref h0]) rfl ?_
  refine va_putF (D := gD G) (ci := 11) (v := .ref q_1) (ty := tyX10 0) (C := RX10) (T := TX10) (N := 6) hx hb hts (fun _ h9 => (List.mem_cons_of_mem _ (List.mem_append_right _ (List.mem_append_right _ (List.mem_append_right _ (List.mem_append_left _ h9)))))) tyX10 tyX10_ok nmX10 hown hK hP hD hS 0 rfl rfl 0 (by decide) (hts (.fieldLink RX10 14 "JudoHall$Tape" "bytes" "LJudoHall$Row;") (List.mem_cons_of_mem _ (List.mem_append_left _ (List.mem_of_getElem? (i := 8) rfl)))) (fun _ h9 => h9) rfl hin rfl (tyX10_ok 0 (by decide)) rfl rfl (Nat.le_of_ble_eq_true rfl) dX10_init_16 (fun H locs hP hD hS => ?_)
  have hP : va_P (gD G) vwCl [(h0, .inr (11, [.ref q_1, .int 0, .int 0, .int 0, .int 0, .int 0])), (q_1, .inr (10, [.ref q_3])), (q_3, .inl (gI G, 3000, .inl (fl 3000 0 (fun _ => 0))))] H := hP
  have hD : va_D A [(h0, .inr (11, [.ref q_1, .int 0, .int 0, .int 0, .int 0, .int 0])), (q_1, .inr (10, [.ref q_3])), (q_3, .inl (gI G, 3000, .inl (fl 3000 0 (fun _ => 0))))] := hD
  have hP9 := hP.sub (ws' := [(h0, .inr (11, [.ref q_1, .int 0, .int 0, .int 0, .int 0, .int 0])), (q_1, .inr (10, [.ref q_3])), (q_3, .inl (gI G, 3000, .inl (fl 3000 0 (fun _ => 0))))]) [0, 1, 2] rfl
  have hD9 := hD.sub (ws' := [(h0, .inr (11, [.ref q_1, .int 0, .int 0, .int 0, .int 0, .int 0])), (q_1, .inr (10, [.ref q_3])), (q_3, .inl (gI G, 3000, .inl (fl 3000 0 (fun _ => 0))))]) [0, 1, 2] (by decide) rfl
  exact W.vret hx hb hr (fun t ht hW => ⟨⟨(), rfl, trivial, q_1, q_3, by rw [ht]; exact hP9, hD9⟩, hS.F ht⟩) hS.2.2 dX10_init_19

def wo_c_Roll_init : List Cond := [.methodLink RX8 3 objectInit, .instanceMethod objectInit, .code objectInit ⟨#[0xb1]⟩ 1 none, .fieldLink RX8 9 "JudoHall$Roll" "book" "LJudoHall$Book;"]
def wq_c_Roll_init : List Cond := .code yX8_init cX8_init 2 none :: (wo_c_Roll_init ++ (wsX80 ++ []))
theorem gd_c_Roll_init : ∀ w ∈ wq_c_Roll_init, Gd w := List.forall_mem_cons.mpr ⟨Or.inl rfl, List.forall_mem_append.mpr ⟨gdl wo_c_Roll_init (by decide +kernel), (List.forall_mem_append.mpr ⟨gd_wsX80, (fun _ h => absurd h List.not_mem_nil)⟩)⟩⟩
theorem in_c_Roll_init : ∀ w ∈ wq_c_Roll_init, w ∈ lw_tbl := List.forall_mem_cons.mpr ⟨List.mem_of_getElem? (i := 383) (by decide +kernel), List.forall_mem_append.mpr ⟨inT2 wo_c_Roll_init [(1, 231), (1, 36), (1, 37), (1, 232)] (by decide +kernel), (List.forall_mem_append.mpr ⟨in_wsX80, (fun _ h => absurd h List.not_mem_nil)⟩)⟩⟩
set_option maxHeartbeats 4000000 in
set_option maxRecDepth 100000 in
theorem c_Roll_init (l : Launch) (G : gG) (h0 : Nat) (hk : Nat) (sz : Nat) : Met l yX8_init wq_c_Roll_init ({ frames := 1, cells := 0, slots := 0, locals := 12 }) (va_Pc [.ref h0, .ref hk] (mP G [(h0, .inr (9, [.null]))] sz)) (va_Qv (fun _ : Unit => True) (fun (_ : Unit) (t : State) => va_P (gD G) vwCl [(h0, .inr (9, [.ref hk]))] t.heap ∧ va_D (va_A [(h0, .inr (9, [.null]))] sz) [(h0, .inr (9, [.ref hk]))]) (va_A [(h0, .inr (9, [.null]))] sz)) 0 0 (va_A [(h0, .inr (9, [.null]))] sz) := by
  refine Met.ofW (cc := cX8_init) (maxL := 2) (ret := none) (by decide) rfl ?_
  intro p e s m args below meth c s₁ B hml hv
  obtain ⟨rfl, hsz, hP, hB, hD0⟩ := hv
  have hx := B.exec
  have hb := B.bytes
  have hr := B.returns
  have hts := atoms_spec (ws := wq_c_Roll_init) B.pre
  have hown : s.vm.findClass RX8 = some m.cls := findClass_of_methodNamed B.named
  have hlocks := B.notSynchronized
  have hK := hB.1
  have hin : meth.name = "<init>" := (name_of_methodNamed B.named B.method).1
  subst hsz
  have hD := hD0.self (sz := s.heap.size)
  generalize hAe : va_A [(h0, .inr (9, [.null]))] s.heap.size = A at hD ⊢
  have hA : ∀ q : Nat, s.heap.size ≤ q → A q := fun q h => by rw [← hAe]; exact Or.inr h
  have hS : va_S A s.heap s.heap [] := va_S.rf
  have hP : va_P (gD G) vwCl [(h0, .inr (9, [.null]))] s.heap := hP
  have hD : va_D A [(h0, .inr (9, [.null]))] := hD
  have hl := lv_entry ([.ref h0, .ref hk]) (n := 2) (Nat.le_of_ble_eq_true rfl)
  rw [lg_entry_eq]
  generalize (lg_sl ([.ref h0, .ref hk]) ++ List.replicate (2 - (lg_sl ([.ref h0, .ref hk])).length) Slot.unset).toArray = ls at hl ⊢
  have hl : lv_has ls 2 [(0, .ref h0), (1, .ref hk)] := hl
  refine lv_aload_n hx hb dX8_init_0 rfl (lv_at hl 0 rfl) ?_
  refine W.objInit hx hb hown (hts (.methodLink RX8 3 objectInit) (List.mem_cons_of_mem _ (List.mem_append_left _ (List.mem_of_getElem? (i := 0) rfl)))) (hts (.instanceMethod objectInit) (List.mem_cons_of_mem _ (List.mem_append_left _ (List.mem_of_getElem? (i := 1) rfl)))) (hts _ (List.mem_cons_of_mem _ (List.mem_append_left _ (List.mem_of_getElem? (i := 2) rfl)))) rfl (by rw [hml]; exact hl.1) rfl dX8_init_1 (Nat.le_of_ble_eq_true rfl) (Nat.le_of_ble_eq_true rfl) ?_
  refine W.eq (g2 := F0 m 4 ls []) rfl ?_
  refine lv_aload_n hx hb dX8_init_4 rfl (lv_at hl 0 rfl) ?_
  refine lv_aload_n hx hb dX8_init_5 rfl (lv_at hl 1 rfl) ?_
  refine va_putF (D := gD G) (ci := 9) (v := .ref hk) (ty := tyX8 0) (C := RX8) (T := TX8) (N := 1) hx hb hts (fun _ h9 => (List.mem_cons_of_mem _ (List.mem_append_right _ (List.mem_append_left _ h9)))) tyX8 tyX8_ok nmX8 hown hK hP hD hS 0 rfl rfl 0 (by decide) (hts (.fieldLink RX8 9 "JudoHall$Roll" "book" "LJudoHall$Book;") (List.mem_cons_of_mem _ (List.mem_append_left _ (List.mem_of_getElem? (i := 3) rfl)))) (fun _ h9 => h9) rfl hin rfl (tyX8_ok 0 (by decide)) rfl rfl (Nat.le_of_ble_eq_true rfl) dX8_init_6 (fun H locs hP hD hS => ?_)
  have hP : va_P (gD G) vwCl [(h0, .inr (9, [.ref hk]))] H := hP
  have hD : va_D A [(h0, .inr (9, [.ref hk]))] := hD
  have hP9 := hP.sub (ws' := [(h0, .inr (9, [.ref hk]))]) [0] rfl
  have hD9 := hD.sub (ws' := [(h0, .inr (9, [.ref hk]))]) [0] (by decide) rfl
  exact W.vret hx hb hr (fun t ht hW => ⟨⟨(), rfl, trivial, by rw [ht]; exact hP9, hD9⟩, hS.F ht⟩) hS.2.2 dX8_init_9
end
section
/-! statics: ArrayList's empty row, Throwable's two, Parser.HEAD -/
abbrev gS : Type := Nat × Nat × Value × Value × Unit
def hdF (j : Nat) : Value := match j with
  | 0 => .int 4 | 1 => .int 3 | 2 => .int 19 | 3 => .int 5 | 4 => .int 3 | _ => .int 19
def ST (Z : gS) (A : Nat → Prop) (U : State) (H : Heap) : Prop := va_Z "java/util/ArrayList" "DEFAULTCAPACITY_EMPTY_ELEMENTDATA" "[Ljava/lang/Object;" (.ref Z.1) A U H ∧ va_Z "java/lang/Throwable" "UNASSIGNED_STACK" "[Ljava/lang/StackTraceElement;" Z.2.2.1 A U H ∧ va_Z "java/lang/Throwable" "SUPPRESSED_SENTINEL" "Ljava/util/List;" Z.2.2.2.1 A U H ∧ va_Z "JudoHall$Parser" "HEAD" "[I" (.ref Z.2.1) A U H ∧ va_T .int Z.2.1 6 hdF A U H ∧ (Z.2.2.1 = .null ∨ ∃ a, Z.2.2.1 = .ref a) ∧ (Z.2.2.2.1 = .null ∨ ∃ a, Z.2.2.2.1 = .ref a)
theorem ST.moved {Z : gS} {A : Nat → Prop} {u U : State} {H : Heap} (hvm : u.vm.Alike U.vm) (h : ST Z A u H) : ST Z A U H := ⟨h.1.moved hvm, h.2.1.moved hvm, h.2.2.1.moved hvm, h.2.2.2.1.moved hvm, h.2.2.2.2.1.moved hvm, h.2.2.2.2.2⟩
theorem ST.kept {Z : gS} {A : Nat → Prop} {U : State} {H H1 : Heap} (h : ST Z A U H) (hq : ∀ a : Nat, a < H.size → ¬ A a → H1[a]? = H[a]?) : ST Z A U H1 := ⟨h.1.kept hq, h.2.1.kept hq, h.2.2.1.kept hq, h.2.2.2.1.kept hq, h.2.2.2.2.1.kept hq, h.2.2.2.2.2⟩
theorem ST.narrow {Z : gS} {A B : Nat → Prop} {U : State} {H : Heap} (h : ST Z A U H) (hAB : ∀ q, B q → A q) : ST Z B U H := ⟨h.1.narrow hAB, h.2.1.narrow hAB, h.2.2.1.narrow hAB, h.2.2.2.1.narrow hAB, h.2.2.2.2.1.narrow hAB, h.2.2.2.2.2⟩
def eP (G : gG) (Z : gS) (ws : va_W) (sz : Nat) (U : State) : Prop := mP G ws sz U ∧ ST Z (va_A ws sz) U U.heap
theorem eP.blind {G : gG} {Z : gS} {ws : va_W} {sz : Nat} {av : List Value} : FrameBlind (va_Pc av (eP G Z ws sz)) := fun _ U g mk q => ⟨q.1, ⟨q.2.1.1, q.2.1.2.1, q.2.1.2.2.1.calling g mk _, q.2.1.2.2.2⟩, ST.moved (u := U) (Vm.Alike.refl U.vm) q.2.2⟩
theorem preS_e {G : gG} {Z : gS} {s : State} {H : Heap} {As : List Value} {ws : va_W} {A : Nat → Prop} (hP : va_P (gD G) vwCl ws H) (hB : KB G s) (hD : va_D A ws) (hE : ST Z (va_A ws H.size) s H) : PreS s H (va_Pc As (eP G Z ws H.size)) As :=
  ⟨eP.blind, fun U hU hW => ⟨rfl, ⟨by rw [hU], by rw [hU]; exact hP, hB.moved hW, hD.weaken (fun _ _ _ _ => trivial)⟩, by rw [hU]; exact hE.moved hW.alike⟩⟩
theorem gx_nr {ty : FieldType} {v : Value} (_ : ty.isReference = true) (h : v = .null ∨ ∃ a, v = .ref a) : narrow ty v = v := by
  rcases h with rfl | ⟨a, rfl⟩ <;> cases ty <;> rfl
theorem gx_fr {ty : FieldType} {v : Value} (hty : ty.isReference = true) (h : v = .null ∨ ∃ a, v = .ref a) : fits ty v = true := by
  rcases h with rfl | ⟨a, rfl⟩ <;> cases ty <;> first | rfl | cases hty

def wo_c_ACol_init : List Cond := [.methodLink RJxa1e45 1 objectInit, .instanceMethod objectInit, .code objectInit ⟨#[0xb1]⟩ 1 none]
def wq_c_ACol_init : List Cond := .code yJxa1e45_init_da8c8 cJxa1e45_init_da8c8 1 none :: (wo_c_ACol_init ++ [])
theorem gd_c_ACol_init : ∀ w ∈ wq_c_ACol_init, Gd w := List.forall_mem_cons.mpr ⟨Or.inl rfl, List.forall_mem_append.mpr ⟨gdl wo_c_ACol_init (by decide +kernel), (fun _ h => absurd h List.not_mem_nil)⟩⟩
theorem in_c_ACol_init : ∀ w ∈ wq_c_ACol_init, w ∈ lw_tbl := List.forall_mem_cons.mpr ⟨List.mem_of_getElem? (i := 539) (by decide +kernel), List.forall_mem_append.mpr ⟨inT2 wo_c_ACol_init [(2, 147), (1, 36), (1, 37)] (by decide +kernel), (fun _ h => absurd h List.not_mem_nil)⟩⟩
set_option maxHeartbeats 4000000 in
set_option maxRecDepth 100000 in
theorem c_ACol_init (l : Launch) (G : gG) (h0 : Nat) (sz : Nat) : Met l yJxa1e45_init_da8c8 wq_c_ACol_init ({ frames := 1, cells := 0, slots := 0, locals := 12 }) (va_Pc [.ref h0] (mP G [(h0, .inr (0, [.int 0, .null, .int 0]))] sz)) (va_Qv (fun _ : Unit => True) (fun (_ : Unit) (t : State) => va_P (gD G) vwCl [(h0, .inr (0, [.int 0, .null, .int 0]))] t.heap ∧ va_D (va_A [(h0, .inr (0, [.int 0, .null, .int 0]))] sz) [(h0, .inr (0, [.int 0, .null, .int 0]))]) (va_A [(h0, .inr (0, [.int 0, .null, .int 0]))] sz)) 0 0 (va_A [(h0, .inr (0, [.int 0, .null, .int 0]))] sz) := by
  refine Met.ofW (cc := cJxa1e45_init_da8c8) (maxL := 1) (ret := none) (by decide) rfl ?_
  intro p e s m args below meth c s₁ B hml hv
  obtain ⟨rfl, hsz, hP, hB, hD0⟩ := hv
  have hx := B.exec
  have hb := B.bytes
  have hr := B.returns
  have hts := atoms_spec (ws := wq_c_ACol_init) B.pre
  have hown : s.vm.findClass RJxa1e45 = some m.cls := findClass_of_methodNamed B.named
  have hlocks := B.notSynchronized
  have hK := hB.1
  have hin : meth.name = "<init>" := (name_of_methodNamed B.named B.method).1
  subst hsz
  have hD := hD0.self (sz := s.heap.size)
  generalize hAe : va_A [(h0, .inr (0, [.int 0, .null, .int 0]))] s.heap.size = A at hD ⊢
  have hA : ∀ q : Nat, s.heap.size ≤ q → A q := fun q h => by rw [← hAe]; exact Or.inr h
  have hS : va_S A s.heap s.heap [] := va_S.rf
  have hP : va_P (gD G) vwCl [(h0, .inr (0, [.int 0, .null, .int 0]))] s.heap := hP
  have hD : va_D A [(h0, .inr (0, [.int 0, .null, .int 0]))] := hD
  have hl := lv_entry ([.ref h0]) (n := 1) (Nat.le_of_ble_eq_true rfl)
  rw [lg_entry_eq]
  generalize (lg_sl ([.ref h0]) ++ List.replicate (1 - (lg_sl ([.ref h0])).length) Slot.unset).toArray = ls at hl ⊢
  have hl : lv_has ls 1 [(0, .ref h0)] := hl
  refine lv_aload_n hx hb dJxa1e45_init_da8c8_0 rfl (lv_at hl 0 rfl) ?_
  refine W.objInit hx hb hown (hts (.methodLink RJxa1e45 1 objectInit) (List.mem_cons_of_mem _ (List.mem_append_left _ (List.mem_of_getElem? (i := 0) rfl)))) (hts (.instanceMethod objectInit) (List.mem_cons_of_mem _ (List.mem_append_left _ (List.mem_of_getElem? (i := 1) rfl)))) (hts _ (List.mem_cons_of_mem _ (List.mem_append_left _ (List.mem_of_getElem? (i := 2) rfl)))) rfl (by rw [hml]; exact hl.1) rfl dJxa1e45_init_da8c8_1 (Nat.le_of_ble_eq_true rfl) (Nat.le_of_ble_eq_true rfl) ?_
  refine W.eq (g2 := F0 m 4 ls []) rfl ?_
  have hP9 := hP.sub (ws' := [(h0, .inr (0, [.int 0, .null, .int 0]))]) [0] rfl
  have hD9 := hD.sub (ws' := [(h0, .inr (0, [.int 0, .null, .int 0]))]) [0] (by decide) rfl
  exact W.vret hx hb hr (fun t ht hW => ⟨⟨(), rfl, trivial, by rw [ht]; exact hP9, hD9⟩, hS.F ht⟩) hS.2.2 dJxa1e45_init_da8c8_4

def wo_c_AList_init : List Cond := [.methodLink RJxc12de 1 yJxa1e45_init_da8c8, .instanceMethod yJxa1e45_init_da8c8, .initialized RJxa1e45, .fieldLink RJxc12de 7 "java/util/AbstractList" "modCount" "I"]
def wq_c_AList_init : List Cond := .code yJxc12de_init_da8c8 cJxc12de_init_da8c8 1 none :: (wo_c_AList_init ++ (wq_c_ACol_init ++ (wsJx4a65c0 ++ [])))
theorem gd_c_AList_init : ∀ w ∈ wq_c_AList_init, Gd w := List.forall_mem_cons.mpr ⟨Or.inl rfl, List.forall_mem_append.mpr ⟨gdl wo_c_AList_init (by decide +kernel), (List.forall_mem_append.mpr ⟨gd_c_ACol_init, (List.forall_mem_append.mpr ⟨gd_wsJx4a65c0, (fun _ h => absurd h List.not_mem_nil)⟩)⟩)⟩⟩
theorem in_c_AList_init : ∀ w ∈ wq_c_AList_init, w ∈ lw_tbl := List.forall_mem_cons.mpr ⟨List.mem_of_getElem? (i := 536) (by decide +kernel), List.forall_mem_append.mpr ⟨inT2 wo_c_AList_init [(2, 144), (2, 145), (1, 15), (2, 152)] (by decide +kernel), (List.forall_mem_append.mpr ⟨in_c_ACol_init, (List.forall_mem_append.mpr ⟨in_wsJx4a65c0, (fun _ h => absurd h List.not_mem_nil)⟩)⟩)⟩⟩
set_option maxHeartbeats 4000000 in
set_option maxRecDepth 100000 in
theorem c_AList_init (l : Launch) (G : gG) (h0 : Nat) (sz : Nat) : Met l yJxc12de_init_da8c8 wq_c_AList_init ({ frames := 2, cells := 0, slots := 0, locals := 32 }) (va_Pc [.ref h0] (mP G [(h0, .inr (0, [.int 0, .null, .int 0]))] sz)) (va_Qv (fun _ : Unit => True) (fun (_ : Unit) (t : State) => va_P (gD G) vwCl [(h0, .inr (0, [.int 0, .null, .int 0]))] t.heap ∧ va_D (va_A [(h0, .inr (0, [.int 0, .null, .int 0]))] sz) [(h0, .inr (0, [.int 0, .null, .int 0]))]) (va_A [(h0, .inr (0, [.int 0, .null, .int 0]))] sz)) 0 0 (va_A [(h0, .inr (0, [.int 0, .null, .int 0]))] sz) := by
  refine Met.ofW (cc := cJxc12de_init_da8c8) (maxL := 1) (ret := none) (by decide) rfl ?_
  intro p e s m args below meth c s₁ B hml hv
  obtain ⟨rfl, hsz, hP, hB, hD0⟩ := hv
  have hx := B.exec
  have hb := B.bytes
  have hr := B.returns
  have hts := atoms_spec (ws := wq_c_AList_init) B.pre
  have hown : s.vm.findClass RJxc12de = some m.cls := findClass_of_methodNamed B.named
  have hlocks := B.notSynchronized
  have hK := hB.1
  have hin : meth.name = "<init>" := (name_of_methodNamed B.named B.method).1
  subst hsz
  have hD := hD0.self (sz := s.heap.size)
  generalize hAe : va_A [(h0, .inr (0, [.int 0, .null, .int 0]))] s.heap.size = A at hD ⊢
  have hA : ∀ q : Nat, s.heap.size ≤ q → A q := fun q h => by rw [← hAe]; exact Or.inr h
  have hS : va_S A s.heap s.heap [] := va_S.rf
  have hP : va_P (gD G) vwCl [(h0, .inr (0, [.int 0, .null, .int 0]))] s.heap := hP
  have hD : va_D A [(h0, .inr (0, [.int 0, .null, .int 0]))] := hD
  have hl := lv_entry ([.ref h0]) (n := 1) (Nat.le_of_ble_eq_true rfl)
  rw [lg_entry_eq]
  generalize (lg_sl ([.ref h0]) ++ List.replicate (1 - (lg_sl ([.ref h0])).length) Slot.unset).toArray = ls at hl ⊢
  have hl : lv_has ls 1 [(0, .ref h0)] := hl
  refine lv_aload_n hx hb dJxc12de_init_da8c8_0 rfl (lv_at hl 0 rfl) ?_
  have hPc := hP.sub (ws' := [(h0, .inr (0, [.int 0, .null, .int 0]))]) [0] rfl
  have hDc := hD.sub (ws' := [(h0, .inr (0, [.int 0, .null, .int 0]))]) [0] (by decide) rfl
  have hFc := va_free (wc := [(h0, .inr (0, [.int 0, .null, .int 0]))]) hD hS hA [0] rfl
  refine va_callv (va_runI (As := []) (rest := []) ⟨hx, hb, hml, hown, hts⟩ (c_ACol_init l G h0 s.heap.size) (cwI 0 hts (fun w9 h9 => ⟨(List.mem_cons_of_mem _ (List.mem_append_right _ (List.mem_append_left _ h9))), gd_c_ACol_init w9 h9⟩) rfl rfl rfl (hts (.initialized RJxa1e45) (List.mem_cons_of_mem _ (List.mem_append_left _ (List.mem_of_getElem? (i := 2) rfl)))) (hts (.methodLink RJxc12de 1 yJxa1e45_init_da8c8) (List.mem_cons_of_mem _ (List.mem_append_left _ (List.mem_of_getElem? (i := 0) rfl)))) (hts (.instanceMethod yJxa1e45_init_da8c8) (List.mem_cons_of_mem _ (List.mem_append_left _ (List.mem_of_getElem? (i := 1) rfl)))) rfl kSJxa1e45_init_da8c8 ⟨Nat.le_of_ble_eq_true rfl, Nat.le_of_ble_eq_true rfl⟩) (preS_m (As := [.ref h0]) hPc hB hDc) rfl rfl hl.1 rfl (lv_room (Nat.le_of_ble_eq_true rfl)) dJxc12de_init_da8c8_1 ⟨Nat.le_of_ble_eq_true rfl, Nat.le_of_ble_eq_true rfl⟩) hS (fun q _ h => hFc q h) hFc (fun u t H1 locs ht hvm hw hB1 hz1 hk1 hS => ?_)
  obtain ⟨hP1, hD1⟩ := hB1
  rw [ht] at hP1
  obtain ⟨hP, hD⟩ := va_join (wr := []) (w1 := [(h0, .inr (0, [.int 0, .null, .int 0]))]) hP hD [0] [] rfl rfl (by decide) (by decide) hk1 hFc hP1 hD1
  generalize H1 = H at hP hS ⊢
  have hP : va_P (gD G) vwCl [(h0, .inr (0, [.int 0, .null, .int 0]))] H := hP
  have hD : va_D A [(h0, .inr (0, [.int 0, .null, .int 0]))] := hD
  refine W.eq (g2 := F0 m 4 ls []) rfl ?_
  refine lv_aload_n hx hb dJxc12de_init_da8c8_4 rfl (lv_at hl 0 rfl) ?_
  refine lv_iconst (v := 0) hx hb dJxc12de_init_da8c8_5 (by decide) ?_
  refine va_put (D := gD G) (ci := 0) (v := .int 0) (ty := tyJx4a65c 0) (C := RJx4a65c) (T := TJx4a65c) (N := 3) hx hb hts (fun _ h9 => (List.mem_cons_of_mem _ (List.mem_append_right _ (List.mem_append_right _ (List.mem_append_left _ h9))))) tyJx4a65c tyJx4a65c_ok nmJx4a65c hown hK hP hD hS 0 rfl rfl 0 (by decide) (hts (.fieldLink RJxc12de 7 "java/util/AbstractList" "modCount" "I") (List.mem_cons_of_mem _ (List.mem_append_left _ (List.mem_of_getElem? (i := 3) rfl)))) (fun _ h9 => h9) rfl (tyJx4a65c_ok 0 (by decide)) rfl rfl (Nat.le_of_ble_eq_true rfl) dJxc12de_init_da8c8_6 (fun H locs hP hD hS => ?_)
  have hP : va_P (gD G) vwCl [(h0, .inr (0, [.int 0, .null, .int 0]))] H := hP
  have hD : va_D A [(h0, .inr (0, [.int 0, .null, .int 0]))] := hD
  have hP9 := hP.sub (ws' := [(h0, .inr (0, [.int 0, .null, .int 0]))]) [0] rfl
  have hD9 := hD.sub (ws' := [(h0, .inr (0, [.int 0, .null, .int 0]))]) [0] (by decide) rfl
  exact W.vret hx hb hr (fun t ht hW => ⟨⟨(), rfl, trivial, by rw [ht]; exact hP9, hD9⟩, hS.F ht⟩) hS.2.2 dJxc12de_init_da8c8_9
end
section
def RE1 : String := "java/lang/Exception"
abbrev cE1_init : ByteArray := prog_21_method_5_code
def yE1_init : MethodName := ⟨RE1, "<init>", "(Ljava/lang/String;Ljava/lang/Throwable;ZZ)V"⟩
theorem dE1_init_0 : decode cE1_init 0 = .ok (.aload_n 0, 1) := by decide +kernel
theorem dE1_init_1 : decode cE1_init 1 = .ok (.aload_n 1, 1) := by decide +kernel
theorem dE1_init_2 : decode cE1_init 2 = .ok (.aload_n 2, 1) := by decide +kernel
theorem dE1_init_3 : decode cE1_init 3 = .ok (.iload_n 3, 1) := by decide +kernel
theorem dE1_init_4 : decode cE1_init 4 = .ok (.iload 4, 2) := by decide +kernel
theorem dE1_init_6 : decode cE1_init 6 = .ok (.invokespecial 16, 3) := by decide +kernel
theorem dE1_init_9 : decode cE1_init 9 = .ok (.return_, 1) := by decide +kernel
theorem kSE1_init : yE1_init.cls ≠ "java/lang/invoke/MethodHandle" ∧ yE1_init.cls ≠ "java/lang/invoke/VarHandle" ∧ (parseMethodDescriptor yE1_init.desc).map (fun d => d.parameters.length) = some 4 := by decide +kernel
def RE2 : String := "java/lang/Throwable"
abbrev cE2_init : ByteArray := prog_28_method_5_code
def yE2_init : MethodName := ⟨RE2, "<init>", "(Ljava/lang/String;Ljava/lang/Throwable;ZZ)V"⟩
theorem dE2_init_0 : decode cE2_init 0 = .ok (.aload_n 0, 1) := by decide +kernel
theorem dE2_init_1 : decode cE2_init 1 = .ok (.invokespecial 1, 3) := by decide +kernel
theorem dE2_init_4 : decode cE2_init 4 = .ok (.aload_n 0, 1) := by decide +kernel
theorem dE2_init_5 : decode cE2_init 5 = .ok (.aload_n 0, 1) := by decide +kernel
theorem dE2_init_6 : decode cE2_init 6 = .ok (.putfield 7, 3) := by decide +kernel
theorem dE2_init_9 : decode cE2_init 9 = .ok (.aload_n 0, 1) := by decide +kernel
theorem dE2_init_10 : decode cE2_init 10 = .ok (.getstatic 13, 3) := by decide +kernel
theorem dE2_init_13 : decode cE2_init 13 = .ok (.putfield 17, 3) := by decide +kernel
theorem dE2_init_16 : decode cE2_init 16 = .ok (.aload_n 0, 1) := by decide +kernel
theorem dE2_init_17 : decode cE2_init 17 = .ok (.getstatic 20, 3) := by decide +kernel
theorem dE2_init_20 : decode cE2_init 20 = .ok (.putfield 24, 3) := by decide +kernel
theorem dE2_init_23 : decode cE2_init 23 = .ok (.iload 4, 2) := by decide +kernel
theorem dE2_init_25 : decode cE2_init 25 = .ok (.ifCond .eq 11, 3) := by decide +kernel
theorem dE2_init_36 : decode cE2_init 36 = .ok (.aload_n 0, 1) := by decide +kernel
theorem dE2_init_37 : decode cE2_init 37 = .ok (.aconst_null, 1) := by decide +kernel
theorem dE2_init_38 : decode cE2_init 38 = .ok (.putfield 17, 3) := by decide +kernel
theorem dE2_init_41 : decode cE2_init 41 = .ok (.aload_n 0, 1) := by decide +kernel
theorem dE2_init_42 : decode cE2_init 42 = .ok (.aload_n 1, 1) := by decide +kernel
theorem dE2_init_43 : decode cE2_init 43 = .ok (.putfield 31, 3) := by decide +kernel
theorem dE2_init_46 : decode cE2_init 46 = .ok (.aload_n 0, 1) := by decide +kernel
theorem dE2_init_47 : decode cE2_init 47 = .ok (.aload_n 2, 1) := by decide +kernel
theorem dE2_init_48 : decode cE2_init 48 = .ok (.putfield 7, 3) := by decide +kernel
theorem dE2_init_51 : decode cE2_init 51 = .ok (.iload_n 3, 1) := by decide +kernel
theorem dE2_init_52 : decode cE2_init 52 = .ok (.ifCond .ne 8, 3) := by decide +kernel
theorem dE2_init_55 : decode cE2_init 55 = .ok (.aload_n 0, 1) := by decide +kernel
theorem dE2_init_56 : decode cE2_init 56 = .ok (.aconst_null, 1) := by decide +kernel
theorem dE2_init_57 : decode cE2_init 57 = .ok (.putfield 24, 3) := by decide +kernel
theorem dE2_init_60 : decode cE2_init 60 = .ok (.return_, 1) := by decide +kernel
theorem kSE2_init : yE2_init.cls ≠ "java/lang/invoke/MethodHandle" ∧ yE2_init.cls ≠ "java/lang/invoke/VarHandle" ∧ (parseMethodDescriptor yE2_init.desc).map (fun d => d.parameters.length) = some 4 := by decide +kernel
def wo_c_Throwable_init : List Cond := [.methodLink RE2 1 objectInit, .instanceMethod objectInit, .code objectInit ⟨#[0xb1]⟩ 1 none, .fieldLink RE2 7 "java/lang/Throwable" "cause" "Ljava/lang/Throwable;", .fieldLink RE2 13 "java/lang/Throwable" "UNASSIGNED_STACK" "[Ljava/lang/StackTraceElement;", .fieldLink RE2 17 "java/lang/Throwable" "stackTrace" "[Ljava/lang/StackTraceElement;", .fieldLink RE2 20 "java/lang/Throwable" "SUPPRESSED_SENTINEL" "Ljava/util/List;", .fieldLink RE2 24 "java/lang/Throwable" "suppressedExceptions" "Ljava/util/List;", .fieldLink RE2 31 "java/lang/Throwable" "detailMessage" "Ljava/lang/String;"]
def wq_c_Throwable_init : List Cond := .code yE2_init cE2_init 5 none :: (wo_c_Throwable_init ++ (wsX120 ++ []))
theorem gd_c_Throwable_init : ∀ w ∈ wq_c_Throwable_init, Gd w := List.forall_mem_cons.mpr ⟨Or.inl rfl, List.forall_mem_append.mpr ⟨gdl wo_c_Throwable_init (by decide +kernel), (List.forall_mem_append.mpr ⟨gd_wsX120, (fun _ h => absurd h List.not_mem_nil)⟩)⟩⟩
theorem in_c_Throwable_init : ∀ w ∈ wq_c_Throwable_init, w ∈ lw_tbl := List.forall_mem_cons.mpr ⟨List.mem_of_getElem? (i := 1598) (by decide +kernel), List.forall_mem_append.mpr ⟨inT2 wo_c_Throwable_init [(6, 223), (1, 36), (1, 37), (7, 8), (6, 224), (7, 9), (6, 226), (7, 10), (7, 7)] (by decide +kernel), (List.forall_mem_append.mpr ⟨in_wsX120, (fun _ h => absurd h List.not_mem_nil)⟩)⟩⟩
set_option maxHeartbeats 4000000 in
set_option maxRecDepth 100000 in
theorem c_Throwable_init (l : Launch) (G : gG) (Z : gS) (h0 : Nat) (sz : Nat) : Met l yE2_init wq_c_Throwable_init ({ frames := 1, cells := 0, slots := 0, locals := 12 }) (va_Pc [.ref h0, .null, .null, .int 0, .int 0] (eP G Z [(h0, .inr (13, [.null, .null, .null, .null, .null, .int 0]))] sz)) (va_Qv (fun _ : Unit => True) (fun (_ : Unit) (t : State) => va_P (gD G) vwCl [(h0, .inr (13, [.null, .null, .null, .null, .null, .int 0]))] t.heap ∧ va_D (va_A [(h0, .inr (13, [.null, .null, .null, .null, .null, .int 0]))] sz) [(h0, .inr (13, [.null, .null, .null, .null, .null, .int 0]))]) (va_A [(h0, .inr (13, [.null, .null, .null, .null, .null, .int 0]))] sz)) 0 0 (va_A [(h0, .inr (13, [.null, .null, .null, .null, .null, .int 0]))] sz) := by
  refine Met.ofW (cc := cE2_init) (maxL := 5) (ret := none) (by decide) rfl ?_
  intro p e s m args below meth c s₁ B hml hv
  obtain ⟨rfl, ⟨hsz, hP, hB, hD0⟩, hE⟩ := hv
  have hx := B.exec
  have hb := B.bytes
  have hr := B.returns
  have hts := atoms_spec (ws := wq_c_Throwable_init) B.pre
  have hown : s.vm.findClass RE2 = some m.cls := findClass_of_methodNamed B.named
  have hlocks := B.notSynchronized
  have hK := hB.1
  have hin : meth.name = "<init>" := (name_of_methodNamed B.named B.method).1
  subst hsz
  have hD := hD0.self (sz := s.heap.size)
  generalize hAe : va_A [(h0, .inr (13, [.null, .null, .null, .null, .null, .int 0]))] s.heap.size = A at hD hE ⊢
  have hA : ∀ q : Nat, s.heap.size ≤ q → A q := fun q h => by rw [← hAe]; exact Or.inr h
  have hS : va_S A s.heap s.heap [] := va_S.rf
  have hP : va_P (gD G) vwCl [(h0, .inr (13, [.null, .null, .null, .null, .null, .int 0]))] s.heap := hP
  have hD : va_D A [(h0, .inr (13, [.null, .null, .null, .null, .null, .int 0]))] := hD
  have hl := lv_entry ([.ref h0, .null, .null, .int 0, .int 0]) (n := 5) (Nat.le_of_ble_eq_true rfl)
  rw [lg_entry_eq]
  generalize (lg_sl ([.ref h0, .null, .null, .int 0, .int 0]) ++ List.replicate (5 - (lg_sl ([.ref h0, .null, .null, .int 0, .int 0])).length) Slot.unset).toArray = ls at hl ⊢
  have hl : lv_has ls 5 [(0, .ref h0), (1, .null), (2, .null), (3, .int 0), (4, .int 0)] := hl
  refine lv_aload_n hx hb dE2_init_0 rfl (lv_at hl 0 rfl) ?_
  refine W.objInit hx hb hown (hts (.methodLink RE2 1 objectInit) (List.mem_cons_of_mem _ (List.mem_append_left _ (List.mem_of_getElem? (i := 0) rfl)))) (hts (.instanceMethod objectInit) (List.mem_cons_of_mem _ (List.mem_append_left _ (List.mem_of_getElem? (i := 1) rfl)))) (hts _ (List.mem_cons_of_mem _ (List.mem_append_left _ (List.mem_of_getElem? (i := 2) rfl)))) rfl (by rw [hml]; exact hl.1) rfl dE2_init_1 (Nat.le_of_ble_eq_true rfl) (Nat.le_of_ble_eq_true rfl) ?_
  refine W.eq (g2 := F0 m 4 ls []) rfl ?_
  refine lv_aload_n hx hb dE2_init_4 rfl (lv_at hl 0 rfl) ?_
  refine lv_aload_n hx hb dE2_init_5 rfl (lv_at hl 0 rfl) ?_
  refine va_put (D := gD G) (ci := 13) (v := .ref h0) (ty := tyX12 0) (C := RX12) (T := TX12) (N := 6) hx hb hts (fun _ h9 => (List.mem_cons_of_mem _ (List.mem_append_right _ (List.mem_append_left _ h9)))) tyX12 tyX12_ok nmX12 hown hK hP hD hS 0 rfl rfl 0 (by decide) (hts (.fieldLink RE2 7 "java/lang/Throwable" "cause" "Ljava/lang/Throwable;") (List.mem_cons_of_mem _ (List.mem_append_left _ (List.mem_of_getElem? (i := 3) rfl)))) (fun _ h9 => h9) rfl (tyX12_ok 0 (by decide)) rfl rfl (Nat.le_of_ble_eq_true rfl) dE2_init_6 (fun H locs hP hD hS => ?_)
  have hP : va_P (gD G) vwCl [(h0, .inr (13, [.ref h0, .null, .null, .null, .null, .int 0]))] H := hP
  have hD : va_D A [(h0, .inr (13, [.ref h0, .null, .null, .null, .null, .int 0]))] := hD
  refine lv_aload_n hx hb dE2_init_9 rfl (lv_at hl 0 rfl) ?_
  refine va_gets hx hb hE.2.1 hS hown (hts (.fieldLink RE2 13 "java/lang/Throwable" "UNASSIGNED_STACK" "[Ljava/lang/StackTraceElement;") (List.mem_cons_of_mem _ (List.mem_append_left _ (List.mem_of_getElem? (i := 4) rfl)))) (fun _ h9 => h9) dE2_init_10 ?_
  refine va_put (D := gD G) (ci := 13) (v := Z.2.2.1) (ty := tyX12 1) (C := RX12) (T := TX12) (N := 6) hx hb hts (fun _ h9 => (List.mem_cons_of_mem _ (List.mem_append_right _ (List.mem_append_left _ h9)))) tyX12 tyX12_ok nmX12 hown hK hP hD hS 0 rfl rfl 1 (by decide) (hts (.fieldLink RE2 17 "java/lang/Throwable" "stackTrace" "[Ljava/lang/StackTraceElement;") (List.mem_cons_of_mem _ (List.mem_append_left _ (List.mem_of_getElem? (i := 5) rfl)))) (fun _ h9 => h9) rfl (tyX12_ok 1 (by decide)) (gx_nr rfl hE.2.2.2.2.2.1) (gx_fr rfl hE.2.2.2.2.2.1) (Nat.le_of_ble_eq_true rfl) dE2_init_13 (fun H locs hP hD hS => ?_)
  have hP : va_P (gD G) vwCl [(h0, .inr (13, [.ref h0, Z.2.2.1, .null, .null, .null, .int 0]))] H := hP
  have hD : va_D A [(h0, .inr (13, [.ref h0, Z.2.2.1, .null, .null, .null, .int 0]))] := hD
  refine lv_aload_n hx hb dE2_init_16 rfl (lv_at hl 0 rfl) ?_
  refine va_gets hx hb hE.2.2.1 hS hown (hts (.fieldLink RE2 20 "java/lang/Throwable" "SUPPRESSED_SENTINEL" "Ljava/util/List;") (List.mem_cons_of_mem _ (List.mem_append_left _ (List.mem_of_getElem? (i := 6) rfl)))) (fun _ h9 => h9) dE2_init_17 ?_
  refine va_put (D := gD G) (ci := 13) (v := Z.2.2.2.1) (ty := tyX12 2) (C := RX12) (T := TX12) (N := 6) hx hb hts (fun _ h9 => (List.mem_cons_of_mem _ (List.mem_append_right _ (List.mem_append_left _ h9)))) tyX12 tyX12_ok nmX12 hown hK hP hD hS 0 rfl rfl 2 (by decide) (hts (.fieldLink RE2 24 "java/lang/Throwable" "suppressedExceptions" "Ljava/util/List;") (List.mem_cons_of_mem _ (List.mem_append_left _ (List.mem_of_getElem? (i := 7) rfl)))) (fun _ h9 => h9) rfl (tyX12_ok 2 (by decide)) (gx_nr rfl hE.2.2.2.2.2.2) (gx_fr rfl hE.2.2.2.2.2.2) (Nat.le_of_ble_eq_true rfl) dE2_init_20 (fun H locs hP hD hS => ?_)
  have hP : va_P (gD G) vwCl [(h0, .inr (13, [.ref h0, Z.2.2.1, Z.2.2.2.1, .null, .null, .int 0]))] H := hP
  have hD : va_D A [(h0, .inr (13, [.ref h0, Z.2.2.1, Z.2.2.2.1, .null, .null, .int 0]))] := hD
  refine lv_iload hx hb dE2_init_23 (lv_at hl 4 rfl) ?_
  refine lv_if_eq (tgt := 36) hx hb dE2_init_25 (by decide) (fun _ => ?_) (fun c9 => absurd (by decide) c9)
  refine lv_aload_n hx hb dE2_init_36 rfl (lv_at hl 0 rfl) ?_
  refine lv_null hx hb dE2_init_37 ?_
  refine va_put (D := gD G) (ci := 13) (v := .null) (ty := tyX12 1) (C := RX12) (T := TX12) (N := 6) hx hb hts (fun _ h9 => (List.mem_cons_of_mem _ (List.mem_append_right _ (List.mem_append_left _ h9)))) tyX12 tyX12_ok nmX12 hown hK hP hD hS 0 rfl rfl 1 (by decide) (hts (.fieldLink RE2 17 "java/lang/Throwable" "stackTrace" "[Ljava/lang/StackTraceElement;") (List.mem_cons_of_mem _ (List.mem_append_left _ (List.mem_of_getElem? (i := 5) rfl)))) (fun _ h9 => h9) rfl (tyX12_ok 1 (by decide)) rfl rfl (Nat.le_of_ble_eq_true rfl) dE2_init_38 (fun H locs hP hD hS => ?_)
  have hP : va_P (gD G) vwCl [(h0, .inr (13, [.ref h0, .null, Z.2.2.2.1, .null, .null, .int 0]))] H := hP
  have hD : va_D A [(h0, .inr (13, [.ref h0, .null, Z.2.2.2.1, .null, .null, .int 0]))] := hD
  refine lv_aload_n hx hb dE2_init_41 rfl (lv_at hl 0 rfl) ?_
  refine lv_aload_nN hx hb dE2_init_42 rfl (lv_at hl 1 rfl) ?_
  refine va_put (D := gD G) (ci := 13) (v := .null) (ty := tyX12 3) (C := RX12) (T := TX12) (N := 6) hx hb hts (fun _ h9 => (List.mem_cons_of_mem _ (List.mem_append_right _ (List.mem_append_left _ h9)))) tyX12 tyX12_ok nmX12 hown hK hP hD hS 0 rfl rfl 3 (by decide) (hts (.fieldLink RE2 31 "java/lang/Throwable" "detailMessage" "Ljava/lang/String;") (List.mem_cons_of_mem _ (List.mem_append_left _ (List.mem_of_getElem? (i := 8) rfl)))) (fun _ h9 => h9) rfl (tyX12_ok 3 (by decide)) rfl rfl (Nat.le_of_ble_eq_true rfl) dE2_init_43 (fun H locs hP hD hS => ?_)
  have hP : va_P (gD G) vwCl [(h0, .inr (13, [.ref h0, .null, Z.2.2.2.1, .null, .null, .int 0]))] H := hP
  have hD : va_D A [(h0, .inr (13, [.ref h0, .null, Z.2.2.2.1, .null, .null, .int 0]))] := hD
  refine lv_aload_n hx hb dE2_init_46 rfl (lv_at hl 0 rfl) ?_
  refine lv_aload_nN hx hb dE2_init_47 rfl (lv_at hl 2 rfl) ?_
  refine va_put (D := gD G) (ci := 13) (v := .null) (ty := tyX12 0) (C := RX12) (T := TX12) (N := 6) hx hb hts (fun _ h9 => (List.mem_cons_of_mem _ (List.mem_append_right _ (List.mem_append_left _ h9)))) tyX12 tyX12_ok nmX12 hown hK hP hD hS 0 rfl rfl 0 (by decide) (hts (.fieldLink RE2 7 "java/lang/Throwable" "cause" "Ljava/lang/Throwable;") (List.mem_cons_of_mem _ (List.mem_append_left _ (List.mem_of_getElem? (i := 3) rfl)))) (fun _ h9 => h9) rfl (tyX12_ok 0 (by decide)) rfl rfl (Nat.le_of_ble_eq_true rfl) dE2_init_48 (fun H locs hP hD hS => ?_)
  have hP : va_P (gD G) vwCl [(h0, .inr (13, [.null, .null, Z.2.2.2.1, .null, .null, .int 0]))] H := hP
  have hD : va_D A [(h0, .inr (13, [.null, .null, Z.2.2.2.1, .null, .null, .int 0]))] := hD
  refine lv_iload_n hx hb dE2_init_51 rfl (lv_at hl 3 rfl) ?_
  refine lv_if_ne (tgt := 60) hx hb dE2_init_52 (by decide) (fun c9 => absurd (by decide) c9) (fun _ => ?_)
  refine lv_aload_n hx hb dE2_init_55 rfl (lv_at hl 0 rfl) ?_
  refine lv_null hx hb dE2_init_56 ?_
  refine va_put (D := gD G) (ci := 13) (v := .null) (ty := tyX12 2) (C := RX12) (T := TX12) (N := 6) hx hb hts (fun _ h9 => (List.mem_cons_of_mem _ (List.mem_append_right _ (List.mem_append_left _ h9)))) tyX12 tyX12_ok nmX12 hown hK hP hD hS 0 rfl rfl 2 (by decide) (hts (.fieldLink RE2 24 "java/lang/Throwable" "suppressedExceptions" "Ljava/util/List;") (List.mem_cons_of_mem _ (List.mem_append_left _ (List.mem_of_getElem? (i := 7) rfl)))) (fun _ h9 => h9) rfl (tyX12_ok 2 (by decide)) rfl rfl (Nat.le_of_ble_eq_true rfl) dE2_init_57 (fun H locs hP hD hS => ?_)
  have hP : va_P (gD G) vwCl [(h0, .inr (13, [.null, .null, .null, .null, .null, .int 0]))] H := hP
  have hD : va_D A [(h0, .inr (13, [.null, .null, .null, .null, .null, .int 0]))] := hD
  have hP9 := hP.sub (ws' := [(h0, .inr (13, [.null, .null, .null, .null, .null, .int 0]))]) [0] rfl
  have hD9 := hD.sub (ws' := [(h0, .inr (13, [.null, .null, .null, .null, .null, .int 0]))]) [0] (by decide) rfl
  exact W.vret hx hb hr (fun t ht hW => ⟨⟨(), rfl, trivial, by rw [ht]; exact hP9, hD9⟩, hS.F ht⟩) hS.2.2 dE2_init_60

def wo_c_Exception_init : List Cond := [.methodLink RE1 16 yE2_init, .instanceMethod yE2_init, .initialized RE2]
def wq_c_Exception_init : List Cond := .code yE1_init cE1_init 5 none :: (wo_c_Exception_init ++ (wq_c_Throwable_init ++ []))
theorem gd_c_Exception_init : ∀ w ∈ wq_c_Exception_init, Gd w := List.forall_mem_cons.mpr ⟨Or.inl rfl, List.forall_mem_append.mpr ⟨gdl wo_c_Exception_init (by decide +kernel), (List.forall_mem_append.mpr ⟨gd_c_Throwable_init, (fun _ h => absurd h List.not_mem_nil)⟩)⟩⟩
theorem in_c_Exception_init : ∀ w ∈ wq_c_Exception_init, w ∈ lw_tbl := List.forall_mem_cons.mpr ⟨List.mem_of_getElem? (i := 1595) (by decide +kernel), List.forall_mem_append.mpr ⟨inT2 wo_c_Exception_init [(7, 3), (7, 4), (1, 19)] (by decide +kernel), (List.forall_mem_append.mpr ⟨in_c_Throwable_init, (fun _ h => absurd h List.not_mem_nil)⟩)⟩⟩
set_option maxHeartbeats 4000000 in
set_option maxRecDepth 100000 in
theorem c_Exception_init (l : Launch) (G : gG) (Z : gS) (h0 : Nat) (sz : Nat) : Met l yE1_init wq_c_Exception_init ({ frames := 2, cells := 0, slots := 0, locals := 36 }) (va_Pc [.ref h0, .null, .null, .int 0, .int 0] (eP G Z [(h0, .inr (13, [.null, .null, .null, .null, .null, .int 0]))] sz)) (va_Qv (fun _ : Unit => True) (fun (_ : Unit) (t : State) => va_P (gD G) vwCl [(h0, .inr (13, [.null, .null, .null, .null, .null, .int 0]))] t.heap ∧ va_D (va_A [(h0, .inr (13, [.null, .null, .null, .null, .null, .int 0]))] sz) [(h0, .inr (13, [.null, .null, .null, .null, .null, .int 0]))]) (va_A [(h0, .inr (13, [.null, .null, .null, .null, .null, .int 0]))] sz)) 0 0 (va_A [(h0, .inr (13, [.null, .null, .null, .null, .null, .int 0]))] sz) := by
  refine Met.ofW (cc := cE1_init) (maxL := 5) (ret := none) (by decide) rfl ?_
  intro p e s m args below meth c s₁ B hml hv
  obtain ⟨rfl, ⟨hsz, hP, hB, hD0⟩, hE⟩ := hv
  have hx := B.exec
  have hb := B.bytes
  have hr := B.returns
  have hts := atoms_spec (ws := wq_c_Exception_init) B.pre
  have hown : s.vm.findClass RE1 = some m.cls := findClass_of_methodNamed B.named
  have hlocks := B.notSynchronized
  have hK := hB.1
  have hin : meth.name = "<init>" := (name_of_methodNamed B.named B.method).1
  subst hsz
  have hD := hD0.self (sz := s.heap.size)
  generalize hAe : va_A [(h0, .inr (13, [.null, .null, .null, .null, .null, .int 0]))] s.heap.size = A at hD hE ⊢
  have hA : ∀ q : Nat, s.heap.size ≤ q → A q := fun q h => by rw [← hAe]; exact Or.inr h
  have hS : va_S A s.heap s.heap [] := va_S.rf
  have hP : va_P (gD G) vwCl [(h0, .inr (13, [.null, .null, .null, .null, .null, .int 0]))] s.heap := hP
  have hD : va_D A [(h0, .inr (13, [.null, .null, .null, .null, .null, .int 0]))] := hD
  have hl := lv_entry ([.ref h0, .null, .null, .int 0, .int 0]) (n := 5) (Nat.le_of_ble_eq_true rfl)
  rw [lg_entry_eq]
  generalize (lg_sl ([.ref h0, .null, .null, .int 0, .int 0]) ++ List.replicate (5 - (lg_sl ([.ref h0, .null, .null, .int 0, .int 0])).length) Slot.unset).toArray = ls at hl ⊢
  have hl : lv_has ls 5 [(0, .ref h0), (1, .null), (2, .null), (3, .int 0), (4, .int 0)] := hl
  refine lv_aload_n hx hb dE1_init_0 rfl (lv_at hl 0 rfl) ?_
  refine lv_aload_nN hx hb dE1_init_1 rfl (lv_at hl 1 rfl) ?_
  refine lv_aload_nN hx hb dE1_init_2 rfl (lv_at hl 2 rfl) ?_
  refine lv_iload_n hx hb dE1_init_3 rfl (lv_at hl 3 rfl) ?_
  refine lv_iload hx hb dE1_init_4 (lv_at hl 4 rfl) ?_
  have hPc := hP.sub (ws' := [(h0, .inr (13, [.null, .null, .null, .null, .null, .int 0]))]) [0] rfl
  have hDc := hD.sub (ws' := [(h0, .inr (13, [.null, .null, .null, .null, .null, .int 0]))]) [0] (by decide) rfl
  have hFc := va_free (wc := [(h0, .inr (13, [.null, .null, .null, .null, .null, .int 0]))]) hD hS hA [0] rfl
  refine va_callv (va_runI (As := [.null, .null, .int 0, .int 0]) (rest := []) ⟨hx, hb, hml, hown, hts⟩ (c_Throwable_init l G Z h0 s.heap.size) (cwI 4 hts (fun w9 h9 => ⟨(List.mem_cons_of_mem _ (List.mem_append_right _ (List.mem_append_left _ h9))), gd_c_Throwable_init w9 h9⟩) rfl rfl rfl (hts (.initialized RE2) (List.mem_cons_of_mem _ (List.mem_append_left _ (List.mem_of_getElem? (i := 2) rfl)))) (hts (.methodLink RE1 16 yE2_init) (List.mem_cons_of_mem _ (List.mem_append_left _ (List.mem_of_getElem? (i := 0) rfl)))) (hts (.instanceMethod yE2_init) (List.mem_cons_of_mem _ (List.mem_append_left _ (List.mem_of_getElem? (i := 1) rfl)))) rfl kSE2_init ⟨Nat.le_of_ble_eq_true rfl, Nat.le_of_ble_eq_true rfl⟩) (preS_e (As := [.ref h0, .null, .null, .int 0, .int 0]) hPc hB hDc ((hE.kept hS.2.1).narrow hFc)) rfl rfl hl.1 rfl (lv_room (Nat.le_of_ble_eq_true rfl)) dE1_init_6 ⟨Nat.le_of_ble_eq_true rfl, Nat.le_of_ble_eq_true rfl⟩) hS (fun q _ h => hFc q h) hFc (fun u t H1 locs ht hvm hw hB1 hz1 hk1 hS => ?_)
  obtain ⟨hP1, hD1⟩ := hB1
  rw [ht] at hP1
  obtain ⟨hP, hD⟩ := va_join (wr := []) (w1 := [(h0, .inr (13, [.null, .null, .null, .null, .null, .int 0]))]) hP hD [0] [] rfl rfl (by decide) (by decide) hk1 hFc hP1 hD1
  generalize H1 = H at hP hS ⊢
  have hP : va_P (gD G) vwCl [(h0, .inr (13, [.null, .null, .null, .null, .null, .int 0]))] H := hP
  have hD : va_D A [(h0, .inr (13, [.null, .null, .null, .null, .null, .int 0]))] := hD
  refine W.eq (g2 := F0 m 9 ls []) rfl ?_
  have hP9 := hP.sub (ws' := [(h0, .inr (13, [.null, .null, .null, .null, .null, .int 0]))]) [0] rfl
  have hD9 := hD.sub (ws' := [(h0, .inr (13, [.null, .null, .null, .null, .null, .int 0]))]) [0] (by decide) rfl
  exact W.vret hx hb hr (fun t ht hW => ⟨⟨(), rfl, trivial, by rw [ht]; exact hP9, hD9⟩, hS.F ht⟩) hS.2.2 dE1_init_9

def wo_c_Stop_init : List Cond := [.methodLink RX12 1 yE1_init, .instanceMethod yE1_init, .initialized RE1]
def wq_c_Stop_init : List Cond := .code yX12_init cX12_init 1 none :: (wo_c_Stop_init ++ (wq_c_Exception_init ++ []))
theorem gd_c_Stop_init : ∀ w ∈ wq_c_Stop_init, Gd w := List.forall_mem_cons.mpr ⟨Or.inl rfl, List.forall_mem_append.mpr ⟨gdl wo_c_Stop_init (by decide +kernel), (List.forall_mem_append.mpr ⟨gd_c_Exception_init, (fun _ h => absurd h List.not_mem_nil)⟩)⟩⟩
theorem in_c_Stop_init : ∀ w ∈ wq_c_Stop_init, w ∈ lw_tbl := List.forall_mem_cons.mpr ⟨List.mem_of_getElem? (i := 1592) (by decide +kernel), List.forall_mem_append.mpr ⟨inT2 wo_c_Stop_init [(7, 0), (7, 1), (1, 20)] (by decide +kernel), (List.forall_mem_append.mpr ⟨in_c_Exception_init, (fun _ h => absurd h List.not_mem_nil)⟩)⟩⟩
set_option maxHeartbeats 4000000 in
set_option maxRecDepth 100000 in
theorem c_Stop_init (l : Launch) (G : gG) (Z : gS) (h0 : Nat) (sz : Nat) : Met l yX12_init wq_c_Stop_init ({ frames := 3, cells := 0, slots := 0, locals := 60 }) (va_Pc [.ref h0] (eP G Z [(h0, .inr (13, [.null, .null, .null, .null, .null, .int 0]))] sz)) (va_Qv (fun _ : Unit => True) (fun (_ : Unit) (t : State) => va_P (gD G) vwCl [(h0, .inr (13, [.null, .null, .null, .null, .null, .int 0]))] t.heap ∧ va_D (va_A [(h0, .inr (13, [.null, .null, .null, .null, .null, .int 0]))] sz) [(h0, .inr (13, [.null, .null, .null, .null, .null, .int 0]))]) (va_A [(h0, .inr (13, [.null, .null, .null, .null, .null, .int 0]))] sz)) 0 0 (va_A [(h0, .inr (13, [.null, .null, .null, .null, .null, .int 0]))] sz) := by
  refine Met.ofW (cc := cX12_init) (maxL := 1) (ret := none) (by decide) rfl ?_
  intro p e s m args below meth c s₁ B hml hv
  obtain ⟨rfl, ⟨hsz, hP, hB, hD0⟩, hE⟩ := hv
  have hx := B.exec
  have hb := B.bytes
  have hr := B.returns
  have hts := atoms_spec (ws := wq_c_Stop_init) B.pre
  have hown : s.vm.findClass RX12 = some m.cls := findClass_of_methodNamed B.named
  have hlocks := B.notSynchronized
  have hK := hB.1
  have hin : meth.name = "<init>" := (name_of_methodNamed B.named B.method).1
  subst hsz
  have hD := hD0.self (sz := s.heap.size)
  generalize hAe : va_A [(h0, .inr (13, [.null, .null, .null, .null, .null, .int 0]))] s.heap.size = A at hD hE ⊢
  have hA : ∀ q : Nat, s.heap.size ≤ q → A q := fun q h => by rw [← hAe]; exact Or.inr h
  have hS : va_S A s.heap s.heap [] := va_S.rf
  have hP : va_P (gD G) vwCl [(h0, .inr (13, [.null, .null, .null, .null, .null, .int 0]))] s.heap := hP
  have hD : va_D A [(h0, .inr (13, [.null, .null, .null, .null, .null, .int 0]))] := hD
  have hl := lv_entry ([.ref h0]) (n := 1) (Nat.le_of_ble_eq_true rfl)
  rw [lg_entry_eq]
  generalize (lg_sl ([.ref h0]) ++ List.replicate (1 - (lg_sl ([.ref h0])).length) Slot.unset).toArray = ls at hl ⊢
  have hl : lv_has ls 1 [(0, .ref h0)] := hl
  refine lv_aload_n hx hb dX12_init_0 rfl (lv_at hl 0 rfl) ?_
  refine lv_null hx hb dX12_init_1 ?_
  refine lv_null hx hb dX12_init_2 ?_
  refine lv_iconst (v := 0) hx hb dX12_init_3 (by decide) ?_
  refine lv_iconst (v := 0) hx hb dX12_init_4 (by decide) ?_
  have hPc := hP.sub (ws' := [(h0, .inr (13, [.null, .null, .null, .null, .null, .int 0]))]) [0] rfl
  have hDc := hD.sub (ws' := [(h0, .inr (13, [.null, .null, .null, .null, .null, .int 0]))]) [0] (by decide) rfl
  have hFc := va_free (wc := [(h0, .inr (13, [.null, .null, .null, .null, .null, .int 0]))]) hD hS hA [0] rfl
  refine va_callv (va_runI (As := [.null, .null, .int 0, .int 0]) (rest := []) ⟨hx, hb, hml, hown, hts⟩ (c_Exception_init l G Z h0 s.heap.size) (cwI 4 hts (fun w9 h9 => ⟨(List.mem_cons_of_mem _ (List.mem_append_right _ (List.mem_append_left _ h9))), gd_c_Exception_init w9 h9⟩) rfl rfl rfl (hts (.initialized RE1) (List.mem_cons_of_mem _ (List.mem_append_left _ (List.mem_of_getElem? (i := 2) rfl)))) (hts (.methodLink RX12 1 yE1_init) (List.mem_cons_of_mem _ (List.mem_append_left _ (List.mem_of_getElem? (i := 0) rfl)))) (hts (.instanceMethod yE1_init) (List.mem_cons_of_mem _ (List.mem_append_left _ (List.mem_of_getElem? (i := 1) rfl)))) rfl kSE1_init ⟨Nat.le_of_ble_eq_true rfl, Nat.le_of_ble_eq_true rfl⟩) (preS_e (As := [.ref h0, .null, .null, .int 0, .int 0]) hPc hB hDc ((hE.kept hS.2.1).narrow hFc)) rfl rfl hl.1 rfl (lv_room (Nat.le_of_ble_eq_true rfl)) dX12_init_5 ⟨Nat.le_of_ble_eq_true rfl, Nat.le_of_ble_eq_true rfl⟩) hS (fun q _ h => hFc q h) hFc (fun u t H1 locs ht hvm hw hB1 hz1 hk1 hS => ?_)
  obtain ⟨hP1, hD1⟩ := hB1
  rw [ht] at hP1
  obtain ⟨hP, hD⟩ := va_join (wr := []) (w1 := [(h0, .inr (13, [.null, .null, .null, .null, .null, .int 0]))]) hP hD [0] [] rfl rfl (by decide) (by decide) hk1 hFc hP1 hD1
  generalize H1 = H at hP hS ⊢
  have hP : va_P (gD G) vwCl [(h0, .inr (13, [.null, .null, .null, .null, .null, .int 0]))] H := hP
  have hD : va_D A [(h0, .inr (13, [.null, .null, .null, .null, .null, .int 0]))] := hD
  refine W.eq (g2 := F0 m 8 ls []) rfl ?_
  have hP9 := hP.sub (ws' := [(h0, .inr (13, [.null, .null, .null, .null, .null, .int 0]))]) [0] rfl
  have hD9 := hD.sub (ws' := [(h0, .inr (13, [.null, .null, .null, .null, .null, .int 0]))]) [0] (by decide) rfl
  exact W.vret hx hb hr (fun t ht hW => ⟨⟨(), rfl, trivial, by rw [ht]; exact hP9, hD9⟩, hS.F ht⟩) hS.2.2 dX12_init_8
end
section
/-! ===== own rows: a method that throws, a call of such a one, a handler whose class may not have been looked up yet ===== -/
section TH
variable {p : Program} {l : Launch} {e : Env} {R : Room} {s : State} {m : MethodId} {args : Array Value} {below : List Frame} {meth : Method} {c : Code} {H : Heap} {locs : List Loc} {cells slots : Nat} {Q : State → Prop}
def th_E (st t : State) (L : List Loc) (k n : Nat) : Prop := st.WarmedH t.vm ∧ st.sameButNew ({ t with vm := st.vm } : State) L k n
def MetT (l : Launch) (y : MethodName) (ws : List Cond) (rm : Room) (Pc : Array Value → State → Prop) (Qc : Array Value → State → Addr → State → Prop) (mc ms : Nat) (free : Addr → Prop) : Prop :=
  MetFree l y (headSpec ws rm) Pc (fun _ _ _ _ _ => True) (fun a st o t => ∃ x, o = .threw x ∧ Qc a st x t ∧ ∃ L, th_E st t L mc ms ∧ ∀ q ∈ L, free q.base)
def MQT (below : List Frame) (Qc : Array Value → State → Addr → State → Prop) (a : Array Value) (s : State) (mc ms : Nat) (free : Addr → Prop) : State → Prop := fun t =>
  ∃ x, t.status = .running ∧ Ended t below (.threw x) ∧ Qc a s x t ∧ ∃ L, th_E s t L mc ms ∧ ∀ q ∈ L, free q.base
theorem MetT.ofW {y : MethodName} {ws ws' : List Cond} {rm : Room} {Pc : Array Value → State → Prop} {Qc : Array Value → State → Addr → State → Prop} {mc ms : Nat} {free : Addr → Prop} {cc : ByteArray} {maxL : Nat} {ret : Option FieldType}
    (hy : plainName y.cls = true) (hw : ws = Cond.code y cc maxL ret :: ws')
    (body : ∀ p e s m args below meth c s₁, BodyLoose p l y (headSpec ws rm) cc maxL ret e s m args below meth c s₁ → c.maxLocals = maxL → Pc args s →
      W p l e (headSpec ws rm).room s m args below meth c s.heap [] 0 0 (MQT below Qc args s mc ms free) (entryFrame m args maxL)) : MetT l y ws rm Pc Qc mc ms free := by
  refine MetFree.of_bodyS (code := cc) (maxLocals := maxL) (ret := ret) hy ?_ ?_
  · intro args s m h hn
    obtain ⟨meth, c, h1, h2, h3, h4, h5, h6, -, -⟩ := Cond.code_spec hn (atoms_spec (ws := ws) h _ (by rw [hw]; exact List.mem_cons_self))
    exact ⟨meth, c, h1, h2, h3, h4, h5, h6⟩
  · intro p e s m args below meth c s₁ B hml hP _
    have hh0 : s₁.heap = s.heap := by rw [B.state]; rfl
    obtain ⟨t, a1, x, b1, b2, b3⟩ := body p e s m args below meth c s₁ B hml hP s₁ hh0 (Stand.of_body B)
    exact ⟨t, .threw x, a1, b1, b2, x, rfl, b3⟩
theorem th_out {c : Code} (h : c.exceptionTable.isEmpty = true) (pc : Nat) : ∀ x ∈ c.exceptionTable.toList, covers x pc = false := by
  have h0 : c.exceptionTable.size = 0 := by simpa [Array.isEmpty] using h
  have h1 : c.exceptionTable.toList = [] := List.eq_nil_of_length_eq_zero (by simpa using h0)
  intro x hx
  rw [h1] at hx
  cases hx
/-- athrow, where the method has no handlers -/
theorem th_throw {cc : ByteArray} {Qc : Array Value → State → Addr → State → Prop} {free : Addr → Prop} (hexec : p.tables.exec = Jvm.exec) (hb : c.code = cc) (hno : c.exceptionTable.isEmpty = true) {a : Addr} {rest : List Value}
    (hq : ∀ t : State, t.heap = H → s.WarmedH t.vm → Qc args s a t) (hf : ∀ q ∈ locs, free q.base) {pc : Nat} {ls : Array Slot} (hdg : decode cc pc = .ok (.athrow, 1)) (hlocks : meth.locks = false) :
    W p l e R s m args below meth c H locs cells slots (MQT below Qc args s cells slots free) (F0 m pc ls (.ref a :: rest)) := by
  intro T hT X
  obtain ⟨h1, h2, h3, h4, h5⟩ := X.athrowLeaves hexec (g := F0 m pc ls (.ref a :: rest)) rfl rfl rfl (th_out hno _) (a := a) (rest := rest) rfl (by rw [hb]; exact hdg) hlocks
  exact ⟨_, h1, a, h2, h3, hq _ hT h4, locs, ⟨h4, h5⟩, hf⟩
/-- a call of a throwing method, behind its linkage -/
theorem th_core {T : State} (X : Stand p l e R s m args below meth c T locs cells slots) {g : JFrame} (hg : g.method = m) (hsize : g.locals.size = c.maxLocals) {ig : Instr} {len : Nat} (hdg : decode c.code g.pc = .ok (ig, len))
    {y : MethodName} {mk : MethodId} {a : Array Value} {ws : List Cond} {rm : Room} {Pc : Array Value → State → Prop} {Qc : Array Value → State → Addr → State → Prop} {mc ms : Nat} {free : Addr → Prop} {bytes : ByteArray} {maxL : Nat} {ret : Option FieldType}
    (hM : MetT l y ws rm Pc Qc mc ms free) (hn : T.methodNamed? y = some mk) (hW : 2 * g.monitorRoom + (g.stack.map fun v => v.category).sum ≤ 8)
    (hfr : rm.frames + 1 ≤ R.frames) (hlo : 8 + (maxL + 11) + rm.locals ≤ R.locals) (hrc : rm.cells = mc) (hrs : rm.slots = ms) (hfit : cells + mc ≤ R.cells ∧ slots + ms ≤ R.slots)
    (hws : ∀ w ∈ ws, w.before a T = true) (hcode : (Cond.code y bytes maxL ret).before a T = true) (hini : (Cond.initialized y.cls).before a T = true) (hP : Pc a (T.calling g mk a)) :
    ∃ (x : Addr) (t T' : State) (L : List Loc), Stand p l e R s m args below meth c T' (locs ++ L) (cells + mc) (slots + ms) ∧ (∀ q ∈ L, free q.base) ∧ Qc a (T.calling g mk a) x t ∧ T'.heap = t.heap ∧ T'.vm = t.vm ∧
      Steps p.tables e below (doInvoke e (T.setTop g) [] mk a).1 ((T'.setTop g).pushFrame (.throwing x)) := by
  obtain ⟨methY, cY, hmY, hcY, -, hlY, -, -, -, -⟩ := Cond.code_spec hn hcode
  obtain ⟨kY, hkY, -⟩ := className_of_methodNamed hn
  have hinitY : kY.init = .initialized := Cond.initialized_spec (findClass_of_methodNamed hn) hkY hini
  have h : At T g.method c below := by rw [hg]; exact X.here
  have happ : (headSpec ws rm).appliesLoose y e.platform (T.calling g mk a) = true :=
    Spec.appliesLoose_calling (g := g) h hdg hn hkY hinitY
      (X.room_calling (g := g) (R' := (headSpec ws rm).room) hsize hmY hcY hfr (by rw [hlY]; show _ + (maxL + 11) + rm.locals ≤ _; omega) (by rw [show (headSpec ws rm).room.cells = mc from hrc]; exact hfit.1) (by rw [show (headSpec ws rm).room.slots = ms from hrs]; exact hfit.2)) (atoms_intro hws)
  obtain ⟨mid, hmid⟩ := h.above
  have hfr' : (T.setTop g).frames = (.java g :: mid) ++ below := by rw [State.frames_setTop' g h.top, hmid]; rfl
  obtain ⟨o, s₂, hsteps, -, hend, hq0⟩ := Steps.callFree hM p X.admits X.cas X.clock (acts := []) hfr' happ hP trivial
  obtain ⟨x, rfl, hq, L, ⟨hW2, hsm⟩, hL⟩ := hq0
  rw [State.frames_setTop' g h.top, X.tail] at hend
  obtain ⟨T', X', -, -, ht⟩ := X.outOfThrown (g := g) hg (mk := mk) (a := a) (t := s₂) (x := x) hend hW2 hsm
  refine ⟨x, s₂, T', L, X', hL, hq, ?_, ?_, by rw [← ht]; exact hsteps⟩
  · rw [ht]; exact (Stand.throwing_heap T' g x).symm
  · rw [ht]; exact (Stand.throwing_vm T' g x).symm
/-- what a virtual call of a throwing method gives -/
def th_Run (p : Program) (l : Launch) (e : Env) (R : Room) (s : State) (m : MethodId) (args : Array Value) (below : List Frame) (meth : Method) (c : Code) (H : Heap) (locs : List Loc) (cells slots mc ms : Nat) (g : JFrame) (rest : List Value) (Qa : State → Addr → State → Prop) (free : Addr → Prop) : Prop :=
  ∀ T : State, T.heap = H → Stand p l e R s m args below meth c T locs cells slots → ∃ (x : Addr) (st₀ t T' : State) (L : List Loc), st₀.heap = H ∧ Stand p l e R s m args below meth c T' (locs ++ L) (cells + mc) (slots + ms) ∧ (∀ q ∈ L, free q.base) ∧ T'.heap = t.heap ∧ T'.vm = t.vm ∧ Qa st₀ x t ∧
    ∀ target, Steps p.tables e below ((T'.setTop { g with stack := rest }).pushFrame (.throwing x)) target → Steps p.tables e below (T.setTop g) target
theorem th_runV {y : MethodName} {bytes cc : ByteArray} {maxL nL mc ms n index : Nat} {ret : Option FieldType} {ws : List Cond} {rm : Room} {Pc : Array Value → State → Prop} {Qc : Array Value → State → Addr → State → Prop} {free : Addr → Prop} {Ts : List Cond} {own C : String} {b : Addr} {As rest : List Value} {g : JFrame}
    (S : CallFix p m c cc nL s args Ts own) (hM : MetT l y ws rm Pc Qc mc ms free) (cw : CallW R s args own C index y bytes maxL ret ws rm mc ms n) (hp : PreV s H C b Pc As)
    (hg : g.method = m) (hn : As.length = n) (hsize : g.locals.size = nL) (hstack : g.stack = As.reverse ++ .ref b :: rest) (hW : 2 * g.monitorRoom + (rest.map fun v => v.category).sum ≤ 8) (hdg : decode cc g.pc = .ok (.invokevirtual index, 3)) (hf : cells + mc ≤ R.cells ∧ slots + ms ≤ R.slots) :
    th_Run p l e R s m args below meth c H locs cells slots mc ms g rest (Qc (Value.ref b :: As).toArray) free := by
  obtain ⟨⟨hrc, hrs, hfr, hlo, hws, hcw, hcode, hini, hy, hlen, hl⟩, hin, hse⟩ := cw
  obtain ⟨hx, hb, hml, ho, -⟩ := S
  obtain ⟨hbl, ⟨cellB, hcB, hoB, hclB⟩, hPc⟩ := hp
  intro T hT X
  obtain ⟨mk, methM, hnamed, hmethM, hstM, habM⟩ := Cond.instanceMethod_spec hin
  obtain ⟨methM', cM, hmethM', -, -, -, -, -, -, hsigM⟩ := Cond.code_spec hnamed hcode
  cases hmethM.symm.trans hmethM'
  obtain ⟨c2, r2, m2, q1, q2, q3, q4, kP, hkP, hkPi⟩ := Cond.selects_spec hse
  cases hclB.symm.trans q1
  cases (State.methodFound?_of_named hnamed hy).symm.trans q2
  cases hnamed.symm.trans q3
  have hselP : selectMethod e.platform s.vm cellB.cls mk = .method mk := by rw [Launch.admits_selectMethod X.admits]; exact q4
  obtain ⟨vm₁, X₁, hstep₁⟩ := X.invokevirtual hx ho hl hnamed hmethM hstM hkP hkPi hy (a := b) (cell := cellB) (by rw [hT]; exact hcB)
    (fun z h => by rw [h] at hoB; cases hoB) hselP hmethM habM hkP hkPi (g := g) hg (argsL := As) (rest := rest) (hn.trans (hlen _ hsigM)) hstack (by rw [hb]; exact hdg)
  have hWv : s.WarmedH (T.setVm vm₁).vm := X₁.warmed
  obtain ⟨x, t, T', L, X', hL, hq, e1, e2, hst⟩ := th_core X₁ (g := { g with stack := rest }) hg (hsize.trans hml.symm) (ig := .invokevirtual index) (len := 3) (by rw [hb]; exact hdg) (y := y) (mk := mk) (a := (Value.ref b :: As).toArray) (bytes := bytes) (maxL := maxL) (ret := ret) hM (X₁.named hnamed) hW hfr hlo hrc hrs hf
    (fun w hw => hws w hw _ _ hWv) (hws _ hcw _ _ hWv) (word_at hWv (Or.inl (by first | rfl | simp [Cond.onTables, Cond.keeps, Cond.steady])) hini) (hbl _ _ _ _ (hPc (T.setVm vm₁) hT hWv))
  exact ⟨x, (T.setVm vm₁).calling { g with stack := rest } mk (Value.ref b :: As).toArray, t, T', L, hT, X', hL, e1, e2, hq, fun target h => hstep₁ _ fun acts => by rw [doInvoke_state]; exact hst.trans h⟩
/-- ... and it goes on out of a method that has no handlers -/
theorem th_pass {pc : Nat} {ls : Array Slot} {st0 rest : List Value} {mc ms : Nat} {Qa : State → Addr → State → Prop} {free free2 : Addr → Prop} {Qc : Array Value → State → Addr → State → Prop} (hr : th_Run p l e R s m args below meth c H locs cells slots mc ms (F0 m pc ls st0) rest Qa free)
    (hno : c.exceptionTable.isEmpty = true) (hlocks : meth.locks = false) (hq : ∀ (x : Addr) (st₀ t t2 : State), st₀.heap = H → Qa st₀ x t → t2.heap = t.heap → s.WarmedH t2.vm → Qc args s x t2) (hf : ∀ q ∈ locs, free2 q.base) (hfr : ∀ q, free q → free2 q) :
    W p l e R s m args below meth c H locs cells slots (MQT below Qc args s (cells + mc) (slots + ms) free2) (F0 m pc ls st0) := by
  intro T hT X
  obtain ⟨x, st₀, t, T', L, h0, X', hL, e1, e2, hqa, st⟩ := hr T hT X
  obtain ⟨h1, h2, h3, h4, h5⟩ := X'.leaveThrown x (g := { F0 m pc ls st0 with stack := rest }) rfl rfl rfl (th_out hno _) hlocks
  exact ⟨_, st _ h1, x, h2, h3, hq x st₀ t _ h0 hqa e1 h4, locs ++ L, ⟨h4, h5⟩, fun q hq => by
    rcases List.mem_append.mp hq with h | h
    · exact hf q h
    · exact hfr _ (hL q h)⟩
theorem th_find {s : State} {f : JFrame} {a : Addr} {meth : Method} {code : Code} (hm : s.vm.method? f.method = some meth) (hc : meth.code = some code) {x : ExceptionTableEntry} (htab : code.exceptionTable.toList = [x]) (hx : covers x f.pc = true) (h0 : x.catchType ≠ 0)
    {k : ClassId} {vm' : Vm} (hg : (resolveClass f.method.cls x.catchType).Gives e.toSetting s.vm (.ok k) vm') {cell : Cell} (hcell : s.heap[a]? = some cell) (hobj : ∀ z, cell.vm ≠ .statics z)
    (hk : ∃ z, vm'.classes[cell.cls]? = some z) (hck : ∃ z, vm'.classes[k]? = some z) (hfit : vm'.assignable cell.cls k = true) (hsz : vm'.classes.size ≤ s.vm.classes.size) (Q : Handler → Pre) (E : CtlPost) (d : Bool) (acts : List Action) :
    wp (findHandler f a) Q E e d acts s ↔ Q (.found x.handlerPc) d acts (s.setVm vm') := by
  rw [Jvm.W.findHandler_eq hm hc, htab]
  simp only [covers] at hx
  have hop : (VmOp.resolveClass f.method.cls x.catchType).answer e s.vm = .ok k ∧ (VmOp.resolveClass f.method.cls x.catchType).tables e s.vm = vm' := hg.op rfl
  have hld : (VmOp.resolveClass f.method.cls x.catchType).lands e s = .done (s.setVm vm') := VmOp.lands_eq hop.2 hsz
  simp [findHandler.go, hx, h0, hop.1, hld, VmOp.dirties, VmOp.acts]
  constructor
  · rintro ⟨c9, h1, -, -, -, h5⟩
    cases hcell.symm.trans h1
    exact Eq.mp (if_pos (c := (s.setVm vm').vm.assignable cell.cls k = true) hfit) h5
  · intro h9
    exact ⟨cell, hcell, hobj, hk, hck, Eq.mpr (if_pos (c := (s.setVm vm').vm.assignable cell.cls k = true) hfit) h9⟩
theorem th_catchstep {s : State} {a : Addr} {f : JFrame} {r : List Frame} {pc : Nat} {vm' : Vm} (hfind : ∀ (Q : Handler → Pre) (E : CtlPost) (d : Bool) (acts : List Action), wp (findHandler f a) Q E e d acts s ↔ Q (.found pc) d acts (s.setVm vm')) :
    (stepThrowing e s a (.java f :: r)).Is ((s.setVm vm').setFrames (.java { f with pc := pc, stack := [.ref a] } :: r)) [] := by
  simp only [stepThrowing, searchFrame, vmDo]
  generalize hr : Sem.go _ e false [] s = res
  obtain ⟨as, rfl, ha⟩ := Sem.eq_ok_of hr (a := Handler.found pc) (s' := s.setVm vm') (acts' := []) (by simp [hfind _ _ _ _])
  exact ⟨rfl, ha⟩
theorem th_caught {tb : Tables} {s target : State} {g : JFrame} {c : Code} {a : Addr} (h : At s g.method c below) {pc : Nat} {vm' : Vm} (hfind : ∀ (Q : Handler → Pre) (E : CtlPost) (d : Bool) (acts : List Action), wp (findHandler g a) Q E e d acts ((s.setTop g).pushFrame (.throwing a)) ↔ Q (.found pc) d acts (((s.setTop g).pushFrame (.throwing a)).setVm vm'))
    (hrest : Steps tb e below ((s.setVm vm').setTop { g with pc := pc, stack := [.ref a] }) target) : Steps tb e below ((s.setTop g).pushFrame (.throwing a)) target := by
  obtain ⟨hgo, hw⟩ := h.throwing a
  refine Steps.head hgo hw ?_
  rw [stepThread_throwing (frames_entered h.top _), (th_catchstep (s := (s.setTop g).pushFrame (.throwing a)) hfind).1]
  obtain ⟨g₀, hg⟩ := Option.isSome_iff_exists.mp h.top
  obtain ⟨r, hr⟩ := State.topJava?_eq_some.mp hg
  have hr' : (s.setVm vm').frames = .java g₀ :: r := hr
  have e1 : ((s.setTop g).pushFrame (.throwing a)).setVm vm' = ((s.setVm vm').setTop g).pushFrame (.throwing a) := by
    rw [State.setTop_of_frames _ hr, State.setTop_of_frames _ hr']
    rfl
  rw [e1, State.pushFrame, State.setFrames_setFrames, State.setTop_of_frames _ hr', State.setFrames_setFrames]
  rw [State.setTop_of_frames _ hr'] at hrest
  rw [hr]
  exact hrest
/-- a call of a throwing method, caught by the one handler of the caller's table -/
theorem th_catch {pc : Nat} {ls : Array Slot} {st0 rest : List Value} {mc ms : Nat} {Qa : State → Addr → State → Prop} {free : Addr → Prop} {args : Array Value} {A0 : Nat → Prop} {H0 : Heap} (hr : th_Run p l e R s m args below meth c H locs cells slots mc ms (F0 m pc ls st0) rest Qa free)
    {x : ExceptionTableEntry} (htab : c.exceptionTable.toList = [x]) (hx : covers x pc = true) (h0 : x.catchType ≠ 0) {own C : String} (hown : s.vm.findClass own = some m.cls) (hlink : (Cond.classLink own x.catchType C).before args s = true) (hcast : (Cond.castable C C).before args s = true) {hpc : Nat} (hh : x.handlerPc = hpc)
    (hS : va_S A0 H0 H locs) (hf : ∀ q, free q → A0 q) (hobj : ∀ (st₀ t : State) (a : Addr), st₀.heap = H → s.vm.Alike t.vm → Qa st₀ a t → H.size ≤ t.heap.size ∧ (∀ q : Nat, q < H.size → ¬ A0 q → t.heap[q]? = H[q]?) ∧ ∃ cell : Cell, t.heap[a]? = some cell ∧ cell.vm.isStatics = false ∧ s.vm.findClass C = some cell.cls)
    (kk : ∀ (st₀ t : State) (a : Addr) (H1 : Heap) (locs1 : List Loc), st₀.heap = H → t.heap = H1 → Qa st₀ a t → va_S A0 H0 H1 locs1 → W p l e R s m args below meth c H1 locs1 (cells + mc) (slots + ms) Q (F0 m hpc ls [.ref a])) :
    W p l e R s m args below meth c H locs cells slots Q (F0 m pc ls st0) := by
  intro T hT X
  obtain ⟨a, st₀, t, T', L, hst, X', hL, e1, e2, hqa, st⟩ := hr T hT X
  have hal : s.vm.Alike t.vm := by rw [← e2]; exact X'.warmed.alike
  obtain ⟨hz, hkeep, cell, hcell, hnst, hcls⟩ := hobj st₀ t a hst hal hqa
  have hpl : e.platform.magicAccessors = ({} : Platform).magicAccessors := by rw [X.admits.platform]
  obtain ⟨k, hfk, hlk⟩ := Cond.classLink_spec hown hlink e.platform hpl
  obtain ⟨c1, t1, q1, q2, q3⟩ := Cond.castable_spec hcast
  cases hfk.symm.trans hcls
  cases hcls.symm.trans q1
  cases hcls.symm.trans q2
  obtain ⟨dk, cf, name, ck, hd, hcf, hld, hname, hfind0, hck, hacc, hres⟩ := hlk.here
  have hW' : s.WarmedH (T'.vm.noted m.cls x.catchType (.cls cell.cls)) := X'.warmed.noted hd hres (State.rightAt_cls hlk)
  have hal' := hW'.alike
  obtain ⟨ck', hck', -⟩ := hal'.2.2 _ _ hck
  have hfit : (T'.vm.noted m.cls x.catchType (.cls cell.cls)).assignable cell.cls cell.cls = true := by rw [hal'.assignable]; exact q3
  obtain ⟨t2, a1, b1⟩ := kk st₀ t a T'.heap (locs ++ L) hst e1.symm hqa ⟨Nat.le_trans hS.1 (by rw [e1]; exact hz), fun q h1 h2 => by rw [e1, hkeep q (Nat.lt_of_lt_of_le h1 hS.1) h2]; exact hS.2.1 q h1 h2, fun q hq => by
      rcases List.mem_append.mp hq with h | h
      · exact hS.2.2 q h
      · exact hf _ (hL q h)⟩ (T'.setVm (T'.vm.noted m.cls x.catchType (.cls cell.cls))) rfl (X'.noted hW')
  refine ⟨t2, st t2 ?_, b1⟩
  have hAt : At T' (F0 m pc ls rest).method c below := X'.here
  refine th_caught (pc := hpc) (vm' := T'.vm.noted m.cls x.catchType (.cls cell.cls)) hAt ?_ a1
  intro Q2 E2 d2 acts2
  subst hh
  refine th_find (meth := meth) (code := c) (x := x) ?_ X'.code htab hx h0 (k := cell.cls) ?_ (cell := cell) ?_ (fun z hz2 => by rw [hz2] at hnst; cases hnst) ⟨ck', hck'⟩ ⟨ck', hck'⟩ hfit (by rw [Stand.throwing_vm]; simp [Vm.noted]) Q2 E2 d2 acts2
  · rw [Stand.throwing_vm]; exact X'.method'
  · rw [Stand.throwing_vm]; exact resolveClass_links e.toSetting (X'.warmed.classLinks hlk)
  · rw [Stand.throwing_heap, e1]; exact hcell
theorem th_ldcw {cc : ByteArray} {pc : Nat} {ls : Array Slot} {rest : List Value} (hexec : p.tables.exec = Jvm.exec) (hb : c.code = cc) {own tx : String} {index q : Nat} (hown : s.vm.findClass own = some m.cls) (hZ : vk_R own index tx q s) (hdg : decode cc pc = .ok (.ldc_w index, 3))
    (k : W p l e R s m args below meth c H locs cells slots Q (F0 m (pc + 3) ls (.ref q :: rest))) : W p l e R s m args below meth c H locs cells slots Q (F0 m pc ls rest) := by
  intro T hT X
  obtain ⟨t, a1, b1⟩ := k T hT X
  obtain ⟨kc, cf, i, a', hk, hcf, hcp, -, hr, hev'⟩ := Cond.stringRef_spec hown hZ.1
  cases hZ.2.symm.trans hev'
  obtain ⟨k', hk', he⟩ := X.warmed.alike.2.2 _ _ hk
  have hr' : k'.resolved[index]? = some (some (.string q)) := by
    rcases X.warmed.entry hk hk' index with h | ⟨h, -⟩
    · rw [h]; exact hr
    · rw [hr] at h; cases h
  refine ⟨t, ?_, b1⟩
  have hdg' : decode c.code (F0 m pc ls rest).pc = .ok (.ldc_w index, 3) := by rw [hb]; exact hdg
  jvm_step X.here [hexec, hdg', ldc_w.wp_string (e := e) (s := T) (f := F0 m pc ls rest) X.here.top hk' (by rw [he]; exact hcf) hcp hr']
  exact a1
end TH
end
section
def cxq (y : MethodName) (b : ByteArray) (n : Nat) (r : Option FieldType) : Option Cond → Bool
  | some (.code y' b' n' r') => decide (y = y') && decide (b.data.toList = b'.data.toList) && decide (n = n') && decide (r = r')
  | _ => false
theorem cxq_mem {L : List Cond} {y : MethodName} {b : ByteArray} {n : Nat} {r : Option FieldType} (i : Nat) (h : cxq y b n r L[i]? = true) : Cond.code y b n r ∈ L := by
  cases hL : L[i]? with
  | none => rw [hL] at h; cases h
  | some w =>
    rw [hL] at h
    have hm := List.mem_of_getElem? hL
    cases w <;> first | (cases h; done) | skip
    rename_i y' b' n' r'
    simp only [cxq, Bool.and_eq_true, decide_eq_true_eq] at h
    obtain ⟨⟨⟨h1, h2⟩, h3⟩, h4⟩ := h
    obtain ⟨⟨d⟩⟩ := b
    obtain ⟨⟨d'⟩⟩ := b'
    subst h1; subst h2; subst h3; subst h4
    exact hm
end
section
theorem cxq_mem2 {y : MethodName} {b : ByteArray} {n : Nat} {r : Option FieldType} (i j : Nat) (h : cxq y b n r ((lw_t2[i]?).bind (fun l => l[j]?)) = true) : Cond.code y b n r ∈ lw_tbl := by
  cases hL : (lw_t2[i]?).bind (fun l => l[j]?) with
  | none => rw [hL] at h; cases h
  | some w =>
    rw [hL] at h
    have hm := t2_at hL
    cases w <;> first | (cases h; done) | skip
    rename_i y' b' n' r'
    simp only [cxq, Bool.and_eq_true, decide_eq_true_eq] at h
    obtain ⟨⟨⟨h1, h2⟩, h3⟩, h4⟩ := h
    obtain ⟨⟨d⟩⟩ := b
    obtain ⟨⟨d'⟩⟩ := b'
    subst h1; subst h2; subst h3; subst h4
    exact hm
end
section
/-! ===== own rows: a virtual call of a method that has a table of handlers and throws nothing ===== -/
section THW
variable {p : Program} {l : Launch} {e : Env} {R : Room} {s : State} {m : MethodId} {args : Array Value} {below : List Frame} {meth : Method} {c : Code} {H : Heap} {locs : List Loc} {cells slots : Nat}
  {Ts ws ws' : List Cond} {cc bytes : ByteArray} {nL maxL index n mc ms : Nat} {own C : String} {y : MethodName} {ret : Option FieldType} {hh : List (Nat × Nat × Nat × Nat)} {rm : Room} {Pc : Array Value → State → Prop} {Qc : Array Value → State → Outcome → State → Prop} {free : Addr → Prop}
  {b : Addr} {As rest : List Value} {g : JFrame}
abbrev th_CW (R : Room) (s : State) (args : Array Value) (own C : String) (index : Nat) (y : MethodName) (bytes : ByteArray) (maxL : Nat) (ret : Option FieldType) (hh : List (Nat × Nat × Nat × Nat)) (ws : List Cond) (rm : Room) (mc ms n : Nat) : Prop :=
  rm.cells = mc ∧ rm.slots = ms ∧ rm.frames + 1 ≤ R.frames ∧ 8 + (maxL + 11) + rm.locals ≤ R.locals ∧ (∀ w ∈ ws, ∀ (a' : Array Value) (U : State), s.WarmedH U.vm → w.before a' U = true) ∧ Cond.codeWith y bytes maxL ret hh ∈ ws ∧
  (Cond.codeWith y bytes maxL ret hh).before args s = true ∧ (Cond.initialized y.cls).before args s = true ∧ (y.cls ≠ "java/lang/invoke/MethodHandle" ∧ y.cls ≠ "java/lang/invoke/VarHandle") ∧ (∀ sig, parseMethodDescriptor y.desc = some sig → n = sig.parameters.length) ∧ (Cond.methodLink own index y).before args s = true ∧
  (Cond.instanceMethod y).before args s = true ∧ (Cond.selects C y y).before args s = true
theorem th_cw (n : Nat) (ht : ∀ w ∈ Ts, w.before args s = true) (hT : GoodIn Ts (wsV own index C y ws)) (hw : ws = Cond.codeWith y bytes maxL ret hh :: ws') (hrc : rm.cells = mc) (hrs : rm.slots = ms)
    (hd : y.cls = C ∧ y.cls ≠ "java/lang/invoke/MethodHandle" ∧ y.cls ≠ "java/lang/invoke/VarHandle" ∧ (parseMethodDescriptor y.desc).map (fun d => d.parameters.length) = some n) (hR : rm.frames + 1 ≤ R.frames ∧ 8 + (maxL + 11) + rm.locals ≤ R.locals) :
    th_CW R s args own C index y bytes maxL ret hh ws rm mc ms n := by
  obtain ⟨hC, h1, h2, h3⟩ := hd
  subst hC
  have ok : ∀ w ∈ wsV own index y.cls y ws, w.before args s = true := fun w h => ht w (hT w h).1
  have hc : Cond.codeWith y bytes maxL ret hh ∈ ws := by rw [hw]; exact List.mem_cons_self
  refine ⟨hrc, hrs, hR.1, hR.2, pay_in ht (fun w h => hT w (by unfold wsV; exact List.mem_append_right _ h)), hc, ok _ (by unfold wsV; exact List.mem_append_right _ hc), ok _ (by simp [wsV]), ⟨h1, h2⟩, fun sig h => ?_, ok _ (by simp [wsV]), ok _ (by simp [wsV]), ok _ (by simp [wsV])⟩
  rw [h] at h3
  exact (Option.some.inj h3).symm
theorem th_runVW (S : CallFix p m c cc nL s args Ts own) (hM : Met l y ws rm Pc Qc mc ms free) (cw : th_CW R s args own C index y bytes maxL ret hh ws rm mc ms n) (hp : PreV s H C b Pc As)
    (hg : g.method = m) (hn : As.length = n) (hsize : g.locals.size = nL) (hstack : g.stack = As.reverse ++ .ref b :: rest) (hW : 2 * g.monitorRoom + (rest.map fun v => v.category).sum ≤ 8) (hdg : decode cc g.pc = .ok (.invokevirtual index, 3)) (hf : cells + mc ≤ R.cells ∧ slots + ms ≤ R.slots) :
    va_Run p l e R s m args below meth c H locs cells slots mc ms g rest (Qc (Value.ref b :: As).toArray) (free) := by
  obtain ⟨hrc, hrs, hfr, hlo, hws, hcw, hcode, hini, hy, hlen, hl, hin, hse⟩ := cw
  have hK : Back l R p e below s args y 3 8 (PreOf R mc ms Pc) (PostOf Qc mc ms free) := va_backW (hh := hh) (bytes := bytes) (maxL := maxL) (ret := ret) hM hp.1 hrc hrs hfr hlo hws hcw (fun a' U hW => word_at hW (Or.inl (by first | rfl | simp [Cond.onTables, Cond.keeps, Cond.steady])) hini)
  obtain ⟨hx, hb, hml, ho, -⟩ := S
  obtain ⟨-, ⟨cellB, hcB, hoB, hclB⟩, hPc⟩ := hp
  intro T hT X
  obtain ⟨mk, methM, hnamed, hmethM, hstM, habM⟩ := Cond.instanceMethod_spec hin
  obtain ⟨mk', methM', cM, hnm', hmethM', -, -, -, -, -, -, hsigM⟩ := Cond.codeWith_spec hcode
  cases hnamed.symm.trans hnm'
  cases hmethM.symm.trans hmethM'
  obtain ⟨c2, r2, m2, q1, q2, q3, q4, kP, hkP, hkPi⟩ := Cond.selects_spec hse
  cases hclB.symm.trans q1
  cases (State.methodFound?_of_named hnamed hy).symm.trans q2
  cases hnamed.symm.trans q3
  have hselP : selectMethod e.platform s.vm cellB.cls mk = .method mk := by rw [Launch.admits_selectMethod X.admits]; exact q4
  have hdg' : decode c.code g.pc = .ok (.invokevirtual index, 3) := by rw [hb]; exact hdg
  obtain ⟨vm₁, X₁, hstep₁⟩ := X.invokevirtual hx ho hl hnamed hmethM hstM hkP hkPi hy (a := b) (cell := cellB) (by rw [hT]; exact hcB)
    (fun z h => by rw [h] at hoB; cases hoB) hselP hmethM habM hkP hkPi (g := g) hg (argsL := As) (rest := rest) (hn.trans (hlen _ hsigM)) hstack hdg'
  obtain ⟨v, ⟨U', l2, c2, s2⟩, X', ⟨g', mk2, t, L, e1, e2, hq, h1, hL, h2, h3⟩, hsteps⟩ := hK m meth c ⟨T.setVm vm₁, locs, cells, slots⟩ { g with stack := rest } (.invokevirtual index) mk (Value.ref b :: As).toArray X₁ hg (hsize.trans hml.symm) hdg' hW (X₁.named hnamed) ⟨hf.1, hf.2, hPc (T.setVm vm₁) hT X₁.warmed⟩
  dsimp only [Pt.U, Pt.locs, Pt.cells, Pt.slots] at X' e1 e2 h1 h2 h3 hsteps
  subst h1; subst h2; subst h3
  exact ⟨v, (T.setVm vm₁).calling g' mk2 (Value.ref b :: As).toArray, t, U', L, hT, X', hL, e1, e2, hq, fun target h => hstep₁ _ fun acts => by rw [doInvoke_state]; exact hsteps.trans h⟩
end THW
end
section
theorem dX0_aheadOf_0 : decode cX0_aheadOf 0 = .ok (.aload_n 0, 1) := by decide +kernel
theorem dX0_aheadOf_1 : decode cX0_aheadOf 1 = .ok (.iload_n 1, 1) := by decide +kernel
theorem dX0_aheadOf_2 : decode cX0_aheadOf 2 = .ok (.invokevirtual 49, 3) := by decide +kernel
theorem dX0_aheadOf_5 : decode cX0_aheadOf 5 = .ok (.istore 4, 2) := by decide +kernel
theorem dX0_aheadOf_7 : decode cX0_aheadOf 7 = .ok (.aload_n 0, 1) := by decide +kernel
theorem dX0_aheadOf_8 : decode cX0_aheadOf 8 = .ok (.iload_n 1, 1) := by decide +kernel
theorem dX0_aheadOf_9 : decode cX0_aheadOf 9 = .ok (.invokevirtual 46, 3) := by decide +kernel
theorem dX0_aheadOf_12 : decode cX0_aheadOf 12 = .ok (.iconst 2, 1) := by decide +kernel
theorem dX0_aheadOf_13 : decode cX0_aheadOf 13 = .ok (.if_icmp .ne 11, 3) := by decide +kernel
theorem dX0_aheadOf_16 : decode cX0_aheadOf 16 = .ok (.iload_n 2, 1) := by decide +kernel
theorem dX0_aheadOf_17 : decode cX0_aheadOf 17 = .ok (.iload 4, 2) := by decide +kernel
theorem dX0_aheadOf_19 : decode cX0_aheadOf 19 = .ok (.iconst 2, 1) := by decide +kernel
theorem dX0_aheadOf_20 : decode cX0_aheadOf 20 = .ok (.idiv, 1) := by decide +kernel
theorem dX0_aheadOf_21 : decode cX0_aheadOf 21 = .ok (.if_icmp .ge 5, 3) := by decide +kernel
theorem dX0_aheadOf_24 : decode cX0_aheadOf 24 = .ok (.iconst (-1), 1) := by decide +kernel
theorem dX0_aheadOf_25 : decode cX0_aheadOf 25 = .ok (.ireturn, 1) := by decide +kernel
theorem dX0_aheadOf_26 : decode cX0_aheadOf 26 = .ok (.iload_n 2, 1) := by decide +kernel
theorem dX0_aheadOf_27 : decode cX0_aheadOf 27 = .ok (.iload 4, 2) := by decide +kernel
theorem dX0_aheadOf_29 : decode cX0_aheadOf 29 = .ok (.iconst 2, 1) := by decide +kernel
theorem dX0_aheadOf_30 : decode cX0_aheadOf 30 = .ok (.isub, 1) := by decide +kernel
theorem dX0_aheadOf_31 : decode cX0_aheadOf 31 = .ok (.if_icmp .gt 12, 3) := by decide +kernel
theorem dX0_aheadOf_34 : decode cX0_aheadOf 34 = .ok (.iload 4, 2) := by decide +kernel
theorem dX0_aheadOf_36 : decode cX0_aheadOf 36 = .ok (.iload_n 2, 1) := by decide +kernel
theorem dX0_aheadOf_37 : decode cX0_aheadOf 37 = .ok (.invokestatic 97, 3) := by decide +kernel
theorem dX0_aheadOf_40 : decode cX0_aheadOf 40 = .ok (.iload_n 3, 1) := by decide +kernel
theorem dX0_aheadOf_41 : decode cX0_aheadOf 41 = .ok (.iadd, 1) := by decide +kernel
theorem dX0_aheadOf_42 : decode cX0_aheadOf 42 = .ok (.ireturn, 1) := by decide +kernel
theorem dX0_aheadOf_43 : decode cX0_aheadOf 43 = .ok (.iload_n 2, 1) := by decide +kernel
theorem dX0_aheadOf_44 : decode cX0_aheadOf 44 = .ok (.iload 4, 2) := by decide +kernel
theorem dX0_aheadOf_46 : decode cX0_aheadOf 46 = .ok (.iconst 1, 1) := by decide +kernel
theorem dX0_aheadOf_47 : decode cX0_aheadOf 47 = .ok (.isub, 1) := by decide +kernel
theorem dX0_aheadOf_48 : decode cX0_aheadOf 48 = .ok (.isub, 1) := by decide +kernel
theorem dX0_aheadOf_49 : decode cX0_aheadOf 49 = .ok (.iload 4, 2) := by decide +kernel
theorem dX0_aheadOf_51 : decode cX0_aheadOf 51 = .ok (.invokestatic 52, 3) := by decide +kernel
theorem dX0_aheadOf_54 : decode cX0_aheadOf 54 = .ok (.if_icmp .ge 7, 3) := by decide +kernel
theorem dX0_aheadOf_57 : decode cX0_aheadOf 57 = .ok (.iconst 0, 1) := by decide +kernel
theorem dX0_aheadOf_58 : decode cX0_aheadOf 58 = .ok (.goto 4, 3) := by decide +kernel
theorem dX0_aheadOf_61 : decode cX0_aheadOf 61 = .ok (.iconst 1, 1) := by decide +kernel
theorem dX0_aheadOf_62 : decode cX0_aheadOf 62 = .ok (.istore 5, 2) := by decide +kernel
theorem dX0_aheadOf_64 : decode cX0_aheadOf 64 = .ok (.iload_n 3, 1) := by decide +kernel
theorem dX0_aheadOf_65 : decode cX0_aheadOf 65 = .ok (.ifCond .ne 11, 3) := by decide +kernel
theorem dX0_aheadOf_68 : decode cX0_aheadOf 68 = .ok (.iload 4, 2) := by decide +kernel
theorem dX0_aheadOf_70 : decode cX0_aheadOf 70 = .ok (.iconst 4, 1) := by decide +kernel
theorem dX0_aheadOf_71 : decode cX0_aheadOf 71 = .ok (.isub, 1) := by decide +kernel
theorem dX0_aheadOf_72 : decode cX0_aheadOf 72 = .ok (.iload 5, 2) := by decide +kernel
theorem dX0_aheadOf_74 : decode cX0_aheadOf 74 = .ok (.iadd, 1) := by decide +kernel
theorem dX0_aheadOf_75 : decode cX0_aheadOf 75 = .ok (.ireturn, 1) := by decide +kernel
theorem dX0_aheadOf_76 : decode cX0_aheadOf 76 = .ok (.iload 4, 2) := by decide +kernel
theorem dX0_aheadOf_78 : decode cX0_aheadOf 78 = .ok (.iload_n 2, 1) := by decide +kernel
theorem dX0_aheadOf_79 : decode cX0_aheadOf 79 = .ok (.invokestatic 114, 3) := by decide +kernel
theorem dX0_aheadOf_82 : decode cX0_aheadOf 82 = .ok (.iconst 1, 1) := by decide +kernel
theorem dX0_aheadOf_83 : decode cX0_aheadOf 83 = .ok (.if_icmp .le 9, 3) := by decide +kernel
theorem dX0_aheadOf_86 : decode cX0_aheadOf 86 = .ok (.iload_n 2, 1) := by decide +kernel
theorem dX0_aheadOf_87 : decode cX0_aheadOf 87 = .ok (.iconst 1, 1) := by decide +kernel
theorem dX0_aheadOf_88 : decode cX0_aheadOf 88 = .ok (.isub, 1) := by decide +kernel
theorem dX0_aheadOf_89 : decode cX0_aheadOf 89 = .ok (.goto 4, 3) := by decide +kernel
theorem dX0_aheadOf_92 : decode cX0_aheadOf 92 = .ok (.iconst (-1), 1) := by decide +kernel
theorem dX0_aheadOf_93 : decode cX0_aheadOf 93 = .ok (.ireturn, 1) := by decide +kernel
theorem kSX0_aheadOf : yX0_aheadOf.cls ≠ "java/lang/invoke/MethodHandle" ∧ yX0_aheadOf.cls ≠ "java/lang/invoke/VarHandle" ∧ (parseMethodDescriptor yX0_aheadOf.desc).map (fun d => d.parameters.length) = some 3 := by decide +kernel
theorem kVX0_aheadOf : yX0_aheadOf.cls = RX0 ∧ yX0_aheadOf.cls ≠ "java/lang/invoke/MethodHandle" ∧ yX0_aheadOf.cls ≠ "java/lang/invoke/VarHandle" ∧ (parseMethodDescriptor yX0_aheadOf.desc).map (fun d => d.parameters.length) = some 3 := ⟨rfl, kSX0_aheadOf⟩
theorem dX0_firstStale_0 : decode cX0_firstStale 0 = .ok (.iconst 0, 1) := by decide +kernel
theorem dX0_firstStale_1 : decode cX0_firstStale 1 = .ok (.istore_n 2, 1) := by decide +kernel
theorem dX0_firstStale_2 : decode cX0_firstStale 2 = .ok (.iload_n 2, 1) := by decide +kernel
theorem dX0_firstStale_3 : decode cX0_firstStale 3 = .ok (.aload_n 0, 1) := by decide +kernel
theorem dX0_firstStale_4 : decode cX0_firstStale 4 = .ok (.iload_n 1, 1) := by decide +kernel
theorem dX0_firstStale_5 : decode cX0_firstStale 5 = .ok (.invokevirtual 59, 3) := by decide +kernel
theorem dX0_firstStale_8 : decode cX0_firstStale 8 = .ok (.if_icmp .ge 93, 3) := by decide +kernel
theorem dX0_firstStale_11 : decode cX0_firstStale 11 = .ok (.aload_n 0, 1) := by decide +kernel
theorem dX0_firstStale_12 : decode cX0_firstStale 12 = .ok (.getfield 11, 3) := by decide +kernel
theorem dX0_firstStale_15 : decode cX0_firstStale 15 = .ok (.iload_n 1, 1) := by decide +kernel
theorem dX0_firstStale_16 : decode cX0_firstStale 16 = .ok (.iload_n 2, 1) := by decide +kernel
theorem dX0_firstStale_17 : decode cX0_firstStale 17 = .ok (.iconst 0, 1) := by decide +kernel
theorem dX0_firstStale_18 : decode cX0_firstStale 18 = .ok (.invokestatic 110, 3) := by decide +kernel
theorem dX0_firstStale_21 : decode cX0_firstStale 21 = .ok (.invokevirtual 42, 3) := by decide +kernel
theorem dX0_firstStale_24 : decode cX0_firstStale 24 = .ok (.ifCond .eq 7, 3) := by decide +kernel
theorem dX0_firstStale_27 : decode cX0_firstStale 27 = .ok (.iconst 1, 1) := by decide +kernel
theorem dX0_firstStale_28 : decode cX0_firstStale 28 = .ok (.goto 4, 3) := by decide +kernel
theorem dX0_firstStale_31 : decode cX0_firstStale 31 = .ok (.iconst 0, 1) := by decide +kernel
theorem dX0_firstStale_32 : decode cX0_firstStale 32 = .ok (.istore_n 3, 1) := by decide +kernel
theorem dX0_firstStale_33 : decode cX0_firstStale 33 = .ok (.aload_n 0, 1) := by decide +kernel
theorem dX0_firstStale_34 : decode cX0_firstStale 34 = .ok (.getfield 11, 3) := by decide +kernel
theorem dX0_firstStale_37 : decode cX0_firstStale 37 = .ok (.iload_n 1, 1) := by decide +kernel
theorem dX0_firstStale_38 : decode cX0_firstStale 38 = .ok (.iload_n 2, 1) := by decide +kernel
theorem dX0_firstStale_39 : decode cX0_firstStale 39 = .ok (.iconst 1, 1) := by decide +kernel
theorem dX0_firstStale_40 : decode cX0_firstStale 40 = .ok (.invokestatic 110, 3) := by decide +kernel
theorem dX0_firstStale_43 : decode cX0_firstStale 43 = .ok (.invokevirtual 42, 3) := by decide +kernel
theorem dX0_firstStale_46 : decode cX0_firstStale 46 = .ok (.aload_n 0, 1) := by decide +kernel
theorem dX0_firstStale_47 : decode cX0_firstStale 47 = .ok (.iload_n 1, 1) := by decide +kernel
theorem dX0_firstStale_48 : decode cX0_firstStale 48 = .ok (.iload_n 2, 1) := by decide +kernel
theorem dX0_firstStale_49 : decode cX0_firstStale 49 = .ok (.invokevirtual 71, 3) := by decide +kernel
theorem dX0_firstStale_52 : decode cX0_firstStale 52 = .ok (.if_icmp .ne 29, 3) := by decide +kernel
theorem dX0_firstStale_55 : decode cX0_firstStale 55 = .ok (.aload_n 0, 1) := by decide +kernel
theorem dX0_firstStale_56 : decode cX0_firstStale 56 = .ok (.getfield 11, 3) := by decide +kernel
theorem dX0_firstStale_59 : decode cX0_firstStale 59 = .ok (.iload_n 1, 1) := by decide +kernel
theorem dX0_firstStale_60 : decode cX0_firstStale 60 = .ok (.iload_n 2, 1) := by decide +kernel
theorem dX0_firstStale_61 : decode cX0_firstStale 61 = .ok (.iconst 2, 1) := by decide +kernel
theorem dX0_firstStale_62 : decode cX0_firstStale 62 = .ok (.invokestatic 110, 3) := by decide +kernel
theorem dX0_firstStale_65 : decode cX0_firstStale 65 = .ok (.invokevirtual 42, 3) := by decide +kernel
theorem dX0_firstStale_68 : decode cX0_firstStale 68 = .ok (.aload_n 0, 1) := by decide +kernel
theorem dX0_firstStale_69 : decode cX0_firstStale 69 = .ok (.iload_n 1, 1) := by decide +kernel
theorem dX0_firstStale_70 : decode cX0_firstStale 70 = .ok (.iload_n 2, 1) := by decide +kernel
theorem dX0_firstStale_71 : decode cX0_firstStale 71 = .ok (.invokevirtual 74, 3) := by decide +kernel
theorem dX0_firstStale_74 : decode cX0_firstStale 74 = .ok (.if_icmp .ne 7, 3) := by decide +kernel
theorem dX0_firstStale_77 : decode cX0_firstStale 77 = .ok (.iconst 1, 1) := by decide +kernel
theorem dX0_firstStale_78 : decode cX0_firstStale 78 = .ok (.goto 4, 3) := by decide +kernel
theorem dX0_firstStale_81 : decode cX0_firstStale 81 = .ok (.iconst 0, 1) := by decide +kernel
theorem dX0_firstStale_82 : decode cX0_firstStale 82 = .ok (.istore 4, 2) := by decide +kernel
theorem dX0_firstStale_84 : decode cX0_firstStale 84 = .ok (.iload_n 3, 1) := by decide +kernel
theorem dX0_firstStale_85 : decode cX0_firstStale 85 = .ok (.ifCond .eq 10, 3) := by decide +kernel
theorem dX0_firstStale_88 : decode cX0_firstStale 88 = .ok (.iload 4, 2) := by decide +kernel
theorem dX0_firstStale_90 : decode cX0_firstStale 90 = .ok (.ifCond .ne 5, 3) := by decide +kernel
theorem dX0_firstStale_93 : decode cX0_firstStale 93 = .ok (.iload_n 2, 1) := by decide +kernel
theorem dX0_firstStale_94 : decode cX0_firstStale 94 = .ok (.ireturn, 1) := by decide +kernel
theorem dX0_firstStale_95 : decode cX0_firstStale 95 = .ok (.iinc 2 1, 3) := by decide +kernel
theorem dX0_firstStale_98 : decode cX0_firstStale 98 = .ok (.goto (-96), 3) := by decide +kernel
theorem dX0_firstStale_101 : decode cX0_firstStale 101 = .ok (.iconst (-1), 1) := by decide +kernel
theorem dX0_firstStale_102 : decode cX0_firstStale 102 = .ok (.ireturn, 1) := by decide +kernel
theorem kSX0_firstStale : yX0_firstStale.cls ≠ "java/lang/invoke/MethodHandle" ∧ yX0_firstStale.cls ≠ "java/lang/invoke/VarHandle" ∧ (parseMethodDescriptor yX0_firstStale.desc).map (fun d => d.parameters.length) = some 1 := by decide +kernel
theorem kVX0_firstStale : yX0_firstStale.cls = RX0 ∧ yX0_firstStale.cls ≠ "java/lang/invoke/MethodHandle" ∧ yX0_firstStale.cls ≠ "java/lang/invoke/VarHandle" ∧ (parseMethodDescriptor yX0_firstStale.desc).map (fun d => d.parameters.length) = some 1 := ⟨rfl, kSX0_firstStale⟩
theorem dX0_lowerBelow_0 : decode cX0_lowerBelow 0 = .ok (.iconst 2, 1) := by decide +kernel
theorem dX0_lowerBelow_1 : decode cX0_lowerBelow 1 = .ok (.iload_n 1, 1) := by decide +kernel
theorem dX0_lowerBelow_2 : decode cX0_lowerBelow 2 = .ok (.iload_n 0, 1) := by decide +kernel
theorem dX0_lowerBelow_3 : decode cX0_lowerBelow 3 = .ok (.iconst 2, 1) := by decide +kernel
theorem dX0_lowerBelow_4 : decode cX0_lowerBelow 4 = .ok (.idiv, 1) := by decide +kernel
theorem dX0_lowerBelow_5 : decode cX0_lowerBelow 5 = .ok (.isub, 1) := by decide +kernel
theorem dX0_lowerBelow_6 : decode cX0_lowerBelow 6 = .ok (.imul, 1) := by decide +kernel
theorem dX0_lowerBelow_7 : decode cX0_lowerBelow 7 = .ok (.ireturn, 1) := by decide +kernel
theorem kSX0_lowerBelow : yX0_lowerBelow.cls ≠ "java/lang/invoke/MethodHandle" ∧ yX0_lowerBelow.cls ≠ "java/lang/invoke/VarHandle" ∧ (parseMethodDescriptor yX0_lowerBelow.desc).map (fun d => d.parameters.length) = some 2 := by decide +kernel
theorem dX0_stageOf_0 : decode cX0_stageOf 0 = .ok (.aload_n 0, 1) := by decide +kernel
theorem dX0_stageOf_1 : decode cX0_stageOf 1 = .ok (.iload_n 1, 1) := by decide +kernel
theorem dX0_stageOf_2 : decode cX0_stageOf 2 = .ok (.invokevirtual 49, 3) := by decide +kernel
theorem dX0_stageOf_5 : decode cX0_stageOf 5 = .ok (.istore_n 3, 1) := by decide +kernel
theorem dX0_stageOf_6 : decode cX0_stageOf 6 = .ok (.aload_n 0, 1) := by decide +kernel
theorem dX0_stageOf_7 : decode cX0_stageOf 7 = .ok (.iload_n 1, 1) := by decide +kernel
theorem dX0_stageOf_8 : decode cX0_stageOf 8 = .ok (.invokevirtual 46, 3) := by decide +kernel
theorem dX0_stageOf_11 : decode cX0_stageOf 11 = .ok (.iconst 2, 1) := by decide +kernel
theorem dX0_stageOf_12 : decode cX0_stageOf 12 = .ok (.if_icmp .eq 5, 3) := by decide +kernel
theorem dX0_stageOf_15 : decode cX0_stageOf 15 = .ok (.iconst 0, 1) := by decide +kernel
theorem dX0_stageOf_16 : decode cX0_stageOf 16 = .ok (.ireturn, 1) := by decide +kernel
theorem dX0_stageOf_17 : decode cX0_stageOf 17 = .ok (.iload_n 2, 1) := by decide +kernel
theorem dX0_stageOf_18 : decode cX0_stageOf 18 = .ok (.iload_n 3, 1) := by decide +kernel
theorem dX0_stageOf_19 : decode cX0_stageOf 19 = .ok (.iconst 2, 1) := by decide +kernel
theorem dX0_stageOf_20 : decode cX0_stageOf 20 = .ok (.isub, 1) := by decide +kernel
theorem dX0_stageOf_21 : decode cX0_stageOf 21 = .ok (.if_icmp .le 12, 3) := by decide +kernel
theorem dX0_stageOf_24 : decode cX0_stageOf 24 = .ok (.bipush 10, 2) := by decide +kernel
theorem dX0_stageOf_26 : decode cX0_stageOf 26 = .ok (.iload_n 3, 1) := by decide +kernel
theorem dX0_stageOf_27 : decode cX0_stageOf 27 = .ok (.iload_n 2, 1) := by decide +kernel
theorem dX0_stageOf_28 : decode cX0_stageOf 28 = .ok (.invokestatic 114, 3) := by decide +kernel
theorem dX0_stageOf_31 : decode cX0_stageOf 31 = .ok (.iadd, 1) := by decide +kernel
theorem dX0_stageOf_32 : decode cX0_stageOf 32 = .ok (.ireturn, 1) := by decide +kernel
theorem dX0_stageOf_33 : decode cX0_stageOf 33 = .ok (.iconst 0, 1) := by decide +kernel
theorem dX0_stageOf_34 : decode cX0_stageOf 34 = .ok (.istore 4, 2) := by decide +kernel
theorem dX0_stageOf_36 : decode cX0_stageOf 36 = .ok (.iload_n 3, 1) := by decide +kernel
theorem dX0_stageOf_37 : decode cX0_stageOf 37 = .ok (.iconst 2, 1) := by decide +kernel
theorem dX0_stageOf_38 : decode cX0_stageOf 38 = .ok (.idiv, 1) := by decide +kernel
theorem dX0_stageOf_39 : decode cX0_stageOf 39 = .ok (.istore 5, 2) := by decide +kernel
theorem dX0_stageOf_41 : decode cX0_stageOf 41 = .ok (.iload 5, 2) := by decide +kernel
theorem dX0_stageOf_43 : decode cX0_stageOf 43 = .ok (.iload_n 2, 1) := by decide +kernel
theorem dX0_stageOf_44 : decode cX0_stageOf 44 = .ok (.if_icmp .gt 26, 3) := by decide +kernel
theorem dX0_stageOf_47 : decode cX0_stageOf 47 = .ok (.iload 4, 2) := by decide +kernel
theorem dX0_stageOf_49 : decode cX0_stageOf 49 = .ok (.iconst 5, 1) := by decide +kernel
theorem dX0_stageOf_50 : decode cX0_stageOf 50 = .ok (.if_icmp .ge 20, 3) := by decide +kernel
theorem dX0_stageOf_53 : decode cX0_stageOf 53 = .ok (.iinc 4 1, 3) := by decide +kernel
theorem dX0_stageOf_56 : decode cX0_stageOf 56 = .ok (.iload 5, 2) := by decide +kernel
theorem dX0_stageOf_58 : decode cX0_stageOf 58 = .ok (.iload_n 3, 1) := by decide +kernel
theorem dX0_stageOf_59 : decode cX0_stageOf 59 = .ok (.iload 4, 2) := by decide +kernel
theorem dX0_stageOf_61 : decode cX0_stageOf 61 = .ok (.iconst 1, 1) := by decide +kernel
theorem dX0_stageOf_62 : decode cX0_stageOf 62 = .ok (.iadd, 1) := by decide +kernel
theorem dX0_stageOf_63 : decode cX0_stageOf 63 = .ok (.ishr, 1) := by decide +kernel
theorem dX0_stageOf_64 : decode cX0_stageOf 64 = .ok (.iadd, 1) := by decide +kernel
theorem dX0_stageOf_65 : decode cX0_stageOf 65 = .ok (.istore 5, 2) := by decide +kernel
theorem dX0_stageOf_67 : decode cX0_stageOf 67 = .ok (.goto (-26), 3) := by decide +kernel
theorem dX0_stageOf_70 : decode cX0_stageOf 70 = .ok (.iload_n 2, 1) := by decide +kernel
theorem dX0_stageOf_71 : decode cX0_stageOf 71 = .ok (.iload_n 3, 1) := by decide +kernel
theorem dX0_stageOf_72 : decode cX0_stageOf 72 = .ok (.iconst 2, 1) := by decide +kernel
theorem dX0_stageOf_73 : decode cX0_stageOf 73 = .ok (.isub, 1) := by decide +kernel
theorem dX0_stageOf_74 : decode cX0_stageOf 74 = .ok (.if_icmp .ne 8, 3) := by decide +kernel
theorem dX0_stageOf_77 : decode cX0_stageOf 77 = .ok (.bipush 20, 2) := by decide +kernel
theorem dX0_stageOf_79 : decode cX0_stageOf 79 = .ok (.goto 5, 3) := by decide +kernel
theorem dX0_stageOf_82 : decode cX0_stageOf 82 = .ok (.iload 4, 2) := by decide +kernel
theorem dX0_stageOf_84 : decode cX0_stageOf 84 = .ok (.ireturn, 1) := by decide +kernel
theorem kSX0_stageOf : yX0_stageOf.cls ≠ "java/lang/invoke/MethodHandle" ∧ yX0_stageOf.cls ≠ "java/lang/invoke/VarHandle" ∧ (parseMethodDescriptor yX0_stageOf.desc).map (fun d => d.parameters.length) = some 2 := by decide +kernel
theorem kVX0_stageOf : yX0_stageOf.cls = RX0 ∧ yX0_stageOf.cls ≠ "java/lang/invoke/MethodHandle" ∧ yX0_stageOf.cls ≠ "java/lang/invoke/VarHandle" ∧ (parseMethodDescriptor yX0_stageOf.desc).map (fun d => d.parameters.length) = some 2 := ⟨rfl, kSX0_stageOf⟩
theorem dX0_stepOf_0 : decode cX0_stepOf 0 = .ok (.iload_n 0, 1) := by decide +kernel
theorem dX0_stepOf_1 : decode cX0_stepOf 1 = .ok (.invokestatic 52, 3) := by decide +kernel
theorem dX0_stepOf_4 : decode cX0_stepOf 4 = .ok (.istore_n 2, 1) := by decide +kernel
theorem dX0_stepOf_5 : decode cX0_stepOf 5 = .ok (.iload_n 1, 1) := by decide +kernel
theorem dX0_stepOf_6 : decode cX0_stepOf 6 = .ok (.iload_n 0, 1) := by decide +kernel
theorem dX0_stepOf_7 : decode cX0_stepOf 7 = .ok (.iconst 1, 1) := by decide +kernel
theorem dX0_stepOf_8 : decode cX0_stepOf 8 = .ok (.isub, 1) := by decide +kernel
theorem dX0_stepOf_9 : decode cX0_stepOf 9 = .ok (.isub, 1) := by decide +kernel
theorem dX0_stepOf_10 : decode cX0_stepOf 10 = .ok (.istore_n 3, 1) := by decide +kernel
theorem dX0_stepOf_11 : decode cX0_stepOf 11 = .ok (.iload_n 3, 1) := by decide +kernel
theorem dX0_stepOf_12 : decode cX0_stepOf 12 = .ok (.iload_n 2, 1) := by decide +kernel
theorem dX0_stepOf_13 : decode cX0_stepOf 13 = .ok (.if_icmp .ge 9, 3) := by decide +kernel
theorem dX0_stepOf_16 : decode cX0_stepOf 16 = .ok (.iload_n 3, 1) := by decide +kernel
theorem dX0_stepOf_17 : decode cX0_stepOf 17 = .ok (.iconst 1, 1) := by decide +kernel
theorem dX0_stepOf_18 : decode cX0_stepOf 18 = .ok (.iadd, 1) := by decide +kernel
theorem dX0_stepOf_19 : decode cX0_stepOf 19 = .ok (.goto 8, 3) := by decide +kernel
theorem dX0_stepOf_22 : decode cX0_stepOf 22 = .ok (.iload_n 3, 1) := by decide +kernel
theorem dX0_stepOf_23 : decode cX0_stepOf 23 = .ok (.iload_n 2, 1) := by decide +kernel
theorem dX0_stepOf_24 : decode cX0_stepOf 24 = .ok (.isub, 1) := by decide +kernel
theorem dX0_stepOf_25 : decode cX0_stepOf 25 = .ok (.iconst 1, 1) := by decide +kernel
theorem dX0_stepOf_26 : decode cX0_stepOf 26 = .ok (.iadd, 1) := by decide +kernel
theorem dX0_stepOf_27 : decode cX0_stepOf 27 = .ok (.ireturn, 1) := by decide +kernel
theorem kSX0_stepOf : yX0_stepOf.cls ≠ "java/lang/invoke/MethodHandle" ∧ yX0_stepOf.cls ≠ "java/lang/invoke/VarHandle" ∧ (parseMethodDescriptor yX0_stepOf.desc).map (fun d => d.parameters.length) = some 2 := by decide +kernel
theorem dX10_isDigit_0 : decode cX10_isDigit 0 = .ok (.iload_n 0, 1) := by decide +kernel
theorem dX10_isDigit_1 : decode cX10_isDigit 1 = .ok (.bipush 48, 2) := by decide +kernel
theorem dX10_isDigit_3 : decode cX10_isDigit 3 = .ok (.if_icmp .lt 13, 3) := by decide +kernel
theorem dX10_isDigit_6 : decode cX10_isDigit 6 = .ok (.iload_n 0, 1) := by decide +kernel
theorem dX10_isDigit_7 : decode cX10_isDigit 7 = .ok (.bipush 57, 2) := by decide +kernel
theorem dX10_isDigit_9 : decode cX10_isDigit 9 = .ok (.if_icmp .gt 7, 3) := by decide +kernel
theorem dX10_isDigit_12 : decode cX10_isDigit 12 = .ok (.iconst 1, 1) := by decide +kernel
theorem dX10_isDigit_13 : decode cX10_isDigit 13 = .ok (.goto 4, 3) := by decide +kernel
theorem dX10_isDigit_16 : decode cX10_isDigit 16 = .ok (.iconst 0, 1) := by decide +kernel
theorem dX10_isDigit_17 : decode cX10_isDigit 17 = .ok (.ireturn, 1) := by decide +kernel
theorem kSX10_isDigit : yX10_isDigit.cls ≠ "java/lang/invoke/MethodHandle" ∧ yX10_isDigit.cls ≠ "java/lang/invoke/VarHandle" ∧ (parseMethodDescriptor yX10_isDigit.desc).map (fun d => d.parameters.length) = some 1 := by decide +kernel
theorem dX10_isLetter_0 : decode cX10_isLetter 0 = .ok (.iload_n 0, 1) := by decide +kernel
theorem dX10_isLetter_1 : decode cX10_isLetter 1 = .ok (.bipush 97, 2) := by decide +kernel
theorem dX10_isLetter_3 : decode cX10_isLetter 3 = .ok (.if_icmp .lt 13, 3) := by decide +kernel
theorem dX10_isLetter_6 : decode cX10_isLetter 6 = .ok (.iload_n 0, 1) := by decide +kernel
theorem dX10_isLetter_7 : decode cX10_isLetter 7 = .ok (.bipush 122, 2) := by decide +kernel
theorem dX10_isLetter_9 : decode cX10_isLetter 9 = .ok (.if_icmp .gt 7, 3) := by decide +kernel
theorem dX10_isLetter_12 : decode cX10_isLetter 12 = .ok (.iconst 1, 1) := by decide +kernel
theorem dX10_isLetter_13 : decode cX10_isLetter 13 = .ok (.goto 4, 3) := by decide +kernel
theorem dX10_isLetter_16 : decode cX10_isLetter 16 = .ok (.iconst 0, 1) := by decide +kernel
theorem dX10_isLetter_17 : decode cX10_isLetter 17 = .ok (.ireturn, 1) := by decide +kernel
theorem kSX10_isLetter : yX10_isLetter.cls ≠ "java/lang/invoke/MethodHandle" ∧ yX10_isLetter.cls ≠ "java/lang/invoke/VarHandle" ∧ (parseMethodDescriptor yX10_isLetter.desc).map (fun d => d.parameters.length) = some 1 := by decide +kernel
theorem dX10_isWordAt_0 : decode cX10_isWordAt 0 = .ok (.aload_n 0, 1) := by decide +kernel
theorem dX10_isWordAt_1 : decode cX10_isWordAt 1 = .ok (.getfield 25, 3) := by decide +kernel
theorem dX10_isWordAt_4 : decode cX10_isWordAt 4 = .ok (.aload_n 0, 1) := by decide +kernel
theorem dX10_isWordAt_5 : decode cX10_isWordAt 5 = .ok (.getfield 36, 3) := by decide +kernel
theorem dX10_isWordAt_8 : decode cX10_isWordAt 8 = .ok (.isub, 1) := by decide +kernel
theorem dX10_isWordAt_9 : decode cX10_isWordAt 9 = .ok (.iload_n 2, 1) := by decide +kernel
theorem dX10_isWordAt_10 : decode cX10_isWordAt 10 = .ok (.if_icmp .eq 5, 3) := by decide +kernel
theorem dX10_isWordAt_13 : decode cX10_isWordAt 13 = .ok (.iconst 0, 1) := by decide +kernel
theorem dX10_isWordAt_14 : decode cX10_isWordAt 14 = .ok (.ireturn, 1) := by decide +kernel
theorem dX10_isWordAt_15 : decode cX10_isWordAt 15 = .ok (.iconst 0, 1) := by decide +kernel
theorem dX10_isWordAt_16 : decode cX10_isWordAt 16 = .ok (.istore_n 3, 1) := by decide +kernel
theorem dX10_isWordAt_17 : decode cX10_isWordAt 17 = .ok (.iload_n 3, 1) := by decide +kernel
theorem dX10_isWordAt_18 : decode cX10_isWordAt 18 = .ok (.iload_n 2, 1) := by decide +kernel
theorem dX10_isWordAt_19 : decode cX10_isWordAt 19 = .ok (.if_icmp .ge 37, 3) := by decide +kernel
theorem dX10_isWordAt_22 : decode cX10_isWordAt 22 = .ok (.aload_n 0, 1) := by decide +kernel
theorem dX10_isWordAt_23 : decode cX10_isWordAt 23 = .ok (.getfield 14, 3) := by decide +kernel
theorem dX10_isWordAt_26 : decode cX10_isWordAt 26 = .ok (.aload_n 0, 1) := by decide +kernel
theorem dX10_isWordAt_27 : decode cX10_isWordAt 27 = .ok (.getfield 36, 3) := by decide +kernel
theorem dX10_isWordAt_30 : decode cX10_isWordAt 30 = .ok (.iload_n 3, 1) := by decide +kernel
theorem dX10_isWordAt_31 : decode cX10_isWordAt 31 = .ok (.iadd, 1) := by decide +kernel
theorem dX10_isWordAt_32 : decode cX10_isWordAt 32 = .ok (.invokevirtual 28, 3) := by decide +kernel
theorem dX10_isWordAt_35 : decode cX10_isWordAt 35 = .ok (.aload_n 0, 1) := by decide +kernel
theorem dX10_isWordAt_36 : decode cX10_isWordAt 36 = .ok (.getfield 14, 3) := by decide +kernel
theorem dX10_isWordAt_39 : decode cX10_isWordAt 39 = .ok (.iload_n 1, 1) := by decide +kernel
theorem dX10_isWordAt_40 : decode cX10_isWordAt 40 = .ok (.iload_n 3, 1) := by decide +kernel
theorem dX10_isWordAt_41 : decode cX10_isWordAt 41 = .ok (.iadd, 1) := by decide +kernel
theorem dX10_isWordAt_42 : decode cX10_isWordAt 42 = .ok (.invokevirtual 28, 3) := by decide +kernel
theorem dX10_isWordAt_45 : decode cX10_isWordAt 45 = .ok (.if_icmp .eq 5, 3) := by decide +kernel
theorem dX10_isWordAt_48 : decode cX10_isWordAt 48 = .ok (.iconst 0, 1) := by decide +kernel
theorem dX10_isWordAt_49 : decode cX10_isWordAt 49 = .ok (.ireturn, 1) := by decide +kernel
theorem dX10_isWordAt_50 : decode cX10_isWordAt 50 = .ok (.iinc 3 1, 3) := by decide +kernel
theorem dX10_isWordAt_53 : decode cX10_isWordAt 53 = .ok (.goto (-36), 3) := by decide +kernel
theorem dX10_isWordAt_56 : decode cX10_isWordAt 56 = .ok (.iconst 1, 1) := by decide +kernel
theorem dX10_isWordAt_57 : decode cX10_isWordAt 57 = .ok (.ireturn, 1) := by decide +kernel
theorem kSX10_isWordAt : yX10_isWordAt.cls ≠ "java/lang/invoke/MethodHandle" ∧ yX10_isWordAt.cls ≠ "java/lang/invoke/VarHandle" ∧ (parseMethodDescriptor yX10_isWordAt.desc).map (fun d => d.parameters.length) = some 2 := by decide +kernel
theorem kVX10_isWordAt : yX10_isWordAt.cls = RX10 ∧ yX10_isWordAt.cls ≠ "java/lang/invoke/MethodHandle" ∧ yX10_isWordAt.cls ≠ "java/lang/invoke/VarHandle" ∧ (parseMethodDescriptor yX10_isWordAt.desc).map (fun d => d.parameters.length) = some 2 := ⟨rfl, kSX10_isWordAt⟩
theorem dX10_readNumber_0 : decode cX10_readNumber 0 = .ok (.aload_n 0, 1) := by decide +kernel
theorem dX10_readNumber_1 : decode cX10_readNumber 1 = .ok (.iconst 0, 1) := by decide +kernel
theorem dX10_readNumber_2 : decode cX10_readNumber 2 = .ok (.putfield 61, 3) := by decide +kernel
theorem dX10_readNumber_5 : decode cX10_readNumber 5 = .ok (.aload_n 0, 1) := by decide +kernel
theorem dX10_readNumber_6 : decode cX10_readNumber 6 = .ok (.getfield 25, 3) := by decide +kernel
theorem dX10_readNumber_9 : decode cX10_readNumber 9 = .ok (.aload_n 0, 1) := by decide +kernel
theorem dX10_readNumber_10 : decode cX10_readNumber 10 = .ok (.getfield 18, 3) := by decide +kernel
theorem dX10_readNumber_13 : decode cX10_readNumber 13 = .ok (.if_icmp .ge 72, 3) := by decide +kernel
theorem dX10_readNumber_16 : decode cX10_readNumber 16 = .ok (.aload_n 0, 1) := by decide +kernel
theorem dX10_readNumber_17 : decode cX10_readNumber 17 = .ok (.getfield 14, 3) := by decide +kernel
theorem dX10_readNumber_20 : decode cX10_readNumber 20 = .ok (.aload_n 0, 1) := by decide +kernel
theorem dX10_readNumber_21 : decode cX10_readNumber 21 = .ok (.getfield 25, 3) := by decide +kernel
theorem dX10_readNumber_24 : decode cX10_readNumber 24 = .ok (.invokevirtual 28, 3) := by decide +kernel
theorem dX10_readNumber_27 : decode cX10_readNumber 27 = .ok (.invokestatic 48, 3) := by decide +kernel
theorem dX10_readNumber_30 : decode cX10_readNumber 30 = .ok (.ifCond .eq 55, 3) := by decide +kernel
theorem dX10_readNumber_33 : decode cX10_readNumber 33 = .ok (.aload_n 0, 1) := by decide +kernel
theorem dX10_readNumber_34 : decode cX10_readNumber 34 = .ok (.getfield 25, 3) := by decide +kernel
theorem dX10_readNumber_37 : decode cX10_readNumber 37 = .ok (.aload_n 0, 1) := by decide +kernel
theorem dX10_readNumber_38 : decode cX10_readNumber 38 = .ok (.getfield 36, 3) := by decide +kernel
theorem dX10_readNumber_41 : decode cX10_readNumber 41 = .ok (.isub, 1) := by decide +kernel
theorem dX10_readNumber_42 : decode cX10_readNumber 42 = .ok (.iconst 4, 1) := by decide +kernel
theorem dX10_readNumber_43 : decode cX10_readNumber 43 = .ok (.if_icmp .ge 29, 3) := by decide +kernel
theorem dX10_readNumber_46 : decode cX10_readNumber 46 = .ok (.aload_n 0, 1) := by decide +kernel
theorem dX10_readNumber_47 : decode cX10_readNumber 47 = .ok (.bipush 10, 2) := by decide +kernel
theorem dX10_readNumber_49 : decode cX10_readNumber 49 = .ok (.aload_n 0, 1) := by decide +kernel
theorem dX10_readNumber_50 : decode cX10_readNumber 50 = .ok (.getfield 61, 3) := by decide +kernel
theorem dX10_readNumber_53 : decode cX10_readNumber 53 = .ok (.imul, 1) := by decide +kernel
theorem dX10_readNumber_54 : decode cX10_readNumber 54 = .ok (.aload_n 0, 1) := by decide +kernel
theorem dX10_readNumber_55 : decode cX10_readNumber 55 = .ok (.getfield 14, 3) := by decide +kernel
theorem dX10_readNumber_58 : decode cX10_readNumber 58 = .ok (.aload_n 0, 1) := by decide +kernel
theorem dX10_readNumber_59 : decode cX10_readNumber 59 = .ok (.getfield 25, 3) := by decide +kernel
theorem dX10_readNumber_62 : decode cX10_readNumber 62 = .ok (.invokevirtual 28, 3) := by decide +kernel
theorem dX10_readNumber_65 : decode cX10_readNumber 65 = .ok (.iadd, 1) := by decide +kernel
theorem dX10_readNumber_66 : decode cX10_readNumber 66 = .ok (.bipush 48, 2) := by decide +kernel
theorem dX10_readNumber_68 : decode cX10_readNumber 68 = .ok (.isub, 1) := by decide +kernel
theorem dX10_readNumber_69 : decode cX10_readNumber 69 = .ok (.putfield 61, 3) := by decide +kernel
theorem dX10_readNumber_72 : decode cX10_readNumber 72 = .ok (.aload_n 0, 1) := by decide +kernel
theorem dX10_readNumber_73 : decode cX10_readNumber 73 = .ok (.dup, 1) := by decide +kernel
theorem dX10_readNumber_74 : decode cX10_readNumber 74 = .ok (.getfield 25, 3) := by decide +kernel
theorem dX10_readNumber_77 : decode cX10_readNumber 77 = .ok (.iconst 1, 1) := by decide +kernel
theorem dX10_readNumber_78 : decode cX10_readNumber 78 = .ok (.iadd, 1) := by decide +kernel
theorem dX10_readNumber_79 : decode cX10_readNumber 79 = .ok (.putfield 25, 3) := by decide +kernel
theorem dX10_readNumber_82 : decode cX10_readNumber 82 = .ok (.goto (-77), 3) := by decide +kernel
theorem dX10_readNumber_85 : decode cX10_readNumber 85 = .ok (.aload_n 0, 1) := by decide +kernel
theorem dX10_readNumber_86 : decode cX10_readNumber 86 = .ok (.aload_n 0, 1) := by decide +kernel
theorem dX10_readNumber_87 : decode cX10_readNumber 87 = .ok (.getfield 25, 3) := by decide +kernel
theorem dX10_readNumber_90 : decode cX10_readNumber 90 = .ok (.aload_n 0, 1) := by decide +kernel
theorem dX10_readNumber_91 : decode cX10_readNumber 91 = .ok (.getfield 36, 3) := by decide +kernel
theorem dX10_readNumber_94 : decode cX10_readNumber 94 = .ok (.isub, 1) := by decide +kernel
theorem dX10_readNumber_95 : decode cX10_readNumber 95 = .ok (.iconst 4, 1) := by decide +kernel
theorem dX10_readNumber_96 : decode cX10_readNumber 96 = .ok (.if_icmp .le 7, 3) := by decide +kernel
theorem dX10_readNumber_99 : decode cX10_readNumber 99 = .ok (.iconst 1, 1) := by decide +kernel
theorem dX10_readNumber_100 : decode cX10_readNumber 100 = .ok (.goto 4, 3) := by decide +kernel
theorem dX10_readNumber_103 : decode cX10_readNumber 103 = .ok (.iconst 3, 1) := by decide +kernel
theorem dX10_readNumber_104 : decode cX10_readNumber 104 = .ok (.putfield 39, 3) := by decide +kernel
theorem dX10_readNumber_107 : decode cX10_readNumber 107 = .ok (.return_, 1) := by decide +kernel
theorem kSX10_readNumber : yX10_readNumber.cls ≠ "java/lang/invoke/MethodHandle" ∧ yX10_readNumber.cls ≠ "java/lang/invoke/VarHandle" ∧ (parseMethodDescriptor yX10_readNumber.desc).map (fun d => d.parameters.length) = some 0 := by decide +kernel
theorem kVX10_readNumber : yX10_readNumber.cls = RX10 ∧ yX10_readNumber.cls ≠ "java/lang/invoke/MethodHandle" ∧ yX10_readNumber.cls ≠ "java/lang/invoke/VarHandle" ∧ (parseMethodDescriptor yX10_readNumber.desc).map (fun d => d.parameters.length) = some 0 := ⟨rfl, kSX10_readNumber⟩
theorem dX10_takeEqual_0 : decode cX10_takeEqual 0 = .ok (.aload_n 0, 1) := by decide +kernel
theorem dX10_takeEqual_1 : decode cX10_takeEqual 1 = .ok (.getfield 25, 3) := by decide +kernel
theorem dX10_takeEqual_4 : decode cX10_takeEqual 4 = .ok (.aload_n 0, 1) := by decide +kernel
theorem dX10_takeEqual_5 : decode cX10_takeEqual 5 = .ok (.getfield 18, 3) := by decide +kernel
theorem dX10_takeEqual_8 : decode cX10_takeEqual 8 = .ok (.if_icmp .ge 23, 3) := by decide +kernel
theorem dX10_takeEqual_11 : decode cX10_takeEqual 11 = .ok (.aload_n 0, 1) := by decide +kernel
theorem dX10_takeEqual_12 : decode cX10_takeEqual 12 = .ok (.getfield 14, 3) := by decide +kernel
theorem dX10_takeEqual_15 : decode cX10_takeEqual 15 = .ok (.aload_n 0, 1) := by decide +kernel
theorem dX10_takeEqual_16 : decode cX10_takeEqual 16 = .ok (.getfield 25, 3) := by decide +kernel
theorem dX10_takeEqual_19 : decode cX10_takeEqual 19 = .ok (.invokevirtual 28, 3) := by decide +kernel
theorem dX10_takeEqual_22 : decode cX10_takeEqual 22 = .ok (.bipush 61, 2) := by decide +kernel
theorem dX10_takeEqual_24 : decode cX10_takeEqual 24 = .ok (.if_icmp .ne 7, 3) := by decide +kernel
theorem dX10_takeEqual_27 : decode cX10_takeEqual 27 = .ok (.iconst 1, 1) := by decide +kernel
theorem dX10_takeEqual_28 : decode cX10_takeEqual 28 = .ok (.goto 4, 3) := by decide +kernel
theorem dX10_takeEqual_31 : decode cX10_takeEqual 31 = .ok (.iconst 0, 1) := by decide +kernel
theorem dX10_takeEqual_32 : decode cX10_takeEqual 32 = .ok (.istore_n 1, 1) := by decide +kernel
theorem dX10_takeEqual_33 : decode cX10_takeEqual 33 = .ok (.iload_n 1, 1) := by decide +kernel
theorem dX10_takeEqual_34 : decode cX10_takeEqual 34 = .ok (.ifCond .eq 13, 3) := by decide +kernel
theorem dX10_takeEqual_37 : decode cX10_takeEqual 37 = .ok (.aload_n 0, 1) := by decide +kernel
theorem dX10_takeEqual_38 : decode cX10_takeEqual 38 = .ok (.dup, 1) := by decide +kernel
theorem dX10_takeEqual_39 : decode cX10_takeEqual 39 = .ok (.getfield 25, 3) := by decide +kernel
theorem dX10_takeEqual_42 : decode cX10_takeEqual 42 = .ok (.iconst 1, 1) := by decide +kernel
theorem dX10_takeEqual_43 : decode cX10_takeEqual 43 = .ok (.iadd, 1) := by decide +kernel
theorem dX10_takeEqual_44 : decode cX10_takeEqual 44 = .ok (.putfield 25, 3) := by decide +kernel
theorem dX10_takeEqual_47 : decode cX10_takeEqual 47 = .ok (.iload_n 1, 1) := by decide +kernel
theorem dX10_takeEqual_48 : decode cX10_takeEqual 48 = .ok (.ireturn, 1) := by decide +kernel
theorem kSX10_takeEqual : yX10_takeEqual.cls ≠ "java/lang/invoke/MethodHandle" ∧ yX10_takeEqual.cls ≠ "java/lang/invoke/VarHandle" ∧ (parseMethodDescriptor yX10_takeEqual.desc).map (fun d => d.parameters.length) = some 0 := by decide +kernel
theorem kVX10_takeEqual : yX10_takeEqual.cls = RX10 ∧ yX10_takeEqual.cls ≠ "java/lang/invoke/MethodHandle" ∧ yX10_takeEqual.cls ≠ "java/lang/invoke/VarHandle" ∧ (parseMethodDescriptor yX10_takeEqual.desc).map (fun d => d.parameters.length) = some 0 := ⟨rfl, kSX10_takeEqual⟩
theorem dX10_tokenSize_0 : decode cX10_tokenSize 0 = .ok (.aload_n 0, 1) := by decide +kernel
theorem dX10_tokenSize_1 : decode cX10_tokenSize 1 = .ok (.getfield 25, 3) := by decide +kernel
theorem dX10_tokenSize_4 : decode cX10_tokenSize 4 = .ok (.aload_n 0, 1) := by decide +kernel
theorem dX10_tokenSize_5 : decode cX10_tokenSize 5 = .ok (.getfield 36, 3) := by decide +kernel
theorem dX10_tokenSize_8 : decode cX10_tokenSize 8 = .ok (.isub, 1) := by decide +kernel
theorem dX10_tokenSize_9 : decode cX10_tokenSize 9 = .ok (.ireturn, 1) := by decide +kernel
theorem kSX10_tokenSize : yX10_tokenSize.cls ≠ "java/lang/invoke/MethodHandle" ∧ yX10_tokenSize.cls ≠ "java/lang/invoke/VarHandle" ∧ (parseMethodDescriptor yX10_tokenSize.desc).map (fun d => d.parameters.length) = some 0 := by decide +kernel
theorem kVX10_tokenSize : yX10_tokenSize.cls = RX10 ∧ yX10_tokenSize.cls ≠ "java/lang/invoke/MethodHandle" ∧ yX10_tokenSize.cls ≠ "java/lang/invoke/VarHandle" ∧ (parseMethodDescriptor yX10_tokenSize.desc).map (fun d => d.parameters.length) = some 0 := ⟨rfl, kSX10_tokenSize⟩
theorem dX3_fighterOn_0 : decode cX3_fighterOn 0 = .ok (.iload_n 2, 1) := by decide +kernel
theorem dX3_fighterOn_1 : decode cX3_fighterOn 1 = .ok (.ifCond .ne 7, 3) := by decide +kernel
theorem dX3_fighterOn_4 : decode cX3_fighterOn 4 = .ok (.iconst 1, 1) := by decide +kernel
theorem dX3_fighterOn_5 : decode cX3_fighterOn 5 = .ok (.goto 4, 3) := by decide +kernel
theorem dX3_fighterOn_8 : decode cX3_fighterOn 8 = .ok (.iconst 2, 1) := by decide +kernel
theorem dX3_fighterOn_9 : decode cX3_fighterOn 9 = .ok (.istore_n 3, 1) := by decide +kernel
theorem dX3_fighterOn_10 : decode cX3_fighterOn 10 = .ok (.aload_n 0, 1) := by decide +kernel
theorem dX3_fighterOn_11 : decode cX3_fighterOn 11 = .ok (.getfield 9, 3) := by decide +kernel
theorem dX3_fighterOn_14 : decode cX3_fighterOn 14 = .ok (.aload_n 0, 1) := by decide +kernel
theorem dX3_fighterOn_15 : decode cX3_fighterOn 15 = .ok (.iload_n 1, 1) := by decide +kernel
theorem dX3_fighterOn_16 : decode cX3_fighterOn 16 = .ok (.iconst 0, 1) := by decide +kernel
theorem dX3_fighterOn_17 : decode cX3_fighterOn 17 = .ok (.invokevirtual 38, 3) := by decide +kernel
theorem dX3_fighterOn_20 : decode cX3_fighterOn 20 = .ok (.aload_n 0, 1) := by decide +kernel
theorem dX3_fighterOn_21 : decode cX3_fighterOn 21 = .ok (.iload_n 1, 1) := by decide +kernel
theorem dX3_fighterOn_22 : decode cX3_fighterOn 22 = .ok (.iconst 1, 1) := by decide +kernel
theorem dX3_fighterOn_23 : decode cX3_fighterOn 23 = .ok (.invokevirtual 38, 3) := by decide +kernel
theorem dX3_fighterOn_26 : decode cX3_fighterOn 26 = .ok (.iload_n 3, 1) := by decide +kernel
theorem dX3_fighterOn_27 : decode cX3_fighterOn 27 = .ok (.invokestatic 47, 3) := by decide +kernel
theorem dX3_fighterOn_30 : decode cX3_fighterOn 30 = .ok (.invokevirtual 34, 3) := by decide +kernel
theorem dX3_fighterOn_33 : decode cX3_fighterOn 33 = .ok (.ireturn, 1) := by decide +kernel
theorem kSX3_fighterOn : yX3_fighterOn.cls ≠ "java/lang/invoke/MethodHandle" ∧ yX3_fighterOn.cls ≠ "java/lang/invoke/VarHandle" ∧ (parseMethodDescriptor yX3_fighterOn.desc).map (fun d => d.parameters.length) = some 2 := by decide +kernel
theorem kVX3_fighterOn : yX3_fighterOn.cls = RX3 ∧ yX3_fighterOn.cls ≠ "java/lang/invoke/MethodHandle" ∧ yX3_fighterOn.cls ≠ "java/lang/invoke/VarHandle" ∧ (parseMethodDescriptor yX3_fighterOn.desc).map (fun d => d.parameters.length) = some 2 := ⟨rfl, kSX3_fighterOn⟩
theorem dX3_isHeld_0 : decode cX3_isHeld 0 = .ok (.iconst 0, 1) := by decide +kernel
theorem dX3_isHeld_1 : decode cX3_isHeld 1 = .ok (.istore_n 2, 1) := by decide +kernel
theorem dX3_isHeld_2 : decode cX3_isHeld 2 = .ok (.iload_n 2, 1) := by decide +kernel
theorem dX3_isHeld_3 : decode cX3_isHeld 3 = .ok (.iconst 4, 1) := by decide +kernel
theorem dX3_isHeld_4 : decode cX3_isHeld 4 = .ok (.if_icmp .ge 39, 3) := by decide +kernel
theorem dX3_isHeld_7 : decode cX3_isHeld 7 = .ok (.aload_n 0, 1) := by decide +kernel
theorem dX3_isHeld_8 : decode cX3_isHeld 8 = .ok (.iload_n 2, 1) := by decide +kernel
theorem dX3_isHeld_9 : decode cX3_isHeld 9 = .ok (.invokevirtual 41, 3) := by decide +kernel
theorem dX3_isHeld_12 : decode cX3_isHeld 12 = .ok (.ifCond .ne 25, 3) := by decide +kernel
theorem dX3_isHeld_15 : decode cX3_isHeld 15 = .ok (.aload_n 0, 1) := by decide +kernel
theorem dX3_isHeld_16 : decode cX3_isHeld 16 = .ok (.iload_n 2, 1) := by decide +kernel
theorem dX3_isHeld_17 : decode cX3_isHeld 17 = .ok (.iconst 0, 1) := by decide +kernel
theorem dX3_isHeld_18 : decode cX3_isHeld 18 = .ok (.invokevirtual 51, 3) := by decide +kernel
theorem dX3_isHeld_21 : decode cX3_isHeld 21 = .ok (.iload_n 1, 1) := by decide +kernel
theorem dX3_isHeld_22 : decode cX3_isHeld 22 = .ok (.if_icmp .eq 13, 3) := by decide +kernel
theorem dX3_isHeld_25 : decode cX3_isHeld 25 = .ok (.aload_n 0, 1) := by decide +kernel
theorem dX3_isHeld_26 : decode cX3_isHeld 26 = .ok (.iload_n 2, 1) := by decide +kernel
theorem dX3_isHeld_27 : decode cX3_isHeld 27 = .ok (.iconst 1, 1) := by decide +kernel
theorem dX3_isHeld_28 : decode cX3_isHeld 28 = .ok (.invokevirtual 51, 3) := by decide +kernel
theorem dX3_isHeld_31 : decode cX3_isHeld 31 = .ok (.iload_n 1, 1) := by decide +kernel
theorem dX3_isHeld_32 : decode cX3_isHeld 32 = .ok (.if_icmp .ne 5, 3) := by decide +kernel
theorem dX3_isHeld_35 : decode cX3_isHeld 35 = .ok (.iconst 1, 1) := by decide +kernel
theorem dX3_isHeld_36 : decode cX3_isHeld 36 = .ok (.ireturn, 1) := by decide +kernel
theorem dX3_isHeld_37 : decode cX3_isHeld 37 = .ok (.iinc 2 1, 3) := by decide +kernel
theorem dX3_isHeld_40 : decode cX3_isHeld 40 = .ok (.goto (-38), 3) := by decide +kernel
theorem dX3_isHeld_43 : decode cX3_isHeld 43 = .ok (.aload_n 0, 1) := by decide +kernel
theorem dX3_isHeld_44 : decode cX3_isHeld 44 = .ok (.getfield 9, 3) := by decide +kernel
theorem dX3_isHeld_47 : decode cX3_isHeld 47 = .ok (.iload_n 1, 1) := by decide +kernel
theorem dX3_isHeld_48 : decode cX3_isHeld 48 = .ok (.bipush 6, 2) := by decide +kernel
theorem dX3_isHeld_50 : decode cX3_isHeld 50 = .ok (.invokestatic 54, 3) := by decide +kernel
theorem dX3_isHeld_53 : decode cX3_isHeld 53 = .ok (.invokevirtual 34, 3) := by decide +kernel
theorem dX3_isHeld_56 : decode cX3_isHeld 56 = .ok (.istore_n 2, 1) := by decide +kernel
theorem dX3_isHeld_57 : decode cX3_isHeld 57 = .ok (.iload_n 2, 1) := by decide +kernel
theorem dX3_isHeld_58 : decode cX3_isHeld 58 = .ok (.iconst (-1), 1) := by decide +kernel
theorem dX3_isHeld_59 : decode cX3_isHeld 59 = .ok (.if_icmp .eq 28, 3) := by decide +kernel
theorem dX3_isHeld_62 : decode cX3_isHeld 62 = .ok (.aload_n 0, 1) := by decide +kernel
theorem dX3_isHeld_63 : decode cX3_isHeld 63 = .ok (.getfield 9, 3) := by decide +kernel
theorem dX3_isHeld_66 : decode cX3_isHeld 66 = .ok (.iconst 0, 1) := by decide +kernel
theorem dX3_isHeld_67 : decode cX3_isHeld 67 = .ok (.invokevirtual 34, 3) := by decide +kernel
theorem dX3_isHeld_70 : decode cX3_isHeld 70 = .ok (.iload_n 2, 1) := by decide +kernel
theorem dX3_isHeld_71 : decode cX3_isHeld 71 = .ok (.aload_n 0, 1) := by decide +kernel
theorem dX3_isHeld_72 : decode cX3_isHeld 72 = .ok (.getfield 9, 3) := by decide +kernel
theorem dX3_isHeld_75 : decode cX3_isHeld 75 = .ok (.iconst 1, 1) := by decide +kernel
theorem dX3_isHeld_76 : decode cX3_isHeld 76 = .ok (.invokevirtual 34, 3) := by decide +kernel
theorem dX3_isHeld_79 : decode cX3_isHeld 79 = .ok (.iadd, 1) := by decide +kernel
theorem dX3_isHeld_80 : decode cX3_isHeld 80 = .ok (.if_icmp .ge 7, 3) := by decide +kernel
theorem dX3_isHeld_83 : decode cX3_isHeld 83 = .ok (.iconst 1, 1) := by decide +kernel
theorem dX3_isHeld_84 : decode cX3_isHeld 84 = .ok (.goto 4, 3) := by decide +kernel
theorem dX3_isHeld_87 : decode cX3_isHeld 87 = .ok (.iconst 0, 1) := by decide +kernel
theorem dX3_isHeld_88 : decode cX3_isHeld 88 = .ok (.ireturn, 1) := by decide +kernel
theorem kSX3_isHeld : yX3_isHeld.cls ≠ "java/lang/invoke/MethodHandle" ∧ yX3_isHeld.cls ≠ "java/lang/invoke/VarHandle" ∧ (parseMethodDescriptor yX3_isHeld.desc).map (fun d => d.parameters.length) = some 1 := by decide +kernel
theorem kVX3_isHeld : yX3_isHeld.cls = RX3 ∧ yX3_isHeld.cls ≠ "java/lang/invoke/MethodHandle" ∧ yX3_isHeld.cls ≠ "java/lang/invoke/VarHandle" ∧ (parseMethodDescriptor yX3_isHeld.desc).map (fun d => d.parameters.length) = some 1 := ⟨rfl, kSX3_isHeld⟩
theorem dX4_emit_0 : decode cX4_emit 0 = .ok (.aload_n 0, 1) := by decide +kernel
theorem dX4_emit_1 : decode cX4_emit 1 = .ok (.getfield 14, 3) := by decide +kernel
theorem dX4_emit_4 : decode cX4_emit 4 = .ok (.aload_n 0, 1) := by decide +kernel
theorem dX4_emit_5 : decode cX4_emit 5 = .ok (.getfield 40, 3) := by decide +kernel
theorem dX4_emit_8 : decode cX4_emit 8 = .ok (.iload_n 1, 1) := by decide +kernel
theorem dX4_emit_9 : decode cX4_emit 9 = .ok (.sipush 10000, 3) := by decide +kernel
theorem dX4_emit_12 : decode cX4_emit 12 = .ok (.imul, 1) := by decide +kernel
theorem dX4_emit_13 : decode cX4_emit 13 = .ok (.iload_n 2, 1) := by decide +kernel
theorem dX4_emit_14 : decode cX4_emit 14 = .ok (.iadd, 1) := by decide +kernel
theorem dX4_emit_15 : decode cX4_emit 15 = .ok (.invokevirtual 43, 3) := by decide +kernel
theorem dX4_emit_18 : decode cX4_emit 18 = .ok (.aload_n 0, 1) := by decide +kernel
theorem dX4_emit_19 : decode cX4_emit 19 = .ok (.dup, 1) := by decide +kernel
theorem dX4_emit_20 : decode cX4_emit 20 = .ok (.getfield 40, 3) := by decide +kernel
theorem dX4_emit_23 : decode cX4_emit 23 = .ok (.iconst 1, 1) := by decide +kernel
theorem dX4_emit_24 : decode cX4_emit 24 = .ok (.iadd, 1) := by decide +kernel
theorem dX4_emit_25 : decode cX4_emit 25 = .ok (.putfield 40, 3) := by decide +kernel
theorem dX4_emit_28 : decode cX4_emit 28 = .ok (.return_, 1) := by decide +kernel
theorem kSX4_emit : yX4_emit.cls ≠ "java/lang/invoke/MethodHandle" ∧ yX4_emit.cls ≠ "java/lang/invoke/VarHandle" ∧ (parseMethodDescriptor yX4_emit.desc).map (fun d => d.parameters.length) = some 2 := by decide +kernel
theorem kVX4_emit : yX4_emit.cls = RX4 ∧ yX4_emit.cls ≠ "java/lang/invoke/MethodHandle" ∧ yX4_emit.cls ≠ "java/lang/invoke/VarHandle" ∧ (parseMethodDescriptor yX4_emit.desc).map (fun d => d.parameters.length) = some 2 := ⟨rfl, kSX4_emit⟩
theorem dX4_endLine_0 : decode cX4_endLine 0 = .ok (.aload_n 0, 1) := by decide +kernel
theorem dX4_endLine_1 : decode cX4_endLine 1 = .ok (.getfield 18, 3) := by decide +kernel
theorem dX4_endLine_4 : decode cX4_endLine 4 = .ok (.aload_n 0, 1) := by decide +kernel
theorem dX4_endLine_5 : decode cX4_endLine 5 = .ok (.getfield 34, 3) := by decide +kernel
theorem dX4_endLine_8 : decode cX4_endLine 8 = .ok (.aload_n 0, 1) := by decide +kernel
theorem dX4_endLine_9 : decode cX4_endLine 9 = .ok (.getfield 40, 3) := by decide +kernel
theorem dX4_endLine_12 : decode cX4_endLine 12 = .ok (.invokevirtual 43, 3) := by decide +kernel
theorem dX4_endLine_15 : decode cX4_endLine 15 = .ok (.aload_n 0, 1) := by decide +kernel
theorem dX4_endLine_16 : decode cX4_endLine 16 = .ok (.dup, 1) := by decide +kernel
theorem dX4_endLine_17 : decode cX4_endLine 17 = .ok (.getfield 34, 3) := by decide +kernel
theorem dX4_endLine_20 : decode cX4_endLine 20 = .ok (.iconst 1, 1) := by decide +kernel
theorem dX4_endLine_21 : decode cX4_endLine 21 = .ok (.iadd, 1) := by decide +kernel
theorem dX4_endLine_22 : decode cX4_endLine 22 = .ok (.putfield 34, 3) := by decide +kernel
theorem dX4_endLine_25 : decode cX4_endLine 25 = .ok (.return_, 1) := by decide +kernel
theorem kSX4_endLine : yX4_endLine.cls ≠ "java/lang/invoke/MethodHandle" ∧ yX4_endLine.cls ≠ "java/lang/invoke/VarHandle" ∧ (parseMethodDescriptor yX4_endLine.desc).map (fun d => d.parameters.length) = some 0 := by decide +kernel
theorem kVX4_endLine : yX4_endLine.cls = RX4 ∧ yX4_endLine.cls ≠ "java/lang/invoke/MethodHandle" ∧ yX4_endLine.cls ≠ "java/lang/invoke/VarHandle" ∧ (parseMethodDescriptor yX4_endLine.desc).map (fun d => d.parameters.length) = some 0 := ⟨rfl, kSX4_endLine⟩
theorem dX4_kindAt_0 : decode cX4_kindAt 0 = .ok (.aload_n 0, 1) := by decide +kernel
theorem dX4_kindAt_1 : decode cX4_kindAt 1 = .ok (.getfield 14, 3) := by decide +kernel
theorem dX4_kindAt_4 : decode cX4_kindAt 4 = .ok (.iload_n 1, 1) := by decide +kernel
theorem dX4_kindAt_5 : decode cX4_kindAt 5 = .ok (.invokevirtual 46, 3) := by decide +kernel
theorem dX4_kindAt_8 : decode cX4_kindAt 8 = .ok (.sipush 10000, 3) := by decide +kernel
theorem dX4_kindAt_11 : decode cX4_kindAt 11 = .ok (.idiv, 1) := by decide +kernel
theorem dX4_kindAt_12 : decode cX4_kindAt 12 = .ok (.ireturn, 1) := by decide +kernel
theorem kSX4_kindAt : yX4_kindAt.cls ≠ "java/lang/invoke/MethodHandle" ∧ yX4_kindAt.cls ≠ "java/lang/invoke/VarHandle" ∧ (parseMethodDescriptor yX4_kindAt.desc).map (fun d => d.parameters.length) = some 1 := by decide +kernel
theorem kVX4_kindAt : yX4_kindAt.cls = RX4 ∧ yX4_kindAt.cls ≠ "java/lang/invoke/MethodHandle" ∧ yX4_kindAt.cls ≠ "java/lang/invoke/VarHandle" ∧ (parseMethodDescriptor yX4_kindAt.desc).map (fun d => d.parameters.length) = some 1 := ⟨rfl, kSX4_kindAt⟩
theorem dX4_startOf_0 : decode cX4_startOf 0 = .ok (.iload_n 1, 1) := by decide +kernel
theorem dX4_startOf_1 : decode cX4_startOf 1 = .ok (.ifCond .ne 7, 3) := by decide +kernel
theorem dX4_startOf_4 : decode cX4_startOf 4 = .ok (.iconst 0, 1) := by decide +kernel
theorem dX4_startOf_5 : decode cX4_startOf 5 = .ok (.goto 13, 3) := by decide +kernel
theorem dX4_startOf_8 : decode cX4_startOf 8 = .ok (.aload_n 0, 1) := by decide +kernel
theorem dX4_startOf_9 : decode cX4_startOf 9 = .ok (.getfield 18, 3) := by decide +kernel
theorem dX4_startOf_12 : decode cX4_startOf 12 = .ok (.iload_n 1, 1) := by decide +kernel
theorem dX4_startOf_13 : decode cX4_startOf 13 = .ok (.iconst 1, 1) := by decide +kernel
theorem dX4_startOf_14 : decode cX4_startOf 14 = .ok (.isub, 1) := by decide +kernel
theorem dX4_startOf_15 : decode cX4_startOf 15 = .ok (.invokevirtual 46, 3) := by decide +kernel
theorem dX4_startOf_18 : decode cX4_startOf 18 = .ok (.ireturn, 1) := by decide +kernel
theorem kSX4_startOf : yX4_startOf.cls ≠ "java/lang/invoke/MethodHandle" ∧ yX4_startOf.cls ≠ "java/lang/invoke/VarHandle" ∧ (parseMethodDescriptor yX4_startOf.desc).map (fun d => d.parameters.length) = some 1 := by decide +kernel
theorem kVX4_startOf : yX4_startOf.cls = RX4 ∧ yX4_startOf.cls ≠ "java/lang/invoke/MethodHandle" ∧ yX4_startOf.cls ≠ "java/lang/invoke/VarHandle" ∧ (parseMethodDescriptor yX4_startOf.desc).map (fun d => d.parameters.length) = some 1 := ⟨rfl, kSX4_startOf⟩
theorem dX4_valueAt_0 : decode cX4_valueAt 0 = .ok (.aload_n 0, 1) := by decide +kernel
theorem dX4_valueAt_1 : decode cX4_valueAt 1 = .ok (.getfield 14, 3) := by decide +kernel
theorem dX4_valueAt_4 : decode cX4_valueAt 4 = .ok (.iload_n 1, 1) := by decide +kernel
theorem dX4_valueAt_5 : decode cX4_valueAt 5 = .ok (.invokevirtual 46, 3) := by decide +kernel
theorem dX4_valueAt_8 : decode cX4_valueAt 8 = .ok (.sipush 10000, 3) := by decide +kernel
theorem dX4_valueAt_11 : decode cX4_valueAt 11 = .ok (.irem, 1) := by decide +kernel
theorem dX4_valueAt_12 : decode cX4_valueAt 12 = .ok (.ireturn, 1) := by decide +kernel
theorem kSX4_valueAt : yX4_valueAt.cls ≠ "java/lang/invoke/MethodHandle" ∧ yX4_valueAt.cls ≠ "java/lang/invoke/VarHandle" ∧ (parseMethodDescriptor yX4_valueAt.desc).map (fun d => d.parameters.length) = some 1 := by decide +kernel
theorem kVX4_valueAt : yX4_valueAt.cls = RX4 ∧ yX4_valueAt.cls ≠ "java/lang/invoke/MethodHandle" ∧ yX4_valueAt.cls ≠ "java/lang/invoke/VarHandle" ∧ (parseMethodDescriptor yX4_valueAt.desc).map (fun d => d.parameters.length) = some 1 := ⟨rfl, kSX4_valueAt⟩
theorem dX5_emitTerm_0 : decode cX5_emitTerm 0 = .ok (.aload_n 0, 1) := by decide +kernel
theorem dX5_emitTerm_1 : decode cX5_emitTerm 1 = .ok (.getfield 33, 3) := by decide +kernel
theorem dX5_emitTerm_4 : decode cX5_emitTerm 4 = .ok (.iload_n 1, 1) := by decide +kernel
theorem dX5_emitTerm_5 : decode cX5_emitTerm 5 = .ok (.iload_n 2, 1) := by decide +kernel
theorem dX5_emitTerm_6 : decode cX5_emitTerm 6 = .ok (.invokevirtual 169, 3) := by decide +kernel
theorem dX5_emitTerm_9 : decode cX5_emitTerm 9 = .ok (.aload_n 0, 1) := by decide +kernel
theorem dX5_emitTerm_10 : decode cX5_emitTerm 10 = .ok (.getfield 160, 3) := by decide +kernel
theorem dX5_emitTerm_13 : decode cX5_emitTerm 13 = .ok (.ifCond .eq 15, 3) := by decide +kernel
theorem dX5_emitTerm_16 : decode cX5_emitTerm 16 = .ok (.aload_n 0, 1) := by decide +kernel
theorem dX5_emitTerm_17 : decode cX5_emitTerm 17 = .ok (.getfield 33, 3) := by decide +kernel
theorem dX5_emitTerm_20 : decode cX5_emitTerm 20 = .ok (.aload_n 0, 1) := by decide +kernel
theorem dX5_emitTerm_21 : decode cX5_emitTerm 21 = .ok (.getfield 160, 3) := by decide +kernel
theorem dX5_emitTerm_24 : decode cX5_emitTerm 24 = .ok (.iconst 0, 1) := by decide +kernel
theorem dX5_emitTerm_25 : decode cX5_emitTerm 25 = .ok (.invokevirtual 169, 3) := by decide +kernel
theorem dX5_emitTerm_28 : decode cX5_emitTerm 28 = .ok (.aload_n 0, 1) := by decide +kernel
theorem dX5_emitTerm_29 : decode cX5_emitTerm 29 = .ok (.iconst 0, 1) := by decide +kernel
theorem dX5_emitTerm_30 : decode cX5_emitTerm 30 = .ok (.putfield 160, 3) := by decide +kernel
theorem dX5_emitTerm_33 : decode cX5_emitTerm 33 = .ok (.return_, 1) := by decide +kernel
theorem kSX5_emitTerm : yX5_emitTerm.cls ≠ "java/lang/invoke/MethodHandle" ∧ yX5_emitTerm.cls ≠ "java/lang/invoke/VarHandle" ∧ (parseMethodDescriptor yX5_emitTerm.desc).map (fun d => d.parameters.length) = some 2 := by decide +kernel
theorem kVX5_emitTerm : yX5_emitTerm.cls = RX5 ∧ yX5_emitTerm.cls ≠ "java/lang/invoke/MethodHandle" ∧ yX5_emitTerm.cls ≠ "java/lang/invoke/VarHandle" ∧ (parseMethodDescriptor yX5_emitTerm.desc).map (fun d => d.parameters.length) = some 2 := ⟨rfl, kSX5_emitTerm⟩
theorem dX5_goIfRoom_0 : decode cX5_goIfRoom 0 = .ok (.iload_n 1, 1) := by decide +kernel
theorem dX5_goIfRoom_1 : decode cX5_goIfRoom 1 = .ok (.ifCond .eq 11, 3) := by decide +kernel
theorem dX5_goIfRoom_4 : decode cX5_goIfRoom 4 = .ok (.aload_n 0, 1) := by decide +kernel
theorem dX5_goIfRoom_5 : decode cX5_goIfRoom 5 = .ok (.iload_n 2, 1) := by decide +kernel
theorem dX5_goIfRoom_6 : decode cX5_goIfRoom 6 = .ok (.putfield 52, 3) := by decide +kernel
theorem dX5_goIfRoom_9 : decode cX5_goIfRoom 9 = .ok (.goto 8, 3) := by decide +kernel
theorem dX5_goIfRoom_12 : decode cX5_goIfRoom 12 = .ok (.aload_n 0, 1) := by decide +kernel
theorem dX5_goIfRoom_13 : decode cX5_goIfRoom 13 = .ok (.iconst 3, 1) := by decide +kernel
theorem dX5_goIfRoom_14 : decode cX5_goIfRoom 14 = .ok (.invokevirtual 118, 3) := by decide +kernel
theorem dX5_goIfRoom_17 : decode cX5_goIfRoom 17 = .ok (.return_, 1) := by decide +kernel
theorem kSX5_goIfRoom : yX5_goIfRoom.cls ≠ "java/lang/invoke/MethodHandle" ∧ yX5_goIfRoom.cls ≠ "java/lang/invoke/VarHandle" ∧ (parseMethodDescriptor yX5_goIfRoom.desc).map (fun d => d.parameters.length) = some 2 := by decide +kernel
theorem kVX5_goIfRoom : yX5_goIfRoom.cls = RX5 ∧ yX5_goIfRoom.cls ≠ "java/lang/invoke/MethodHandle" ∧ yX5_goIfRoom.cls ≠ "java/lang/invoke/VarHandle" ∧ (parseMethodDescriptor yX5_goIfRoom.desc).map (fun d => d.parameters.length) = some 2 := ⟨rfl, kSX5_goIfRoom⟩
theorem dX5_hold_0 : decode cX5_hold 0 = .ok (.aload_n 0, 1) := by decide +kernel
theorem dX5_hold_1 : decode cX5_hold 1 = .ok (.getfield 29, 3) := by decide +kernel
theorem dX5_hold_4 : decode cX5_hold 4 = .ok (.aload_n 0, 1) := by decide +kernel
theorem dX5_hold_5 : decode cX5_hold 5 = .ok (.getfield 55, 3) := by decide +kernel
theorem dX5_hold_8 : decode cX5_hold 8 = .ok (.iload_n 1, 1) := by decide +kernel
theorem dX5_hold_9 : decode cX5_hold 9 = .ok (.invokevirtual 142, 3) := by decide +kernel
theorem dX5_hold_12 : decode cX5_hold 12 = .ok (.aload_n 0, 1) := by decide +kernel
theorem dX5_hold_13 : decode cX5_hold 13 = .ok (.dup, 1) := by decide +kernel
theorem dX5_hold_14 : decode cX5_hold 14 = .ok (.getfield 55, 3) := by decide +kernel
theorem dX5_hold_17 : decode cX5_hold 17 = .ok (.iconst 1, 1) := by decide +kernel
theorem dX5_hold_18 : decode cX5_hold 18 = .ok (.iadd, 1) := by decide +kernel
theorem dX5_hold_19 : decode cX5_hold 19 = .ok (.putfield 55, 3) := by decide +kernel
theorem dX5_hold_22 : decode cX5_hold 22 = .ok (.return_, 1) := by decide +kernel
theorem kSX5_hold : yX5_hold.cls ≠ "java/lang/invoke/MethodHandle" ∧ yX5_hold.cls ≠ "java/lang/invoke/VarHandle" ∧ (parseMethodDescriptor yX5_hold.desc).map (fun d => d.parameters.length) = some 1 := by decide +kernel
theorem kVX5_hold : yX5_hold.cls = RX5 ∧ yX5_hold.cls ≠ "java/lang/invoke/MethodHandle" ∧ yX5_hold.cls ≠ "java/lang/invoke/VarHandle" ∧ (parseMethodDescriptor yX5_hold.desc).map (fun d => d.parameters.length) = some 1 := ⟨rfl, kSX5_hold⟩
theorem dX5_openThing_0 : decode cX5_openThing 0 = .ok (.aload_n 0, 1) := by decide +kernel
theorem dX5_openThing_1 : decode cX5_openThing 1 = .ok (.getfield 58, 3) := by decide +kernel
theorem dX5_openThing_4 : decode cX5_openThing 4 = .ok (.bipush 8, 2) := by decide +kernel
theorem dX5_openThing_6 : decode cX5_openThing 6 = .ok (.if_icmp .lt 11, 3) := by decide +kernel
theorem dX5_openThing_9 : decode cX5_openThing 9 = .ok (.aload_n 0, 1) := by decide +kernel
theorem dX5_openThing_10 : decode cX5_openThing 10 = .ok (.iconst 3, 1) := by decide +kernel
theorem dX5_openThing_11 : decode cX5_openThing 11 = .ok (.invokevirtual 118, 3) := by decide +kernel
theorem dX5_openThing_14 : decode cX5_openThing 14 = .ok (.goto 18, 3) := by decide +kernel
theorem dX5_openThing_17 : decode cX5_openThing 17 = .ok (.aload_n 0, 1) := by decide +kernel
theorem dX5_openThing_18 : decode cX5_openThing 18 = .ok (.dup, 1) := by decide +kernel
theorem dX5_openThing_19 : decode cX5_openThing 19 = .ok (.getfield 58, 3) := by decide +kernel
theorem dX5_openThing_22 : decode cX5_openThing 22 = .ok (.iconst 1, 1) := by decide +kernel
theorem dX5_openThing_23 : decode cX5_openThing 23 = .ok (.iadd, 1) := by decide +kernel
theorem dX5_openThing_24 : decode cX5_openThing 24 = .ok (.putfield 58, 3) := by decide +kernel
theorem dX5_openThing_27 : decode cX5_openThing 27 = .ok (.aload_n 0, 1) := by decide +kernel
theorem dX5_openThing_28 : decode cX5_openThing 28 = .ok (.iload_n 1, 1) := by decide +kernel
theorem dX5_openThing_29 : decode cX5_openThing 29 = .ok (.invokevirtual 178, 3) := by decide +kernel
theorem dX5_openThing_32 : decode cX5_openThing 32 = .ok (.return_, 1) := by decide +kernel
theorem kSX5_openThing : yX5_openThing.cls ≠ "java/lang/invoke/MethodHandle" ∧ yX5_openThing.cls ≠ "java/lang/invoke/VarHandle" ∧ (parseMethodDescriptor yX5_openThing.desc).map (fun d => d.parameters.length) = some 1 := by decide +kernel
theorem kVX5_openThing : yX5_openThing.cls = RX5 ∧ yX5_openThing.cls ≠ "java/lang/invoke/MethodHandle" ∧ yX5_openThing.cls ≠ "java/lang/invoke/VarHandle" ∧ (parseMethodDescriptor yX5_openThing.desc).map (fun d => d.parameters.length) = some 1 := ⟨rfl, kSX5_openThing⟩
theorem dX5_takePart_0 : decode cX5_takePart 0 = .ok (.aload_n 0, 1) := by decide +kernel
theorem dX5_takePart_1 : decode cX5_takePart 1 = .ok (.aload_n 0, 1) := by decide +kernel
theorem dX5_takePart_2 : decode cX5_takePart 2 = .ok (.getfield 33, 3) := by decide +kernel
theorem dX5_takePart_5 : decode cX5_takePart 5 = .ok (.getfield 175, 3) := by decide +kernel
theorem dX5_takePart_8 : decode cX5_takePart 8 = .ok (.sipush 300, 3) := by decide +kernel
theorem dX5_takePart_11 : decode cX5_takePart 11 = .ok (.if_icmp .ge 7, 3) := by decide +kernel
theorem dX5_takePart_14 : decode cX5_takePart 14 = .ok (.iconst 1, 1) := by decide +kernel
theorem dX5_takePart_15 : decode cX5_takePart 15 = .ok (.goto 4, 3) := by decide +kernel
theorem dX5_takePart_18 : decode cX5_takePart 18 = .ok (.iconst 0, 1) := by decide +kernel
theorem dX5_takePart_19 : decode cX5_takePart 19 = .ok (.iload_n 1, 1) := by decide +kernel
theorem dX5_takePart_20 : decode cX5_takePart 20 = .ok (.invokevirtual 133, 3) := by decide +kernel
theorem dX5_takePart_23 : decode cX5_takePart 23 = .ok (.aload_n 0, 1) := by decide +kernel
theorem dX5_takePart_24 : decode cX5_takePart 24 = .ok (.getfield 49, 3) := by decide +kernel
theorem dX5_takePart_27 : decode cX5_takePart 27 = .ok (.ifCond .ne 16, 3) := by decide +kernel
theorem dX5_takePart_30 : decode cX5_takePart 30 = .ok (.aload_n 0, 1) := by decide +kernel
theorem dX5_takePart_31 : decode cX5_takePart 31 = .ok (.getfield 33, 3) := by decide +kernel
theorem dX5_takePart_34 : decode cX5_takePart 34 = .ok (.dup, 1) := by decide +kernel
theorem dX5_takePart_35 : decode cX5_takePart 35 = .ok (.getfield 175, 3) := by decide +kernel
theorem dX5_takePart_38 : decode cX5_takePart 38 = .ok (.iconst 1, 1) := by decide +kernel
theorem dX5_takePart_39 : decode cX5_takePart 39 = .ok (.iadd, 1) := by decide +kernel
theorem dX5_takePart_40 : decode cX5_takePart 40 = .ok (.putfield 175, 3) := by decide +kernel
theorem dX5_takePart_43 : decode cX5_takePart 43 = .ok (.return_, 1) := by decide +kernel
theorem kSX5_takePart : yX5_takePart.cls ≠ "java/lang/invoke/MethodHandle" ∧ yX5_takePart.cls ≠ "java/lang/invoke/VarHandle" ∧ (parseMethodDescriptor yX5_takePart.desc).map (fun d => d.parameters.length) = some 1 := by decide +kernel
theorem kVX5_takePart : yX5_takePart.cls = RX5 ∧ yX5_takePart.cls ≠ "java/lang/invoke/MethodHandle" ∧ yX5_takePart.cls ≠ "java/lang/invoke/VarHandle" ∧ (parseMethodDescriptor yX5_takePart.desc).map (fun d => d.parameters.length) = some 1 := ⟨rfl, kSX5_takePart⟩
theorem dX7_aheadOf_0 : decode cX7_aheadOf 0 = .ok (.iconst 0, 1) := by decide +kernel
theorem dX7_aheadOf_1 : decode cX7_aheadOf 1 = .ok (.istore_n 3, 1) := by decide +kernel
theorem dX7_aheadOf_2 : decode cX7_aheadOf 2 = .ok (.iconst 0, 1) := by decide +kernel
theorem dX7_aheadOf_3 : decode cX7_aheadOf 3 = .ok (.istore 4, 2) := by decide +kernel
theorem dX7_aheadOf_5 : decode cX7_aheadOf 5 = .ok (.iconst 0, 1) := by decide +kernel
theorem dX7_aheadOf_6 : decode cX7_aheadOf 6 = .ok (.istore 5, 2) := by decide +kernel
theorem dX7_aheadOf_8 : decode cX7_aheadOf 8 = .ok (.iload 5, 2) := by decide +kernel
theorem dX7_aheadOf_10 : decode cX7_aheadOf 10 = .ok (.aload_n 0, 1) := by decide +kernel
theorem dX7_aheadOf_11 : decode cX7_aheadOf 11 = .ok (.getfield 15, 3) := by decide +kernel
theorem dX7_aheadOf_14 : decode cX7_aheadOf 14 = .ok (.iload_n 1, 1) := by decide +kernel
theorem dX7_aheadOf_15 : decode cX7_aheadOf 15 = .ok (.invokevirtual 31, 3) := by decide +kernel
theorem dX7_aheadOf_18 : decode cX7_aheadOf 18 = .ok (.if_icmp .ge 34, 3) := by decide +kernel
theorem dX7_aheadOf_21 : decode cX7_aheadOf 21 = .ok (.iload 4, 2) := by decide +kernel
theorem dX7_aheadOf_23 : decode cX7_aheadOf 23 = .ok (.aload_n 0, 1) := by decide +kernel
theorem dX7_aheadOf_24 : decode cX7_aheadOf 24 = .ok (.aload_n 0, 1) := by decide +kernel
theorem dX7_aheadOf_25 : decode cX7_aheadOf 25 = .ok (.iload_n 1, 1) := by decide +kernel
theorem dX7_aheadOf_26 : decode cX7_aheadOf 26 = .ok (.iload 5, 2) := by decide +kernel
theorem dX7_aheadOf_28 : decode cX7_aheadOf 28 = .ok (.invokevirtual 54, 3) := by decide +kernel
theorem dX7_aheadOf_31 : decode cX7_aheadOf 31 = .ok (.iload_n 2, 1) := by decide +kernel
theorem dX7_aheadOf_32 : decode cX7_aheadOf 32 = .ok (.invokevirtual 81, 3) := by decide +kernel
theorem dX7_aheadOf_35 : decode cX7_aheadOf 35 = .ok (.ifCond .eq 7, 3) := by decide +kernel
theorem dX7_aheadOf_38 : decode cX7_aheadOf 38 = .ok (.iconst 1, 1) := by decide +kernel
theorem dX7_aheadOf_39 : decode cX7_aheadOf 39 = .ok (.goto 4, 3) := by decide +kernel
theorem dX7_aheadOf_42 : decode cX7_aheadOf 42 = .ok (.iconst 0, 1) := by decide +kernel
theorem dX7_aheadOf_43 : decode cX7_aheadOf 43 = .ok (.iadd, 1) := by decide +kernel
theorem dX7_aheadOf_44 : decode cX7_aheadOf 44 = .ok (.istore 4, 2) := by decide +kernel
theorem dX7_aheadOf_46 : decode cX7_aheadOf 46 = .ok (.iinc 5 1, 3) := by decide +kernel
theorem dX7_aheadOf_49 : decode cX7_aheadOf 49 = .ok (.goto (-41), 3) := by decide +kernel
theorem dX7_aheadOf_52 : decode cX7_aheadOf 52 = .ok (.iconst 0, 1) := by decide +kernel
theorem dX7_aheadOf_53 : decode cX7_aheadOf 53 = .ok (.istore 5, 2) := by decide +kernel
theorem dX7_aheadOf_55 : decode cX7_aheadOf 55 = .ok (.iload 5, 2) := by decide +kernel
theorem dX7_aheadOf_57 : decode cX7_aheadOf 57 = .ok (.aload_n 0, 1) := by decide +kernel
theorem dX7_aheadOf_58 : decode cX7_aheadOf 58 = .ok (.getfield 15, 3) := by decide +kernel
theorem dX7_aheadOf_61 : decode cX7_aheadOf 61 = .ok (.iload_n 1, 1) := by decide +kernel
theorem dX7_aheadOf_62 : decode cX7_aheadOf 62 = .ok (.invokevirtual 31, 3) := by decide +kernel
theorem dX7_aheadOf_65 : decode cX7_aheadOf 65 = .ok (.if_icmp .ge 76, 3) := by decide +kernel
theorem dX7_aheadOf_68 : decode cX7_aheadOf 68 = .ok (.aload_n 0, 1) := by decide +kernel
theorem dX7_aheadOf_69 : decode cX7_aheadOf 69 = .ok (.iload_n 1, 1) := by decide +kernel
theorem dX7_aheadOf_70 : decode cX7_aheadOf 70 = .ok (.iload 5, 2) := by decide +kernel
theorem dX7_aheadOf_72 : decode cX7_aheadOf 72 = .ok (.invokevirtual 54, 3) := by decide +kernel
theorem dX7_aheadOf_75 : decode cX7_aheadOf 75 = .ok (.istore 6, 2) := by decide +kernel
theorem dX7_aheadOf_77 : decode cX7_aheadOf 77 = .ok (.aload_n 0, 1) := by decide +kernel
theorem dX7_aheadOf_78 : decode cX7_aheadOf 78 = .ok (.iload 6, 2) := by decide +kernel
theorem dX7_aheadOf_80 : decode cX7_aheadOf 80 = .ok (.iload_n 2, 1) := by decide +kernel
theorem dX7_aheadOf_81 : decode cX7_aheadOf 81 = .ok (.invokevirtual 81, 3) := by decide +kernel
theorem dX7_aheadOf_84 : decode cX7_aheadOf 84 = .ok (.ifCond .eq 33, 3) := by decide +kernel
theorem dX7_aheadOf_87 : decode cX7_aheadOf 87 = .ok (.iload_n 3, 1) := by decide +kernel
theorem dX7_aheadOf_88 : decode cX7_aheadOf 88 = .ok (.iload 6, 2) := by decide +kernel
theorem dX7_aheadOf_90 : decode cX7_aheadOf 90 = .ok (.iload_n 2, 1) := by decide +kernel
theorem dX7_aheadOf_91 : decode cX7_aheadOf 91 = .ok (.if_icmp .eq 20, 3) := by decide +kernel
theorem dX7_aheadOf_94 : decode cX7_aheadOf 94 = .ok (.aload_n 0, 1) := by decide +kernel
theorem dX7_aheadOf_95 : decode cX7_aheadOf 95 = .ok (.iload_n 1, 1) := by decide +kernel
theorem dX7_aheadOf_96 : decode cX7_aheadOf 96 = .ok (.iload 6, 2) := by decide +kernel
theorem dX7_aheadOf_98 : decode cX7_aheadOf 98 = .ok (.iload_n 2, 1) := by decide +kernel
theorem dX7_aheadOf_99 : decode cX7_aheadOf 99 = .ok (.iload 4, 2) := by decide +kernel
theorem dX7_aheadOf_101 : decode cX7_aheadOf 101 = .ok (.invokevirtual 85, 3) := by decide +kernel
theorem dX7_aheadOf_104 : decode cX7_aheadOf 104 = .ok (.ifCond .eq 7, 3) := by decide +kernel
theorem dX7_aheadOf_107 : decode cX7_aheadOf 107 = .ok (.iconst 1, 1) := by decide +kernel
theorem dX7_aheadOf_108 : decode cX7_aheadOf 108 = .ok (.goto 4, 3) := by decide +kernel
theorem dX7_aheadOf_111 : decode cX7_aheadOf 111 = .ok (.iconst 0, 1) := by decide +kernel
theorem dX7_aheadOf_112 : decode cX7_aheadOf 112 = .ok (.iadd, 1) := by decide +kernel
theorem dX7_aheadOf_113 : decode cX7_aheadOf 113 = .ok (.istore_n 3, 1) := by decide +kernel
theorem dX7_aheadOf_114 : decode cX7_aheadOf 114 = .ok (.goto 21, 3) := by decide +kernel
theorem dX7_aheadOf_117 : decode cX7_aheadOf 117 = .ok (.iload_n 3, 1) := by decide +kernel
theorem dX7_aheadOf_118 : decode cX7_aheadOf 118 = .ok (.aload_n 0, 1) := by decide +kernel
theorem dX7_aheadOf_119 : decode cX7_aheadOf 119 = .ok (.iload 6, 2) := by decide +kernel
theorem dX7_aheadOf_121 : decode cX7_aheadOf 121 = .ok (.iload_n 2, 1) := by decide +kernel
theorem dX7_aheadOf_122 : decode cX7_aheadOf 122 = .ok (.invokevirtual 89, 3) := by decide +kernel
theorem dX7_aheadOf_125 : decode cX7_aheadOf 125 = .ok (.ifCond .eq 7, 3) := by decide +kernel
theorem dX7_aheadOf_128 : decode cX7_aheadOf 128 = .ok (.iconst 1, 1) := by decide +kernel
theorem dX7_aheadOf_129 : decode cX7_aheadOf 129 = .ok (.goto 4, 3) := by decide +kernel
theorem dX7_aheadOf_132 : decode cX7_aheadOf 132 = .ok (.iconst 0, 1) := by decide +kernel
theorem dX7_aheadOf_133 : decode cX7_aheadOf 133 = .ok (.iadd, 1) := by decide +kernel
theorem dX7_aheadOf_134 : decode cX7_aheadOf 134 = .ok (.istore_n 3, 1) := by decide +kernel
theorem dX7_aheadOf_135 : decode cX7_aheadOf 135 = .ok (.iinc 5 1, 3) := by decide +kernel
theorem dX7_aheadOf_138 : decode cX7_aheadOf 138 = .ok (.goto (-83), 3) := by decide +kernel
theorem dX7_aheadOf_141 : decode cX7_aheadOf 141 = .ok (.iload_n 3, 1) := by decide +kernel
theorem dX7_aheadOf_142 : decode cX7_aheadOf 142 = .ok (.ireturn, 1) := by decide +kernel
theorem kSX7_aheadOf : yX7_aheadOf.cls ≠ "java/lang/invoke/MethodHandle" ∧ yX7_aheadOf.cls ≠ "java/lang/invoke/VarHandle" ∧ (parseMethodDescriptor yX7_aheadOf.desc).map (fun d => d.parameters.length) = some 2 := by decide +kernel
theorem kVX7_aheadOf : yX7_aheadOf.cls = RX7 ∧ yX7_aheadOf.cls ≠ "java/lang/invoke/MethodHandle" ∧ yX7_aheadOf.cls ≠ "java/lang/invoke/VarHandle" ∧ (parseMethodDescriptor yX7_aheadOf.desc).map (fun d => d.parameters.length) = some 2 := ⟨rfl, kSX7_aheadOf⟩
theorem dX7_areAlike_0 : decode cX7_areAlike 0 = .ok (.aload_n 0, 1) := by decide +kernel
theorem dX7_areAlike_1 : decode cX7_areAlike 1 = .ok (.getfield 24, 3) := by decide +kernel
theorem dX7_areAlike_4 : decode cX7_areAlike 4 = .ok (.iload_n 1, 1) := by decide +kernel
theorem dX7_areAlike_5 : decode cX7_areAlike 5 = .ok (.invokevirtual 71, 3) := by decide +kernel
theorem dX7_areAlike_8 : decode cX7_areAlike 8 = .ok (.aload_n 0, 1) := by decide +kernel
theorem dX7_areAlike_9 : decode cX7_areAlike 9 = .ok (.getfield 24, 3) := by decide +kernel
theorem dX7_areAlike_12 : decode cX7_areAlike 12 = .ok (.iload_n 2, 1) := by decide +kernel
theorem dX7_areAlike_13 : decode cX7_areAlike 13 = .ok (.invokevirtual 71, 3) := by decide +kernel
theorem dX7_areAlike_16 : decode cX7_areAlike 16 = .ok (.if_icmp .ne 26, 3) := by decide +kernel
theorem dX7_areAlike_19 : decode cX7_areAlike 19 = .ok (.aload_n 0, 1) := by decide +kernel
theorem dX7_areAlike_20 : decode cX7_areAlike 20 = .ok (.getfield 28, 3) := by decide +kernel
theorem dX7_areAlike_23 : decode cX7_areAlike 23 = .ok (.iload_n 1, 1) := by decide +kernel
theorem dX7_areAlike_24 : decode cX7_areAlike 24 = .ok (.invokevirtual 71, 3) := by decide +kernel
theorem dX7_areAlike_27 : decode cX7_areAlike 27 = .ok (.aload_n 0, 1) := by decide +kernel
theorem dX7_areAlike_28 : decode cX7_areAlike 28 = .ok (.getfield 28, 3) := by decide +kernel
theorem dX7_areAlike_31 : decode cX7_areAlike 31 = .ok (.iload_n 2, 1) := by decide +kernel
theorem dX7_areAlike_32 : decode cX7_areAlike 32 = .ok (.invokevirtual 71, 3) := by decide +kernel
theorem dX7_areAlike_35 : decode cX7_areAlike 35 = .ok (.if_icmp .ne 7, 3) := by decide +kernel
theorem dX7_areAlike_38 : decode cX7_areAlike 38 = .ok (.iconst 1, 1) := by decide +kernel
theorem dX7_areAlike_39 : decode cX7_areAlike 39 = .ok (.goto 4, 3) := by decide +kernel
theorem dX7_areAlike_42 : decode cX7_areAlike 42 = .ok (.iconst 0, 1) := by decide +kernel
theorem dX7_areAlike_43 : decode cX7_areAlike 43 = .ok (.ireturn, 1) := by decide +kernel
theorem kSX7_areAlike : yX7_areAlike.cls ≠ "java/lang/invoke/MethodHandle" ∧ yX7_areAlike.cls ≠ "java/lang/invoke/VarHandle" ∧ (parseMethodDescriptor yX7_areAlike.desc).map (fun d => d.parameters.length) = some 2 := by decide +kernel
theorem kVX7_areAlike : yX7_areAlike.cls = RX7 ∧ yX7_areAlike.cls ≠ "java/lang/invoke/MethodHandle" ∧ yX7_areAlike.cls ≠ "java/lang/invoke/VarHandle" ∧ (parseMethodDescriptor yX7_areAlike.desc).map (fun d => d.parameters.length) = some 2 := ⟨rfl, kSX7_areAlike⟩
theorem dX7_beat_0 : decode cX7_beat 0 = .ok (.iconst 0, 1) := by decide +kernel
theorem dX7_beat_1 : decode cX7_beat 1 = .ok (.istore 4, 2) := by decide +kernel
theorem dX7_beat_3 : decode cX7_beat 3 = .ok (.iload 4, 2) := by decide +kernel
theorem dX7_beat_5 : decode cX7_beat 5 = .ok (.aload_n 0, 1) := by decide +kernel
theorem dX7_beat_6 : decode cX7_beat 6 = .ok (.getfield 15, 3) := by decide +kernel
theorem dX7_beat_9 : decode cX7_beat 9 = .ok (.iload_n 1, 1) := by decide +kernel
theorem dX7_beat_10 : decode cX7_beat 10 = .ok (.invokevirtual 37, 3) := by decide +kernel
theorem dX7_beat_13 : decode cX7_beat 13 = .ok (.if_icmp .ge 39, 3) := by decide +kernel
theorem dX7_beat_16 : decode cX7_beat 16 = .ok (.aload_n 0, 1) := by decide +kernel
theorem dX7_beat_17 : decode cX7_beat 17 = .ok (.getfield 15, 3) := by decide +kernel
theorem dX7_beat_20 : decode cX7_beat 20 = .ok (.iload_n 1, 1) := by decide +kernel
theorem dX7_beat_21 : decode cX7_beat 21 = .ok (.iload 4, 2) := by decide +kernel
theorem dX7_beat_23 : decode cX7_beat 23 = .ok (.invokevirtual 40, 3) := by decide +kernel
theorem dX7_beat_26 : decode cX7_beat 26 = .ok (.iload_n 2, 1) := by decide +kernel
theorem dX7_beat_27 : decode cX7_beat 27 = .ok (.if_icmp .ne 19, 3) := by decide +kernel
theorem dX7_beat_30 : decode cX7_beat 30 = .ok (.aload_n 0, 1) := by decide +kernel
theorem dX7_beat_31 : decode cX7_beat 31 = .ok (.getfield 15, 3) := by decide +kernel
theorem dX7_beat_34 : decode cX7_beat 34 = .ok (.iload_n 1, 1) := by decide +kernel
theorem dX7_beat_35 : decode cX7_beat 35 = .ok (.iload 4, 2) := by decide +kernel
theorem dX7_beat_37 : decode cX7_beat 37 = .ok (.invokevirtual 44, 3) := by decide +kernel
theorem dX7_beat_40 : decode cX7_beat 40 = .ok (.iload_n 3, 1) := by decide +kernel
theorem dX7_beat_41 : decode cX7_beat 41 = .ok (.if_icmp .ne 5, 3) := by decide +kernel
theorem dX7_beat_44 : decode cX7_beat 44 = .ok (.iconst 1, 1) := by decide +kernel
theorem dX7_beat_45 : decode cX7_beat 45 = .ok (.ireturn, 1) := by decide +kernel
theorem dX7_beat_46 : decode cX7_beat 46 = .ok (.iinc 4 1, 3) := by decide +kernel
theorem dX7_beat_49 : decode cX7_beat 49 = .ok (.goto (-46), 3) := by decide +kernel
theorem dX7_beat_52 : decode cX7_beat 52 = .ok (.iconst 0, 1) := by decide +kernel
theorem dX7_beat_53 : decode cX7_beat 53 = .ok (.ireturn, 1) := by decide +kernel
theorem kSX7_beat : yX7_beat.cls ≠ "java/lang/invoke/MethodHandle" ∧ yX7_beat.cls ≠ "java/lang/invoke/VarHandle" ∧ (parseMethodDescriptor yX7_beat.desc).map (fun d => d.parameters.length) = some 3 := by decide +kernel
theorem kVX7_beat : yX7_beat.cls = RX7 ∧ yX7_beat.cls ≠ "java/lang/invoke/MethodHandle" ∧ yX7_beat.cls ≠ "java/lang/invoke/VarHandle" ∧ (parseMethodDescriptor yX7_beat.desc).map (fun d => d.parameters.length) = some 3 := ⟨rfl, kSX7_beat⟩
theorem dX7_breaksTie_0 : decode cX7_breaksTie 0 = .ok (.iload 4, 2) := by decide +kernel
theorem dX7_breaksTie_2 : decode cX7_breaksTie 2 = .ok (.iconst 2, 1) := by decide +kernel
theorem dX7_breaksTie_3 : decode cX7_breaksTie 3 = .ok (.if_icmp .ne 11, 3) := by decide +kernel
theorem dX7_breaksTie_6 : decode cX7_breaksTie 6 = .ok (.aload_n 0, 1) := by decide +kernel
theorem dX7_breaksTie_7 : decode cX7_breaksTie 7 = .ok (.iload_n 1, 1) := by decide +kernel
theorem dX7_breaksTie_8 : decode cX7_breaksTie 8 = .ok (.iload_n 2, 1) := by decide +kernel
theorem dX7_breaksTie_9 : decode cX7_breaksTie 9 = .ok (.iload_n 3, 1) := by decide +kernel
theorem dX7_breaksTie_10 : decode cX7_breaksTie 10 = .ok (.invokevirtual 92, 3) := by decide +kernel
theorem dX7_breaksTie_13 : decode cX7_breaksTie 13 = .ok (.ireturn, 1) := by decide +kernel
theorem dX7_breaksTie_14 : decode cX7_breaksTie 14 = .ok (.aload_n 0, 1) := by decide +kernel
theorem dX7_breaksTie_15 : decode cX7_breaksTie 15 = .ok (.getfield 9, 3) := by decide +kernel
theorem dX7_breaksTie_18 : decode cX7_breaksTie 18 = .ok (.iload_n 2, 1) := by decide +kernel
theorem dX7_breaksTie_19 : decode cX7_breaksTie 19 = .ok (.iconst 2, 1) := by decide +kernel
theorem dX7_breaksTie_20 : decode cX7_breaksTie 20 = .ok (.invokestatic 96, 3) := by decide +kernel
theorem dX7_breaksTie_23 : decode cX7_breaksTie 23 = .ok (.invokevirtual 65, 3) := by decide +kernel
theorem dX7_breaksTie_26 : decode cX7_breaksTie 26 = .ok (.istore 5, 2) := by decide +kernel
theorem dX7_breaksTie_28 : decode cX7_breaksTie 28 = .ok (.aload_n 0, 1) := by decide +kernel
theorem dX7_breaksTie_29 : decode cX7_breaksTie 29 = .ok (.getfield 9, 3) := by decide +kernel
theorem dX7_breaksTie_32 : decode cX7_breaksTie 32 = .ok (.iload_n 3, 1) := by decide +kernel
theorem dX7_breaksTie_33 : decode cX7_breaksTie 33 = .ok (.iconst 2, 1) := by decide +kernel
theorem dX7_breaksTie_34 : decode cX7_breaksTie 34 = .ok (.invokestatic 96, 3) := by decide +kernel
theorem dX7_breaksTie_37 : decode cX7_breaksTie 37 = .ok (.invokevirtual 65, 3) := by decide +kernel
theorem dX7_breaksTie_40 : decode cX7_breaksTie 40 = .ok (.istore 6, 2) := by decide +kernel
theorem dX7_breaksTie_42 : decode cX7_breaksTie 42 = .ok (.iload 5, 2) := by decide +kernel
theorem dX7_breaksTie_44 : decode cX7_breaksTie 44 = .ok (.iload 6, 2) := by decide +kernel
theorem dX7_breaksTie_46 : decode cX7_breaksTie 46 = .ok (.if_icmp .eq 18, 3) := by decide +kernel
theorem dX7_breaksTie_49 : decode cX7_breaksTie 49 = .ok (.iload 5, 2) := by decide +kernel
theorem dX7_breaksTie_51 : decode cX7_breaksTie 51 = .ok (.iload 6, 2) := by decide +kernel
theorem dX7_breaksTie_53 : decode cX7_breaksTie 53 = .ok (.if_icmp .ge 7, 3) := by decide +kernel
theorem dX7_breaksTie_56 : decode cX7_breaksTie 56 = .ok (.iconst 1, 1) := by decide +kernel
theorem dX7_breaksTie_57 : decode cX7_breaksTie 57 = .ok (.goto 17, 3) := by decide +kernel
theorem dX7_breaksTie_60 : decode cX7_breaksTie 60 = .ok (.iconst 0, 1) := by decide +kernel
theorem dX7_breaksTie_61 : decode cX7_breaksTie 61 = .ok (.goto 13, 3) := by decide +kernel
theorem dX7_breaksTie_64 : decode cX7_breaksTie 64 = .ok (.iload_n 2, 1) := by decide +kernel
theorem dX7_breaksTie_65 : decode cX7_breaksTie 65 = .ok (.iload_n 3, 1) := by decide +kernel
theorem dX7_breaksTie_66 : decode cX7_breaksTie 66 = .ok (.if_icmp .ge 7, 3) := by decide +kernel
theorem dX7_breaksTie_69 : decode cX7_breaksTie 69 = .ok (.iconst 1, 1) := by decide +kernel
theorem dX7_breaksTie_70 : decode cX7_breaksTie 70 = .ok (.goto 4, 3) := by decide +kernel
theorem dX7_breaksTie_73 : decode cX7_breaksTie 73 = .ok (.iconst 0, 1) := by decide +kernel
theorem dX7_breaksTie_74 : decode cX7_breaksTie 74 = .ok (.ireturn, 1) := by decide +kernel
theorem kSX7_breaksTie : yX7_breaksTie.cls ≠ "java/lang/invoke/MethodHandle" ∧ yX7_breaksTie.cls ≠ "java/lang/invoke/VarHandle" ∧ (parseMethodDescriptor yX7_breaksTie.desc).map (fun d => d.parameters.length) = some 4 := by decide +kernel
theorem kVX7_breaksTie : yX7_breaksTie.cls = RX7 ∧ yX7_breaksTie.cls ≠ "java/lang/invoke/MethodHandle" ∧ yX7_breaksTie.cls ≠ "java/lang/invoke/VarHandle" ∧ (parseMethodDescriptor yX7_breaksTie.desc).map (fun d => d.parameters.length) = some 4 := ⟨rfl, kSX7_breaksTie⟩
theorem dX7_hasMore_0 : decode cX7_hasMore 0 = .ok (.aload_n 0, 1) := by decide +kernel
theorem dX7_hasMore_1 : decode cX7_hasMore 1 = .ok (.getfield 24, 3) := by decide +kernel
theorem dX7_hasMore_4 : decode cX7_hasMore 4 = .ok (.iload_n 1, 1) := by decide +kernel
theorem dX7_hasMore_5 : decode cX7_hasMore 5 = .ok (.invokevirtual 71, 3) := by decide +kernel
theorem dX7_hasMore_8 : decode cX7_hasMore 8 = .ok (.aload_n 0, 1) := by decide +kernel
theorem dX7_hasMore_9 : decode cX7_hasMore 9 = .ok (.getfield 24, 3) := by decide +kernel
theorem dX7_hasMore_12 : decode cX7_hasMore 12 = .ok (.iload_n 2, 1) := by decide +kernel
theorem dX7_hasMore_13 : decode cX7_hasMore 13 = .ok (.invokevirtual 71, 3) := by decide +kernel
theorem dX7_hasMore_16 : decode cX7_hasMore 16 = .ok (.if_icmp .eq 28, 3) := by decide +kernel
theorem dX7_hasMore_19 : decode cX7_hasMore 19 = .ok (.aload_n 0, 1) := by decide +kernel
theorem dX7_hasMore_20 : decode cX7_hasMore 20 = .ok (.getfield 24, 3) := by decide +kernel
theorem dX7_hasMore_23 : decode cX7_hasMore 23 = .ok (.iload_n 1, 1) := by decide +kernel
theorem dX7_hasMore_24 : decode cX7_hasMore 24 = .ok (.invokevirtual 71, 3) := by decide +kernel
theorem dX7_hasMore_27 : decode cX7_hasMore 27 = .ok (.aload_n 0, 1) := by decide +kernel
theorem dX7_hasMore_28 : decode cX7_hasMore 28 = .ok (.getfield 24, 3) := by decide +kernel
theorem dX7_hasMore_31 : decode cX7_hasMore 31 = .ok (.iload_n 2, 1) := by decide +kernel
theorem dX7_hasMore_32 : decode cX7_hasMore 32 = .ok (.invokevirtual 71, 3) := by decide +kernel
theorem dX7_hasMore_35 : decode cX7_hasMore 35 = .ok (.if_icmp .le 7, 3) := by decide +kernel
theorem dX7_hasMore_38 : decode cX7_hasMore 38 = .ok (.iconst 1, 1) := by decide +kernel
theorem dX7_hasMore_39 : decode cX7_hasMore 39 = .ok (.goto 4, 3) := by decide +kernel
theorem dX7_hasMore_42 : decode cX7_hasMore 42 = .ok (.iconst 0, 1) := by decide +kernel
theorem dX7_hasMore_43 : decode cX7_hasMore 43 = .ok (.ireturn, 1) := by decide +kernel
theorem dX7_hasMore_44 : decode cX7_hasMore 44 = .ok (.aload_n 0, 1) := by decide +kernel
theorem dX7_hasMore_45 : decode cX7_hasMore 45 = .ok (.getfield 28, 3) := by decide +kernel
theorem dX7_hasMore_48 : decode cX7_hasMore 48 = .ok (.iload_n 1, 1) := by decide +kernel
theorem dX7_hasMore_49 : decode cX7_hasMore 49 = .ok (.invokevirtual 71, 3) := by decide +kernel
theorem dX7_hasMore_52 : decode cX7_hasMore 52 = .ok (.aload_n 0, 1) := by decide +kernel
theorem dX7_hasMore_53 : decode cX7_hasMore 53 = .ok (.getfield 28, 3) := by decide +kernel
theorem dX7_hasMore_56 : decode cX7_hasMore 56 = .ok (.iload_n 2, 1) := by decide +kernel
theorem dX7_hasMore_57 : decode cX7_hasMore 57 = .ok (.invokevirtual 71, 3) := by decide +kernel
theorem dX7_hasMore_60 : decode cX7_hasMore 60 = .ok (.if_icmp .le 7, 3) := by decide +kernel
theorem dX7_hasMore_63 : decode cX7_hasMore 63 = .ok (.iconst 1, 1) := by decide +kernel
theorem dX7_hasMore_64 : decode cX7_hasMore 64 = .ok (.goto 4, 3) := by decide +kernel
theorem dX7_hasMore_67 : decode cX7_hasMore 67 = .ok (.iconst 0, 1) := by decide +kernel
theorem dX7_hasMore_68 : decode cX7_hasMore 68 = .ok (.ireturn, 1) := by decide +kernel
theorem kSX7_hasMore : yX7_hasMore.cls ≠ "java/lang/invoke/MethodHandle" ∧ yX7_hasMore.cls ≠ "java/lang/invoke/VarHandle" ∧ (parseMethodDescriptor yX7_hasMore.desc).map (fun d => d.parameters.length) = some 2 := by decide +kernel
theorem kVX7_hasMore : yX7_hasMore.cls = RX7 ∧ yX7_hasMore.cls ≠ "java/lang/invoke/MethodHandle" ∧ yX7_hasMore.cls ≠ "java/lang/invoke/VarHandle" ∧ (parseMethodDescriptor yX7_hasMore.desc).map (fun d => d.parameters.length) = some 2 := ⟨rfl, kSX7_hasMore⟩
theorem dX7_member_0 : decode cX7_member 0 = .ok (.aload_n 0, 1) := by decide +kernel
theorem dX7_member_1 : decode cX7_member 1 = .ok (.getfield 9, 3) := by decide +kernel
theorem dX7_member_4 : decode cX7_member 4 = .ok (.iload_n 1, 1) := by decide +kernel
theorem dX7_member_5 : decode cX7_member 5 = .ok (.iconst 4, 1) := by decide +kernel
theorem dX7_member_6 : decode cX7_member 6 = .ok (.iload_n 2, 1) := by decide +kernel
theorem dX7_member_7 : decode cX7_member 7 = .ok (.iadd, 1) := by decide +kernel
theorem dX7_member_8 : decode cX7_member 8 = .ok (.invokestatic 62, 3) := by decide +kernel
theorem dX7_member_11 : decode cX7_member 11 = .ok (.invokevirtual 65, 3) := by decide +kernel
theorem dX7_member_14 : decode cX7_member 14 = .ok (.ireturn, 1) := by decide +kernel
theorem kSX7_member : yX7_member.cls ≠ "java/lang/invoke/MethodHandle" ∧ yX7_member.cls ≠ "java/lang/invoke/VarHandle" ∧ (parseMethodDescriptor yX7_member.desc).map (fun d => d.parameters.length) = some 2 := by decide +kernel
theorem kVX7_member : yX7_member.cls = RX7 ∧ yX7_member.cls ≠ "java/lang/invoke/MethodHandle" ∧ yX7_member.cls ≠ "java/lang/invoke/VarHandle" ∧ (parseMethodDescriptor yX7_member.desc).map (fun d => d.parameters.length) = some 2 := ⟨rfl, kSX7_member⟩
theorem dX7_ofTree_0 : decode cX7_ofTree 0 = .ok (.aload_n 0, 1) := by decide +kernel
theorem dX7_ofTree_1 : decode cX7_ofTree 1 = .ok (.getfield 15, 3) := by decide +kernel
theorem dX7_ofTree_4 : decode cX7_ofTree 4 = .ok (.iload_n 1, 1) := by decide +kernel
theorem dX7_ofTree_5 : decode cX7_ofTree 5 = .ok (.invokevirtual 31, 3) := by decide +kernel
theorem dX7_ofTree_8 : decode cX7_ofTree 8 = .ok (.iconst 2, 1) := by decide +kernel
theorem dX7_ofTree_9 : decode cX7_ofTree 9 = .ok (.isub, 1) := by decide +kernel
theorem dX7_ofTree_10 : decode cX7_ofTree 10 = .ok (.istore_n 3, 1) := by decide +kernel
theorem dX7_ofTree_11 : decode cX7_ofTree 11 = .ok (.aload_n 0, 1) := by decide +kernel
theorem dX7_ofTree_12 : decode cX7_ofTree 12 = .ok (.getfield 15, 3) := by decide +kernel
theorem dX7_ofTree_15 : decode cX7_ofTree 15 = .ok (.iload_n 1, 1) := by decide +kernel
theorem dX7_ofTree_16 : decode cX7_ofTree 16 = .ok (.invokevirtual 37, 3) := by decide +kernel
theorem dX7_ofTree_19 : decode cX7_ofTree 19 = .ok (.iload_n 3, 1) := by decide +kernel
theorem dX7_ofTree_20 : decode cX7_ofTree 20 = .ok (.isub, 1) := by decide +kernel
theorem dX7_ofTree_21 : decode cX7_ofTree 21 = .ok (.iconst 1, 1) := by decide +kernel
theorem dX7_ofTree_22 : decode cX7_ofTree 22 = .ok (.isub, 1) := by decide +kernel
theorem dX7_ofTree_23 : decode cX7_ofTree 23 = .ok (.iconst 2, 1) := by decide +kernel
theorem dX7_ofTree_24 : decode cX7_ofTree 24 = .ok (.idiv, 1) := by decide +kernel
theorem dX7_ofTree_25 : decode cX7_ofTree 25 = .ok (.istore 4, 2) := by decide +kernel
theorem dX7_ofTree_27 : decode cX7_ofTree 27 = .ok (.iload_n 2, 1) := by decide +kernel
theorem dX7_ofTree_28 : decode cX7_ofTree 28 = .ok (.tableswitch 80 0 3 #[32, 42, 52, 65], 32) := by decide +kernel
theorem dX7_ofTree_60 : decode cX7_ofTree 60 = .ok (.aload_n 0, 1) := by decide +kernel
theorem dX7_ofTree_61 : decode cX7_ofTree 61 = .ok (.getfield 15, 3) := by decide +kernel
theorem dX7_ofTree_64 : decode cX7_ofTree 64 = .ok (.iload_n 1, 1) := by decide +kernel
theorem dX7_ofTree_65 : decode cX7_ofTree 65 = .ok (.iload_n 3, 1) := by decide +kernel
theorem dX7_ofTree_66 : decode cX7_ofTree 66 = .ok (.invokevirtual 40, 3) := by decide +kernel
theorem dX7_ofTree_69 : decode cX7_ofTree 69 = .ok (.ireturn, 1) := by decide +kernel
theorem dX7_ofTree_70 : decode cX7_ofTree 70 = .ok (.aload_n 0, 1) := by decide +kernel
theorem dX7_ofTree_71 : decode cX7_ofTree 71 = .ok (.getfield 15, 3) := by decide +kernel
theorem dX7_ofTree_74 : decode cX7_ofTree 74 = .ok (.iload_n 1, 1) := by decide +kernel
theorem dX7_ofTree_75 : decode cX7_ofTree 75 = .ok (.iload_n 3, 1) := by decide +kernel
theorem dX7_ofTree_76 : decode cX7_ofTree 76 = .ok (.invokevirtual 44, 3) := by decide +kernel
theorem dX7_ofTree_79 : decode cX7_ofTree 79 = .ok (.ireturn, 1) := by decide +kernel
theorem dX7_ofTree_80 : decode cX7_ofTree 80 = .ok (.aload_n 0, 1) := by decide +kernel
theorem dX7_ofTree_81 : decode cX7_ofTree 81 = .ok (.getfield 15, 3) := by decide +kernel
theorem dX7_ofTree_84 : decode cX7_ofTree 84 = .ok (.iload_n 1, 1) := by decide +kernel
theorem dX7_ofTree_85 : decode cX7_ofTree 85 = .ok (.iload_n 3, 1) := by decide +kernel
theorem dX7_ofTree_86 : decode cX7_ofTree 86 = .ok (.iload 4, 2) := by decide +kernel
theorem dX7_ofTree_88 : decode cX7_ofTree 88 = .ok (.iadd, 1) := by decide +kernel
theorem dX7_ofTree_89 : decode cX7_ofTree 89 = .ok (.invokevirtual 40, 3) := by decide +kernel
theorem dX7_ofTree_92 : decode cX7_ofTree 92 = .ok (.ireturn, 1) := by decide +kernel
theorem dX7_ofTree_93 : decode cX7_ofTree 93 = .ok (.aload_n 0, 1) := by decide +kernel
theorem dX7_ofTree_94 : decode cX7_ofTree 94 = .ok (.getfield 15, 3) := by decide +kernel
theorem dX7_ofTree_97 : decode cX7_ofTree 97 = .ok (.iload_n 1, 1) := by decide +kernel
theorem dX7_ofTree_98 : decode cX7_ofTree 98 = .ok (.iload_n 3, 1) := by decide +kernel
theorem dX7_ofTree_99 : decode cX7_ofTree 99 = .ok (.iconst 2, 1) := by decide +kernel
theorem dX7_ofTree_100 : decode cX7_ofTree 100 = .ok (.iload 4, 2) := by decide +kernel
theorem dX7_ofTree_102 : decode cX7_ofTree 102 = .ok (.imul, 1) := by decide +kernel
theorem dX7_ofTree_103 : decode cX7_ofTree 103 = .ok (.iadd, 1) := by decide +kernel
theorem dX7_ofTree_104 : decode cX7_ofTree 104 = .ok (.invokevirtual 40, 3) := by decide +kernel
theorem dX7_ofTree_107 : decode cX7_ofTree 107 = .ok (.ireturn, 1) := by decide +kernel
theorem dX7_ofTree_108 : decode cX7_ofTree 108 = .ok (.iconst (-1), 1) := by decide +kernel
theorem dX7_ofTree_109 : decode cX7_ofTree 109 = .ok (.ireturn, 1) := by decide +kernel
theorem kSX7_ofTree : yX7_ofTree.cls ≠ "java/lang/invoke/MethodHandle" ∧ yX7_ofTree.cls ≠ "java/lang/invoke/VarHandle" ∧ (parseMethodDescriptor yX7_ofTree.desc).map (fun d => d.parameters.length) = some 2 := by decide +kernel
theorem kVX7_ofTree : yX7_ofTree.cls = RX7 ∧ yX7_ofTree.cls ≠ "java/lang/invoke/MethodHandle" ∧ yX7_ofTree.cls ≠ "java/lang/invoke/VarHandle" ∧ (parseMethodDescriptor yX7_ofTree.desc).map (fun d => d.parameters.length) = some 2 := ⟨rfl, kSX7_ofTree⟩
theorem dX8_isSeedOfAnother_0 : decode cX8_isSeedOfAnother 0 = .ok (.iconst 0, 1) := by decide +kernel
theorem dX8_isSeedOfAnother_1 : decode cX8_isSeedOfAnother 1 = .ok (.istore_n 3, 1) := by decide +kernel
theorem dX8_isSeedOfAnother_2 : decode cX8_isSeedOfAnother 2 = .ok (.iload_n 3, 1) := by decide +kernel
theorem dX8_isSeedOfAnother_3 : decode cX8_isSeedOfAnother 3 = .ok (.aload_n 0, 1) := by decide +kernel
theorem dX8_isSeedOfAnother_4 : decode cX8_isSeedOfAnother 4 = .ok (.invokevirtual 21, 3) := by decide +kernel
theorem dX8_isSeedOfAnother_7 : decode cX8_isSeedOfAnother 7 = .ok (.if_icmp .ge 61, 3) := by decide +kernel
theorem dX8_isSeedOfAnother_10 : decode cX8_isSeedOfAnother 10 = .ok (.iload_n 2, 1) := by decide +kernel
theorem dX8_isSeedOfAnother_11 : decode cX8_isSeedOfAnother 11 = .ok (.ifCond .le 57, 3) := by decide +kernel
theorem dX8_isSeedOfAnother_14 : decode cX8_isSeedOfAnother 14 = .ok (.iload_n 3, 1) := by decide +kernel
theorem dX8_isSeedOfAnother_15 : decode cX8_isSeedOfAnother 15 = .ok (.iload_n 1, 1) := by decide +kernel
theorem dX8_isSeedOfAnother_16 : decode cX8_isSeedOfAnother 16 = .ok (.if_icmp .eq 20, 3) := by decide +kernel
theorem dX8_isSeedOfAnother_19 : decode cX8_isSeedOfAnother 19 = .ok (.aload_n 0, 1) := by decide +kernel
theorem dX8_isSeedOfAnother_20 : decode cX8_isSeedOfAnother 20 = .ok (.iload_n 3, 1) := by decide +kernel
theorem dX8_isSeedOfAnother_21 : decode cX8_isSeedOfAnother 21 = .ok (.invokevirtual 33, 3) := by decide +kernel
theorem dX8_isSeedOfAnother_24 : decode cX8_isSeedOfAnother 24 = .ok (.aload_n 0, 1) := by decide +kernel
theorem dX8_isSeedOfAnother_25 : decode cX8_isSeedOfAnother 25 = .ok (.iload_n 1, 1) := by decide +kernel
theorem dX8_isSeedOfAnother_26 : decode cX8_isSeedOfAnother 26 = .ok (.invokevirtual 33, 3) := by decide +kernel
theorem dX8_isSeedOfAnother_29 : decode cX8_isSeedOfAnother 29 = .ok (.if_icmp .ne 7, 3) := by decide +kernel
theorem dX8_isSeedOfAnother_32 : decode cX8_isSeedOfAnother 32 = .ok (.iconst 1, 1) := by decide +kernel
theorem dX8_isSeedOfAnother_33 : decode cX8_isSeedOfAnother 33 = .ok (.goto 4, 3) := by decide +kernel
theorem dX8_isSeedOfAnother_36 : decode cX8_isSeedOfAnother 36 = .ok (.iconst 0, 1) := by decide +kernel
theorem dX8_isSeedOfAnother_37 : decode cX8_isSeedOfAnother 37 = .ok (.istore 4, 2) := by decide +kernel
theorem dX8_isSeedOfAnother_39 : decode cX8_isSeedOfAnother 39 = .ok (.iload 4, 2) := by decide +kernel
theorem dX8_isSeedOfAnother_41 : decode cX8_isSeedOfAnother 41 = .ok (.ifCond .eq 21, 3) := by decide +kernel
theorem dX8_isSeedOfAnother_44 : decode cX8_isSeedOfAnother 44 = .ok (.aload_n 0, 1) := by decide +kernel
theorem dX8_isSeedOfAnother_45 : decode cX8_isSeedOfAnother 45 = .ok (.getfield 9, 3) := by decide +kernel
theorem dX8_isSeedOfAnother_48 : decode cX8_isSeedOfAnother 48 = .ok (.iload_n 3, 1) := by decide +kernel
theorem dX8_isSeedOfAnother_49 : decode cX8_isSeedOfAnother 49 = .ok (.iconst 4, 1) := by decide +kernel
theorem dX8_isSeedOfAnother_50 : decode cX8_isSeedOfAnother 50 = .ok (.invokestatic 25, 3) := by decide +kernel
theorem dX8_isSeedOfAnother_53 : decode cX8_isSeedOfAnother 53 = .ok (.invokevirtual 17, 3) := by decide +kernel
theorem dX8_isSeedOfAnother_56 : decode cX8_isSeedOfAnother 56 = .ok (.iload_n 2, 1) := by decide +kernel
theorem dX8_isSeedOfAnother_57 : decode cX8_isSeedOfAnother 57 = .ok (.if_icmp .ne 5, 3) := by decide +kernel
theorem dX8_isSeedOfAnother_60 : decode cX8_isSeedOfAnother 60 = .ok (.iconst 1, 1) := by decide +kernel
theorem dX8_isSeedOfAnother_61 : decode cX8_isSeedOfAnother 61 = .ok (.ireturn, 1) := by decide +kernel
theorem dX8_isSeedOfAnother_62 : decode cX8_isSeedOfAnother 62 = .ok (.iinc 3 1, 3) := by decide +kernel
theorem dX8_isSeedOfAnother_65 : decode cX8_isSeedOfAnother 65 = .ok (.goto (-63), 3) := by decide +kernel
theorem dX8_isSeedOfAnother_68 : decode cX8_isSeedOfAnother 68 = .ok (.iconst 0, 1) := by decide +kernel
theorem dX8_isSeedOfAnother_69 : decode cX8_isSeedOfAnother 69 = .ok (.ireturn, 1) := by decide +kernel
theorem kSX8_isSeedOfAnother : yX8_isSeedOfAnother.cls ≠ "java/lang/invoke/MethodHandle" ∧ yX8_isSeedOfAnother.cls ≠ "java/lang/invoke/VarHandle" ∧ (parseMethodDescriptor yX8_isSeedOfAnother.desc).map (fun d => d.parameters.length) = some 2 := by decide +kernel
theorem kVX8_isSeedOfAnother : yX8_isSeedOfAnother.cls = RX8 ∧ yX8_isSeedOfAnother.cls ≠ "java/lang/invoke/MethodHandle" ∧ yX8_isSeedOfAnother.cls ≠ "java/lang/invoke/VarHandle" ∧ (parseMethodDescriptor yX8_isSeedOfAnother.desc).map (fun d => d.parameters.length) = some 2 := ⟨rfl, kSX8_isSeedOfAnother⟩
end
section
theorem gl_top (B : Int32) : B.toNatClampNeg < 2 ^ 31 := by
  have := B.toInt_lt
  unfold Int32.toNatClampNeg
  omega
theorem gl_ne {x k : Int32} {a : Int} (h : ¬ x = k) (ha : k.toInt = a) : ¬ a = x.toInt := fun e => h (Int32.toInt_inj.mp (by rw [ha]; exact e.symm))
end
section
theorem dX5_emitBinders_0 : decode cX5_emitBinders 0 = .ok (.iload_n 1, 1) := by decide +kernel
theorem dX5_emitBinders_1 : decode cX5_emitBinders 1 = .ok (.bipush 9, 2) := by decide +kernel
theorem dX5_emitBinders_3 : decode cX5_emitBinders 3 = .ok (.if_icmp .ne 8, 3) := by decide +kernel
theorem dX5_emitBinders_6 : decode cX5_emitBinders 6 = .ok (.bipush 9, 2) := by decide +kernel
theorem dX5_emitBinders_8 : decode cX5_emitBinders 8 = .ok (.goto 5, 3) := by decide +kernel
theorem dX5_emitBinders_11 : decode cX5_emitBinders 11 = .ok (.bipush 10, 2) := by decide +kernel
theorem dX5_emitBinders_13 : decode cX5_emitBinders 13 = .ok (.istore_n 2, 1) := by decide +kernel
theorem dX5_emitBinders_14 : decode cX5_emitBinders 14 = .ok (.aload_n 0, 1) := by decide +kernel
theorem dX5_emitBinders_15 : decode cX5_emitBinders 15 = .ok (.getfield 55, 3) := by decide +kernel
theorem dX5_emitBinders_18 : decode cX5_emitBinders 18 = .ok (.ifCond .le 70, 3) := by decide +kernel
theorem dX5_emitBinders_21 : decode cX5_emitBinders 21 = .ok (.aload_n 0, 1) := by decide +kernel
theorem dX5_emitBinders_22 : decode cX5_emitBinders 22 = .ok (.getfield 29, 3) := by decide +kernel
theorem dX5_emitBinders_25 : decode cX5_emitBinders 25 = .ok (.aload_n 0, 1) := by decide +kernel
theorem dX5_emitBinders_26 : decode cX5_emitBinders 26 = .ok (.getfield 55, 3) := by decide +kernel
theorem dX5_emitBinders_29 : decode cX5_emitBinders 29 = .ok (.iconst 1, 1) := by decide +kernel
theorem dX5_emitBinders_30 : decode cX5_emitBinders 30 = .ok (.isub, 1) := by decide +kernel
theorem dX5_emitBinders_31 : decode cX5_emitBinders 31 = .ok (.invokevirtual 152, 3) := by decide +kernel
theorem dX5_emitBinders_34 : decode cX5_emitBinders 34 = .ok (.bipush 10, 2) := by decide +kernel
theorem dX5_emitBinders_36 : decode cX5_emitBinders 36 = .ok (.if_icmp .eq 20, 3) := by decide +kernel
theorem dX5_emitBinders_39 : decode cX5_emitBinders 39 = .ok (.aload_n 0, 1) := by decide +kernel
theorem dX5_emitBinders_40 : decode cX5_emitBinders 40 = .ok (.getfield 29, 3) := by decide +kernel
theorem dX5_emitBinders_43 : decode cX5_emitBinders 43 = .ok (.aload_n 0, 1) := by decide +kernel
theorem dX5_emitBinders_44 : decode cX5_emitBinders 44 = .ok (.getfield 55, 3) := by decide +kernel
theorem dX5_emitBinders_47 : decode cX5_emitBinders 47 = .ok (.iconst 1, 1) := by decide +kernel
theorem dX5_emitBinders_48 : decode cX5_emitBinders 48 = .ok (.isub, 1) := by decide +kernel
theorem dX5_emitBinders_49 : decode cX5_emitBinders 49 = .ok (.invokevirtual 152, 3) := by decide +kernel
theorem dX5_emitBinders_52 : decode cX5_emitBinders 52 = .ok (.iload_n 2, 1) := by decide +kernel
theorem dX5_emitBinders_53 : decode cX5_emitBinders 53 = .ok (.if_icmp .ne 35, 3) := by decide +kernel
theorem dX5_emitBinders_56 : decode cX5_emitBinders 56 = .ok (.aload_n 0, 1) := by decide +kernel
theorem dX5_emitBinders_57 : decode cX5_emitBinders 57 = .ok (.dup, 1) := by decide +kernel
theorem dX5_emitBinders_58 : decode cX5_emitBinders 58 = .ok (.getfield 55, 3) := by decide +kernel
theorem dX5_emitBinders_61 : decode cX5_emitBinders 61 = .ok (.iconst 1, 1) := by decide +kernel
theorem dX5_emitBinders_62 : decode cX5_emitBinders 62 = .ok (.isub, 1) := by decide +kernel
theorem dX5_emitBinders_63 : decode cX5_emitBinders 63 = .ok (.putfield 55, 3) := by decide +kernel
theorem dX5_emitBinders_66 : decode cX5_emitBinders 66 = .ok (.aload_n 0, 1) := by decide +kernel
theorem dX5_emitBinders_67 : decode cX5_emitBinders 67 = .ok (.getfield 33, 3) := by decide +kernel
theorem dX5_emitBinders_70 : decode cX5_emitBinders 70 = .ok (.aload_n 0, 1) := by decide +kernel
theorem dX5_emitBinders_71 : decode cX5_emitBinders 71 = .ok (.getfield 29, 3) := by decide +kernel
theorem dX5_emitBinders_74 : decode cX5_emitBinders 74 = .ok (.aload_n 0, 1) := by decide +kernel
theorem dX5_emitBinders_75 : decode cX5_emitBinders 75 = .ok (.getfield 55, 3) := by decide +kernel
theorem dX5_emitBinders_78 : decode cX5_emitBinders 78 = .ok (.invokevirtual 152, 3) := by decide +kernel
theorem dX5_emitBinders_81 : decode cX5_emitBinders 81 = .ok (.iconst 0, 1) := by decide +kernel
theorem dX5_emitBinders_82 : decode cX5_emitBinders 82 = .ok (.invokevirtual 169, 3) := by decide +kernel
theorem dX5_emitBinders_85 : decode cX5_emitBinders 85 = .ok (.goto (-71), 3) := by decide +kernel
theorem dX5_emitBinders_88 : decode cX5_emitBinders 88 = .ok (.return_, 1) := by decide +kernel
theorem kSX5_emitBinders : yX5_emitBinders.cls ≠ "java/lang/invoke/MethodHandle" ∧ yX5_emitBinders.cls ≠ "java/lang/invoke/VarHandle" ∧ (parseMethodDescriptor yX5_emitBinders.desc).map (fun d => d.parameters.length) = some 1 := by decide +kernel
theorem kVX5_emitBinders : yX5_emitBinders.cls = RX5 ∧ yX5_emitBinders.cls ≠ "java/lang/invoke/MethodHandle" ∧ yX5_emitBinders.cls ≠ "java/lang/invoke/VarHandle" ∧ (parseMethodDescriptor yX5_emitBinders.desc).map (fun d => d.parameters.length) = some 1 := ⟨rfl, kSX5_emitBinders⟩
theorem dX5_closeNots_0 : decode cX5_closeNots 0 = .ok (.aload_n 0, 1) := by decide +kernel
theorem dX5_closeNots_1 : decode cX5_closeNots 1 = .ok (.getfield 55, 3) := by decide +kernel
theorem dX5_closeNots_4 : decode cX5_closeNots 4 = .ok (.ifCond .le 54, 3) := by decide +kernel
theorem dX5_closeNots_7 : decode cX5_closeNots 7 = .ok (.aload_n 0, 1) := by decide +kernel
theorem dX5_closeNots_8 : decode cX5_closeNots 8 = .ok (.getfield 29, 3) := by decide +kernel
theorem dX5_closeNots_11 : decode cX5_closeNots 11 = .ok (.aload_n 0, 1) := by decide +kernel
theorem dX5_closeNots_12 : decode cX5_closeNots 12 = .ok (.getfield 55, 3) := by decide +kernel
theorem dX5_closeNots_15 : decode cX5_closeNots 15 = .ok (.iconst 1, 1) := by decide +kernel
theorem dX5_closeNots_16 : decode cX5_closeNots 16 = .ok (.isub, 1) := by decide +kernel
theorem dX5_closeNots_17 : decode cX5_closeNots 17 = .ok (.invokevirtual 152, 3) := by decide +kernel
theorem dX5_closeNots_20 : decode cX5_closeNots 20 = .ok (.bipush 11, 2) := by decide +kernel
theorem dX5_closeNots_22 : decode cX5_closeNots 22 = .ok (.if_icmp .ne 36, 3) := by decide +kernel
theorem dX5_closeNots_25 : decode cX5_closeNots 25 = .ok (.aload_n 0, 1) := by decide +kernel
theorem dX5_closeNots_26 : decode cX5_closeNots 26 = .ok (.dup, 1) := by decide +kernel
theorem dX5_closeNots_27 : decode cX5_closeNots 27 = .ok (.getfield 55, 3) := by decide +kernel
theorem dX5_closeNots_30 : decode cX5_closeNots 30 = .ok (.iconst 1, 1) := by decide +kernel
theorem dX5_closeNots_31 : decode cX5_closeNots 31 = .ok (.isub, 1) := by decide +kernel
theorem dX5_closeNots_32 : decode cX5_closeNots 32 = .ok (.putfield 55, 3) := by decide +kernel
theorem dX5_closeNots_35 : decode cX5_closeNots 35 = .ok (.aload_n 0, 1) := by decide +kernel
theorem dX5_closeNots_36 : decode cX5_closeNots 36 = .ok (.dup, 1) := by decide +kernel
theorem dX5_closeNots_37 : decode cX5_closeNots 37 = .ok (.getfield 58, 3) := by decide +kernel
theorem dX5_closeNots_40 : decode cX5_closeNots 40 = .ok (.iconst 1, 1) := by decide +kernel
theorem dX5_closeNots_41 : decode cX5_closeNots 41 = .ok (.isub, 1) := by decide +kernel
theorem dX5_closeNots_42 : decode cX5_closeNots 42 = .ok (.putfield 58, 3) := by decide +kernel
theorem dX5_closeNots_45 : decode cX5_closeNots 45 = .ok (.aload_n 0, 1) := by decide +kernel
theorem dX5_closeNots_46 : decode cX5_closeNots 46 = .ok (.getfield 33, 3) := by decide +kernel
theorem dX5_closeNots_49 : decode cX5_closeNots 49 = .ok (.bipush 11, 2) := by decide +kernel
theorem dX5_closeNots_51 : decode cX5_closeNots 51 = .ok (.iconst 0, 1) := by decide +kernel
theorem dX5_closeNots_52 : decode cX5_closeNots 52 = .ok (.invokevirtual 169, 3) := by decide +kernel
theorem dX5_closeNots_55 : decode cX5_closeNots 55 = .ok (.goto (-55), 3) := by decide +kernel
theorem dX5_closeNots_58 : decode cX5_closeNots 58 = .ok (.return_, 1) := by decide +kernel
theorem kSX5_closeNots : yX5_closeNots.cls ≠ "java/lang/invoke/MethodHandle" ∧ yX5_closeNots.cls ≠ "java/lang/invoke/VarHandle" ∧ (parseMethodDescriptor yX5_closeNots.desc).map (fun d => d.parameters.length) = some 0 := by decide +kernel
theorem kVX5_closeNots : yX5_closeNots.cls = RX5 ∧ yX5_closeNots.cls ≠ "java/lang/invoke/MethodHandle" ∧ yX5_closeNots.cls ≠ "java/lang/invoke/VarHandle" ∧ (parseMethodDescriptor yX5_closeNots.desc).map (fun d => d.parameters.length) = some 0 := ⟨rfl, kSX5_closeNots⟩
theorem dX5_closeBracket_0 : decode cX5_closeBracket 0 = .ok (.aload_n 0, 1) := by decide +kernel
theorem dX5_closeBracket_1 : decode cX5_closeBracket 1 = .ok (.bipush 9, 2) := by decide +kernel
theorem dX5_closeBracket_3 : decode cX5_closeBracket 3 = .ok (.invokevirtual 187, 3) := by decide +kernel
theorem dX5_closeBracket_6 : decode cX5_closeBracket 6 = .ok (.aload_n 0, 1) := by decide +kernel
theorem dX5_closeBracket_7 : decode cX5_closeBracket 7 = .ok (.dup, 1) := by decide +kernel
theorem dX5_closeBracket_8 : decode cX5_closeBracket 8 = .ok (.getfield 55, 3) := by decide +kernel
theorem dX5_closeBracket_11 : decode cX5_closeBracket 11 = .ok (.iconst 1, 1) := by decide +kernel
theorem dX5_closeBracket_12 : decode cX5_closeBracket 12 = .ok (.isub, 1) := by decide +kernel
theorem dX5_closeBracket_13 : decode cX5_closeBracket 13 = .ok (.putfield 55, 3) := by decide +kernel
theorem dX5_closeBracket_16 : decode cX5_closeBracket 16 = .ok (.aload_n 0, 1) := by decide +kernel
theorem dX5_closeBracket_17 : decode cX5_closeBracket 17 = .ok (.dup, 1) := by decide +kernel
theorem dX5_closeBracket_18 : decode cX5_closeBracket 18 = .ok (.getfield 58, 3) := by decide +kernel
theorem dX5_closeBracket_21 : decode cX5_closeBracket 21 = .ok (.iconst 1, 1) := by decide +kernel
theorem dX5_closeBracket_22 : decode cX5_closeBracket 22 = .ok (.isub, 1) := by decide +kernel
theorem dX5_closeBracket_23 : decode cX5_closeBracket 23 = .ok (.putfield 58, 3) := by decide +kernel
theorem dX5_closeBracket_26 : decode cX5_closeBracket 26 = .ok (.aload_n 0, 1) := by decide +kernel
theorem dX5_closeBracket_27 : decode cX5_closeBracket 27 = .ok (.dup, 1) := by decide +kernel
theorem dX5_closeBracket_28 : decode cX5_closeBracket 28 = .ok (.getfield 61, 3) := by decide +kernel
theorem dX5_closeBracket_31 : decode cX5_closeBracket 31 = .ok (.iconst 1, 1) := by decide +kernel
theorem dX5_closeBracket_32 : decode cX5_closeBracket 32 = .ok (.isub, 1) := by decide +kernel
theorem dX5_closeBracket_33 : decode cX5_closeBracket 33 = .ok (.putfield 61, 3) := by decide +kernel
theorem dX5_closeBracket_36 : decode cX5_closeBracket 36 = .ok (.aload_n 0, 1) := by decide +kernel
theorem dX5_closeBracket_37 : decode cX5_closeBracket 37 = .ok (.invokevirtual 172, 3) := by decide +kernel
theorem dX5_closeBracket_40 : decode cX5_closeBracket 40 = .ok (.return_, 1) := by decide +kernel
theorem kSX5_closeBracket : yX5_closeBracket.cls ≠ "java/lang/invoke/MethodHandle" ∧ yX5_closeBracket.cls ≠ "java/lang/invoke/VarHandle" ∧ (parseMethodDescriptor yX5_closeBracket.desc).map (fun d => d.parameters.length) = some 0 := by decide +kernel
theorem kVX5_closeBracket : yX5_closeBracket.cls = RX5 ∧ yX5_closeBracket.cls ≠ "java/lang/invoke/MethodHandle" ∧ yX5_closeBracket.cls ≠ "java/lang/invoke/VarHandle" ∧ (parseMethodDescriptor yX5_closeBracket.desc).map (fun d => d.parameters.length) = some 0 := ⟨rfl, kSX5_closeBracket⟩
theorem dX5_endComparison_0 : decode cX5_endComparison 0 = .ok (.aload_n 0, 1) := by decide +kernel
theorem dX5_endComparison_1 : decode cX5_endComparison 1 = .ok (.getfield 33, 3) := by decide +kernel
theorem dX5_endComparison_4 : decode cX5_endComparison 4 = .ok (.aload_n 0, 1) := by decide +kernel
theorem dX5_endComparison_5 : decode cX5_endComparison 5 = .ok (.getfield 84, 3) := by decide +kernel
theorem dX5_endComparison_8 : decode cX5_endComparison 8 = .ok (.iconst 0, 1) := by decide +kernel
theorem dX5_endComparison_9 : decode cX5_endComparison 9 = .ok (.invokevirtual 169, 3) := by decide +kernel
theorem dX5_endComparison_12 : decode cX5_endComparison 12 = .ok (.aload_n 0, 1) := by decide +kernel
theorem dX5_endComparison_13 : decode cX5_endComparison 13 = .ok (.invokevirtual 172, 3) := by decide +kernel
theorem dX5_endComparison_16 : decode cX5_endComparison 16 = .ok (.aload_n 0, 1) := by decide +kernel
theorem dX5_endComparison_17 : decode cX5_endComparison 17 = .ok (.bipush 16, 2) := by decide +kernel
theorem dX5_endComparison_19 : decode cX5_endComparison 19 = .ok (.putfield 52, 3) := by decide +kernel
theorem dX5_endComparison_22 : decode cX5_endComparison 22 = .ok (.return_, 1) := by decide +kernel
theorem kSX5_endComparison : yX5_endComparison.cls ≠ "java/lang/invoke/MethodHandle" ∧ yX5_endComparison.cls ≠ "java/lang/invoke/VarHandle" ∧ (parseMethodDescriptor yX5_endComparison.desc).map (fun d => d.parameters.length) = some 0 := by decide +kernel
theorem kVX5_endComparison : yX5_endComparison.cls = RX5 ∧ yX5_endComparison.cls ≠ "java/lang/invoke/MethodHandle" ∧ yX5_endComparison.cls ≠ "java/lang/invoke/VarHandle" ∧ (parseMethodDescriptor yX5_endComparison.desc).map (fun d => d.parameters.length) = some 0 := ⟨rfl, kSX5_endComparison⟩
end
section
theorem dX5_signOfToken_0 : decode cX5_signOfToken 0 = .ok (.iconst 0, 1) := by decide +kernel
theorem dX5_signOfToken_1 : decode cX5_signOfToken 1 = .ok (.istore_n 1, 1) := by decide +kernel
theorem dX5_signOfToken_2 : decode cX5_signOfToken 2 = .ok (.iload_n 1, 1) := by decide +kernel
theorem dX5_signOfToken_3 : decode cX5_signOfToken 3 = .ok (.aload_n 0, 1) := by decide +kernel
theorem dX5_signOfToken_4 : decode cX5_signOfToken 4 = .ok (.getfield 33, 3) := by decide +kernel
theorem dX5_signOfToken_7 : decode cX5_signOfToken 7 = .ok (.getfield 130, 3) := by decide +kernel
theorem dX5_signOfToken_10 : decode cX5_signOfToken 10 = .ok (.if_icmp .ge 37, 3) := by decide +kernel
theorem dX5_signOfToken_13 : decode cX5_signOfToken 13 = .ok (.aload_n 0, 1) := by decide +kernel
theorem dX5_signOfToken_14 : decode cX5_signOfToken 14 = .ok (.getfield 9, 3) := by decide +kernel
theorem dX5_signOfToken_17 : decode cX5_signOfToken 17 = .ok (.aload_n 0, 1) := by decide +kernel
theorem dX5_signOfToken_18 : decode cX5_signOfToken 18 = .ok (.getfield 22, 3) := by decide +kernel
theorem dX5_signOfToken_21 : decode cX5_signOfToken 21 = .ok (.iload_n 1, 1) := by decide +kernel
theorem dX5_signOfToken_22 : decode cX5_signOfToken 22 = .ok (.invokevirtual 152, 3) := by decide +kernel
theorem dX5_signOfToken_25 : decode cX5_signOfToken 25 = .ok (.aload_n 0, 1) := by decide +kernel
theorem dX5_signOfToken_26 : decode cX5_signOfToken 26 = .ok (.getfield 26, 3) := by decide +kernel
theorem dX5_signOfToken_29 : decode cX5_signOfToken 29 = .ok (.iload_n 1, 1) := by decide +kernel
theorem dX5_signOfToken_30 : decode cX5_signOfToken 30 = .ok (.invokevirtual 152, 3) := by decide +kernel
theorem dX5_signOfToken_33 : decode cX5_signOfToken 33 = .ok (.invokevirtual 156, 3) := by decide +kernel
theorem dX5_signOfToken_36 : decode cX5_signOfToken 36 = .ok (.ifCond .eq 5, 3) := by decide +kernel
theorem dX5_signOfToken_39 : decode cX5_signOfToken 39 = .ok (.iload_n 1, 1) := by decide +kernel
theorem dX5_signOfToken_40 : decode cX5_signOfToken 40 = .ok (.ireturn, 1) := by decide +kernel
theorem dX5_signOfToken_41 : decode cX5_signOfToken 41 = .ok (.iinc 1 1, 3) := by decide +kernel
theorem dX5_signOfToken_44 : decode cX5_signOfToken 44 = .ok (.goto (-42), 3) := by decide +kernel
theorem dX5_signOfToken_47 : decode cX5_signOfToken 47 = .ok (.iconst (-1), 1) := by decide +kernel
theorem dX5_signOfToken_48 : decode cX5_signOfToken 48 = .ok (.ireturn, 1) := by decide +kernel
theorem kSX5_signOfToken : yX5_signOfToken.cls ≠ "java/lang/invoke/MethodHandle" ∧ yX5_signOfToken.cls ≠ "java/lang/invoke/VarHandle" ∧ (parseMethodDescriptor yX5_signOfToken.desc).map (fun d => d.parameters.length) = some 0 := by decide +kernel
theorem kVX5_signOfToken : yX5_signOfToken.cls = RX5 ∧ yX5_signOfToken.cls ≠ "java/lang/invoke/MethodHandle" ∧ yX5_signOfToken.cls ≠ "java/lang/invoke/VarHandle" ∧ (parseMethodDescriptor yX5_signOfToken.desc).map (fun d => d.parameters.length) = some 0 := ⟨rfl, kSX5_signOfToken⟩
theorem dX5_takeTerm_0 : decode cX5_takeTerm 0 = .ok (.iload_n 1, 1) := by decide +kernel
theorem dX5_takeTerm_1 : decode cX5_takeTerm 1 = .ok (.bipush 14, 2) := by decide +kernel
theorem dX5_takeTerm_3 : decode cX5_takeTerm 3 = .ok (.if_icmp .eq 9, 3) := by decide +kernel
theorem dX5_takeTerm_6 : decode cX5_takeTerm 6 = .ok (.iload_n 1, 1) := by decide +kernel
theorem dX5_takeTerm_7 : decode cX5_takeTerm 7 = .ok (.bipush 15, 2) := by decide +kernel
theorem dX5_takeTerm_9 : decode cX5_takeTerm 9 = .ok (.if_icmp .ne 17, 3) := by decide +kernel
theorem dX5_takeTerm_12 : decode cX5_takeTerm 12 = .ok (.aload_n 0, 1) := by decide +kernel
theorem dX5_takeTerm_13 : decode cX5_takeTerm 13 = .ok (.bipush 14, 2) := by decide +kernel
theorem dX5_takeTerm_15 : decode cX5_takeTerm 15 = .ok (.invokevirtual 163, 3) := by decide +kernel
theorem dX5_takeTerm_18 : decode cX5_takeTerm 18 = .ok (.aload_n 0, 1) := by decide +kernel
theorem dX5_takeTerm_19 : decode cX5_takeTerm 19 = .ok (.iload_n 1, 1) := by decide +kernel
theorem dX5_takeTerm_20 : decode cX5_takeTerm 20 = .ok (.putfield 181, 3) := by decide +kernel
theorem dX5_takeTerm_23 : decode cX5_takeTerm 23 = .ok (.goto 49, 3) := by decide +kernel
theorem dX5_takeTerm_26 : decode cX5_takeTerm 26 = .ok (.iload_n 1, 1) := by decide +kernel
theorem dX5_takeTerm_27 : decode cX5_takeTerm 27 = .ok (.bipush 16, 2) := by decide +kernel
theorem dX5_takeTerm_29 : decode cX5_takeTerm 29 = .ok (.if_icmp .eq 8, 3) := by decide +kernel
theorem dX5_takeTerm_32 : decode cX5_takeTerm 32 = .ok (.iload_n 1, 1) := by decide +kernel
theorem dX5_takeTerm_33 : decode cX5_takeTerm 33 = .ok (.iconst 3, 1) := by decide +kernel
theorem dX5_takeTerm_34 : decode cX5_takeTerm 34 = .ok (.if_icmp .ne 33, 3) := by decide +kernel
theorem dX5_takeTerm_37 : decode cX5_takeTerm 37 = .ok (.aload_n 0, 1) := by decide +kernel
theorem dX5_takeTerm_38 : decode cX5_takeTerm 38 = .ok (.bipush 15, 2) := by decide +kernel
theorem dX5_takeTerm_40 : decode cX5_takeTerm 40 = .ok (.invokevirtual 163, 3) := by decide +kernel
theorem dX5_takeTerm_43 : decode cX5_takeTerm 43 = .ok (.aload_n 0, 1) := by decide +kernel
theorem dX5_takeTerm_44 : decode cX5_takeTerm 44 = .ok (.iload_n 1, 1) := by decide +kernel
theorem dX5_takeTerm_45 : decode cX5_takeTerm 45 = .ok (.iload_n 1, 1) := by decide +kernel
theorem dX5_takeTerm_46 : decode cX5_takeTerm 46 = .ok (.iconst 3, 1) := by decide +kernel
theorem dX5_takeTerm_47 : decode cX5_takeTerm 47 = .ok (.if_icmp .ne 13, 3) := by decide +kernel
theorem dX5_takeTerm_50 : decode cX5_takeTerm 50 = .ok (.aload_n 0, 1) := by decide +kernel
theorem dX5_takeTerm_51 : decode cX5_takeTerm 51 = .ok (.getfield 9, 3) := by decide +kernel
theorem dX5_takeTerm_54 : decode cX5_takeTerm 54 = .ok (.getfield 121, 3) := by decide +kernel
theorem dX5_takeTerm_57 : decode cX5_takeTerm 57 = .ok (.goto 4, 3) := by decide +kernel
theorem dX5_takeTerm_60 : decode cX5_takeTerm 60 = .ok (.iconst 0, 1) := by decide +kernel
theorem dX5_takeTerm_61 : decode cX5_takeTerm 61 = .ok (.invokevirtual 184, 3) := by decide +kernel
theorem dX5_takeTerm_64 : decode cX5_takeTerm 64 = .ok (.goto 8, 3) := by decide +kernel
theorem dX5_takeTerm_67 : decode cX5_takeTerm 67 = .ok (.aload_n 0, 1) := by decide +kernel
theorem dX5_takeTerm_68 : decode cX5_takeTerm 68 = .ok (.iconst 1, 1) := by decide +kernel
theorem dX5_takeTerm_69 : decode cX5_takeTerm 69 = .ok (.invokevirtual 118, 3) := by decide +kernel
theorem dX5_takeTerm_72 : decode cX5_takeTerm 72 = .ok (.return_, 1) := by decide +kernel
theorem kSX5_takeTerm : yX5_takeTerm.cls ≠ "java/lang/invoke/MethodHandle" ∧ yX5_takeTerm.cls ≠ "java/lang/invoke/VarHandle" ∧ (parseMethodDescriptor yX5_takeTerm.desc).map (fun d => d.parameters.length) = some 1 := by decide +kernel
theorem kVX5_takeTerm : yX5_takeTerm.cls = RX5 ∧ yX5_takeTerm.cls ≠ "java/lang/invoke/MethodHandle" ∧ yX5_takeTerm.cls ≠ "java/lang/invoke/VarHandle" ∧ (parseMethodDescriptor yX5_takeTerm.desc).map (fun d => d.parameters.length) = some 1 := ⟨rfl, kSX5_takeTerm⟩
theorem dX5_takeTermName_0 : decode cX5_takeTermName 0 = .ok (.iload_n 1, 1) := by decide +kernel
theorem dX5_takeTermName_1 : decode cX5_takeTermName 1 = .ok (.iconst 2, 1) := by decide +kernel
theorem dX5_takeTermName_2 : decode cX5_takeTermName 2 = .ok (.if_icmp .eq 11, 3) := by decide +kernel
theorem dX5_takeTermName_5 : decode cX5_takeTermName 5 = .ok (.aload_n 0, 1) := by decide +kernel
theorem dX5_takeTermName_6 : decode cX5_takeTermName 6 = .ok (.iconst 1, 1) := by decide +kernel
theorem dX5_takeTermName_7 : decode cX5_takeTermName 7 = .ok (.invokevirtual 118, 3) := by decide +kernel
theorem dX5_takeTermName_10 : decode cX5_takeTermName 10 = .ok (.goto 37, 3) := by decide +kernel
theorem dX5_takeTermName_13 : decode cX5_takeTermName 13 = .ok (.aload_n 0, 1) := by decide +kernel
theorem dX5_takeTermName_14 : decode cX5_takeTermName 14 = .ok (.invokevirtual 145, 3) := by decide +kernel
theorem dX5_takeTermName_17 : decode cX5_takeTermName 17 = .ok (.iconst (-1), 1) := by decide +kernel
theorem dX5_takeTermName_18 : decode cX5_takeTermName 18 = .ok (.if_icmp .ne 11, 3) := by decide +kernel
theorem dX5_takeTermName_21 : decode cX5_takeTermName 21 = .ok (.aload_n 0, 1) := by decide +kernel
theorem dX5_takeTermName_22 : decode cX5_takeTermName 22 = .ok (.iconst 2, 1) := by decide +kernel
theorem dX5_takeTermName_23 : decode cX5_takeTermName 23 = .ok (.invokevirtual 118, 3) := by decide +kernel
theorem dX5_takeTermName_26 : decode cX5_takeTermName 26 = .ok (.goto 21, 3) := by decide +kernel
theorem dX5_takeTermName_29 : decode cX5_takeTermName 29 = .ok (.aload_n 0, 1) := by decide +kernel
theorem dX5_takeTermName_30 : decode cX5_takeTermName 30 = .ok (.aload_n 0, 1) := by decide +kernel
theorem dX5_takeTermName_31 : decode cX5_takeTermName 31 = .ok (.getfield 181, 3) := by decide +kernel
theorem dX5_takeTermName_34 : decode cX5_takeTermName 34 = .ok (.aload_n 0, 1) := by decide +kernel
theorem dX5_takeTermName_35 : decode cX5_takeTermName 35 = .ok (.invokevirtual 145, 3) := by decide +kernel
theorem dX5_takeTermName_38 : decode cX5_takeTermName 38 = .ok (.invokevirtual 184, 3) := by decide +kernel
theorem dX5_takeTermName_41 : decode cX5_takeTermName 41 = .ok (.aload_n 0, 1) := by decide +kernel
theorem dX5_takeTermName_42 : decode cX5_takeTermName 42 = .ok (.bipush 15, 2) := by decide +kernel
theorem dX5_takeTermName_44 : decode cX5_takeTermName 44 = .ok (.putfield 52, 3) := by decide +kernel
theorem dX5_takeTermName_47 : decode cX5_takeTermName 47 = .ok (.return_, 1) := by decide +kernel
theorem kSX5_takeTermName : yX5_takeTermName.cls ≠ "java/lang/invoke/MethodHandle" ∧ yX5_takeTermName.cls ≠ "java/lang/invoke/VarHandle" ∧ (parseMethodDescriptor yX5_takeTermName.desc).map (fun d => d.parameters.length) = some 1 := by decide +kernel
theorem kVX5_takeTermName : yX5_takeTermName.cls = RX5 ∧ yX5_takeTermName.cls ≠ "java/lang/invoke/MethodHandle" ∧ yX5_takeTermName.cls ≠ "java/lang/invoke/VarHandle" ∧ (parseMethodDescriptor yX5_takeTermName.desc).map (fun d => d.parameters.length) = some 1 := ⟨rfl, kSX5_takeTermName⟩
theorem dX5_takeSignOrLine_0 : decode cX5_takeSignOrLine 0 = .ok (.iload_n 1, 1) := by decide +kernel
theorem dX5_takeSignOrLine_1 : decode cX5_takeSignOrLine 1 = .ok (.ifCond .ne 12, 3) := by decide +kernel
theorem dX5_takeSignOrLine_4 : decode cX5_takeSignOrLine 4 = .ok (.aload_n 0, 1) := by decide +kernel
theorem dX5_takeSignOrLine_5 : decode cX5_takeSignOrLine 5 = .ok (.bipush 17, 2) := by decide +kernel
theorem dX5_takeSignOrLine_7 : decode cX5_takeSignOrLine 7 = .ok (.putfield 52, 3) := by decide +kernel
theorem dX5_takeSignOrLine_10 : decode cX5_takeSignOrLine 10 = .ok (.goto 99, 3) := by decide +kernel
theorem dX5_takeSignOrLine_13 : decode cX5_takeSignOrLine 13 = .ok (.iload_n 1, 1) := by decide +kernel
theorem dX5_takeSignOrLine_14 : decode cX5_takeSignOrLine 14 = .ok (.bipush 6, 2) := by decide +kernel
theorem dX5_takeSignOrLine_16 : decode cX5_takeSignOrLine 16 = .ok (.if_icmp .ne 38, 3) := by decide +kernel
theorem dX5_takeSignOrLine_19 : decode cX5_takeSignOrLine 19 = .ok (.aload_n 0, 1) := by decide +kernel
theorem dX5_takeSignOrLine_20 : decode cX5_takeSignOrLine 20 = .ok (.getfield 52, 3) := by decide +kernel
theorem dX5_takeSignOrLine_23 : decode cX5_takeSignOrLine 23 = .ok (.bipush 6, 2) := by decide +kernel
theorem dX5_takeSignOrLine_25 : decode cX5_takeSignOrLine 25 = .ok (.if_icmp .ne 29, 3) := by decide +kernel
theorem dX5_takeSignOrLine_28 : decode cX5_takeSignOrLine 28 = .ok (.aload_n 0, 1) := by decide +kernel
theorem dX5_takeSignOrLine_29 : decode cX5_takeSignOrLine 29 = .ok (.aload_n 0, 1) := by decide +kernel
theorem dX5_takeSignOrLine_30 : decode cX5_takeSignOrLine 30 = .ok (.getfield 33, 3) := by decide +kernel
theorem dX5_takeSignOrLine_33 : decode cX5_takeSignOrLine 33 = .ok (.getfield 130, 3) := by decide +kernel
theorem dX5_takeSignOrLine_36 : decode cX5_takeSignOrLine 36 = .ok (.bipush 8, 2) := by decide +kernel
theorem dX5_takeSignOrLine_38 : decode cX5_takeSignOrLine 38 = .ok (.if_icmp .ge 7, 3) := by decide +kernel
theorem dX5_takeSignOrLine_41 : decode cX5_takeSignOrLine 41 = .ok (.iconst 1, 1) := by decide +kernel
theorem dX5_takeSignOrLine_42 : decode cX5_takeSignOrLine 42 = .ok (.goto 4, 3) := by decide +kernel
theorem dX5_takeSignOrLine_45 : decode cX5_takeSignOrLine 45 = .ok (.iconst 0, 1) := by decide +kernel
theorem dX5_takeSignOrLine_46 : decode cX5_takeSignOrLine 46 = .ok (.bipush 7, 2) := by decide +kernel
theorem dX5_takeSignOrLine_48 : decode cX5_takeSignOrLine 48 = .ok (.invokevirtual 133, 3) := by decide +kernel
theorem dX5_takeSignOrLine_51 : decode cX5_takeSignOrLine 51 = .ok (.goto 58, 3) := by decide +kernel
theorem dX5_takeSignOrLine_54 : decode cX5_takeSignOrLine 54 = .ok (.iload_n 1, 1) := by decide +kernel
theorem dX5_takeSignOrLine_55 : decode cX5_takeSignOrLine 55 = .ok (.bipush 7, 2) := by decide +kernel
theorem dX5_takeSignOrLine_57 : decode cX5_takeSignOrLine 57 = .ok (.if_icmp .ne 47, 3) := by decide +kernel
theorem dX5_takeSignOrLine_60 : decode cX5_takeSignOrLine 60 = .ok (.aload_n 0, 1) := by decide +kernel
theorem dX5_takeSignOrLine_61 : decode cX5_takeSignOrLine 61 = .ok (.getfield 33, 3) := by decide +kernel
theorem dX5_takeSignOrLine_64 : decode cX5_takeSignOrLine 64 = .ok (.getfield 136, 3) := by decide +kernel
theorem dX5_takeSignOrLine_67 : decode cX5_takeSignOrLine 67 = .ok (.aload_n 0, 1) := by decide +kernel
theorem dX5_takeSignOrLine_68 : decode cX5_takeSignOrLine 68 = .ok (.getfield 33, 3) := by decide +kernel
theorem dX5_takeSignOrLine_71 : decode cX5_takeSignOrLine 71 = .ok (.getfield 139, 3) := by decide +kernel
theorem dX5_takeSignOrLine_74 : decode cX5_takeSignOrLine 74 = .ok (.iconst 1, 1) := by decide +kernel
theorem dX5_takeSignOrLine_75 : decode cX5_takeSignOrLine 75 = .ok (.invokevirtual 142, 3) := by decide +kernel
theorem dX5_takeSignOrLine_78 : decode cX5_takeSignOrLine 78 = .ok (.aload_n 0, 1) := by decide +kernel
theorem dX5_takeSignOrLine_79 : decode cX5_takeSignOrLine 79 = .ok (.aload_n 0, 1) := by decide +kernel
theorem dX5_takeSignOrLine_80 : decode cX5_takeSignOrLine 80 = .ok (.getfield 33, 3) := by decide +kernel
theorem dX5_takeSignOrLine_83 : decode cX5_takeSignOrLine 83 = .ok (.getfield 139, 3) := by decide +kernel
theorem dX5_takeSignOrLine_86 : decode cX5_takeSignOrLine 86 = .ok (.bipush 20, 2) := by decide +kernel
theorem dX5_takeSignOrLine_88 : decode cX5_takeSignOrLine 88 = .ok (.if_icmp .ge 7, 3) := by decide +kernel
theorem dX5_takeSignOrLine_91 : decode cX5_takeSignOrLine 91 = .ok (.iconst 1, 1) := by decide +kernel
theorem dX5_takeSignOrLine_92 : decode cX5_takeSignOrLine 92 = .ok (.goto 4, 3) := by decide +kernel
theorem dX5_takeSignOrLine_95 : decode cX5_takeSignOrLine 95 = .ok (.iconst 0, 1) := by decide +kernel
theorem dX5_takeSignOrLine_96 : decode cX5_takeSignOrLine 96 = .ok (.bipush 10, 2) := by decide +kernel
theorem dX5_takeSignOrLine_98 : decode cX5_takeSignOrLine 98 = .ok (.invokevirtual 133, 3) := by decide +kernel
theorem dX5_takeSignOrLine_101 : decode cX5_takeSignOrLine 101 = .ok (.goto 8, 3) := by decide +kernel
theorem dX5_takeSignOrLine_104 : decode cX5_takeSignOrLine 104 = .ok (.aload_n 0, 1) := by decide +kernel
theorem dX5_takeSignOrLine_105 : decode cX5_takeSignOrLine 105 = .ok (.iconst 1, 1) := by decide +kernel
theorem dX5_takeSignOrLine_106 : decode cX5_takeSignOrLine 106 = .ok (.invokevirtual 118, 3) := by decide +kernel
theorem dX5_takeSignOrLine_109 : decode cX5_takeSignOrLine 109 = .ok (.return_, 1) := by decide +kernel
theorem kSX5_takeSignOrLine : yX5_takeSignOrLine.cls ≠ "java/lang/invoke/MethodHandle" ∧ yX5_takeSignOrLine.cls ≠ "java/lang/invoke/VarHandle" ∧ (parseMethodDescriptor yX5_takeSignOrLine.desc).map (fun d => d.parameters.length) = some 1 := by decide +kernel
theorem kVX5_takeSignOrLine : yX5_takeSignOrLine.cls = RX5 ∧ yX5_takeSignOrLine.cls ≠ "java/lang/invoke/MethodHandle" ∧ yX5_takeSignOrLine.cls ≠ "java/lang/invoke/VarHandle" ∧ (parseMethodDescriptor yX5_takeSignOrLine.desc).map (fun d => d.parameters.length) = some 1 := ⟨rfl, kSX5_takeSignOrLine⟩
theorem dX5_takeSignName_0 : decode cX5_takeSignName 0 = .ok (.iload_n 1, 1) := by decide +kernel
theorem dX5_takeSignName_1 : decode cX5_takeSignName 1 = .ok (.iconst 2, 1) := by decide +kernel
theorem dX5_takeSignName_2 : decode cX5_takeSignName 2 = .ok (.if_icmp .eq 11, 3) := by decide +kernel
theorem dX5_takeSignName_5 : decode cX5_takeSignName 5 = .ok (.aload_n 0, 1) := by decide +kernel
theorem dX5_takeSignName_6 : decode cX5_takeSignName 6 = .ok (.iconst 1, 1) := by decide +kernel
theorem dX5_takeSignName_7 : decode cX5_takeSignName 7 = .ok (.invokevirtual 118, 3) := by decide +kernel
theorem dX5_takeSignName_10 : decode cX5_takeSignName 10 = .ok (.goto 80, 3) := by decide +kernel
theorem dX5_takeSignName_13 : decode cX5_takeSignName 13 = .ok (.aload_n 0, 1) := by decide +kernel
theorem dX5_takeSignName_14 : decode cX5_takeSignName 14 = .ok (.invokevirtual 145, 3) := by decide +kernel
theorem dX5_takeSignName_17 : decode cX5_takeSignName 17 = .ok (.iconst (-1), 1) := by decide +kernel
theorem dX5_takeSignName_18 : decode cX5_takeSignName 18 = .ok (.if_icmp .eq 11, 3) := by decide +kernel
theorem dX5_takeSignName_21 : decode cX5_takeSignName 21 = .ok (.aload_n 0, 1) := by decide +kernel
theorem dX5_takeSignName_22 : decode cX5_takeSignName 22 = .ok (.iconst 2, 1) := by decide +kernel
theorem dX5_takeSignName_23 : decode cX5_takeSignName 23 = .ok (.invokevirtual 118, 3) := by decide +kernel
theorem dX5_takeSignName_26 : decode cX5_takeSignName 26 = .ok (.goto 64, 3) := by decide +kernel
theorem dX5_takeSignName_29 : decode cX5_takeSignName 29 = .ok (.aload_n 0, 1) := by decide +kernel
theorem dX5_takeSignName_30 : decode cX5_takeSignName 30 = .ok (.getfield 22, 3) := by decide +kernel
theorem dX5_takeSignName_33 : decode cX5_takeSignName 33 = .ok (.aload_n 0, 1) := by decide +kernel
theorem dX5_takeSignName_34 : decode cX5_takeSignName 34 = .ok (.getfield 33, 3) := by decide +kernel
theorem dX5_takeSignName_37 : decode cX5_takeSignName 37 = .ok (.getfield 130, 3) := by decide +kernel
theorem dX5_takeSignName_40 : decode cX5_takeSignName 40 = .ok (.aload_n 0, 1) := by decide +kernel
theorem dX5_takeSignName_41 : decode cX5_takeSignName 41 = .ok (.getfield 9, 3) := by decide +kernel
theorem dX5_takeSignName_44 : decode cX5_takeSignName 44 = .ok (.getfield 74, 3) := by decide +kernel
theorem dX5_takeSignName_47 : decode cX5_takeSignName 47 = .ok (.invokevirtual 142, 3) := by decide +kernel
theorem dX5_takeSignName_50 : decode cX5_takeSignName 50 = .ok (.aload_n 0, 1) := by decide +kernel
theorem dX5_takeSignName_51 : decode cX5_takeSignName 51 = .ok (.getfield 26, 3) := by decide +kernel
theorem dX5_takeSignName_54 : decode cX5_takeSignName 54 = .ok (.aload_n 0, 1) := by decide +kernel
theorem dX5_takeSignName_55 : decode cX5_takeSignName 55 = .ok (.getfield 33, 3) := by decide +kernel
theorem dX5_takeSignName_58 : decode cX5_takeSignName 58 = .ok (.getfield 130, 3) := by decide +kernel
theorem dX5_takeSignName_61 : decode cX5_takeSignName 61 = .ok (.aload_n 0, 1) := by decide +kernel
theorem dX5_takeSignName_62 : decode cX5_takeSignName 62 = .ok (.getfield 9, 3) := by decide +kernel
theorem dX5_takeSignName_65 : decode cX5_takeSignName 65 = .ok (.invokevirtual 149, 3) := by decide +kernel
theorem dX5_takeSignName_68 : decode cX5_takeSignName 68 = .ok (.invokevirtual 142, 3) := by decide +kernel
theorem dX5_takeSignName_71 : decode cX5_takeSignName 71 = .ok (.aload_n 0, 1) := by decide +kernel
theorem dX5_takeSignName_72 : decode cX5_takeSignName 72 = .ok (.getfield 33, 3) := by decide +kernel
theorem dX5_takeSignName_75 : decode cX5_takeSignName 75 = .ok (.dup, 1) := by decide +kernel
theorem dX5_takeSignName_76 : decode cX5_takeSignName 76 = .ok (.getfield 130, 3) := by decide +kernel
theorem dX5_takeSignName_79 : decode cX5_takeSignName 79 = .ok (.iconst 1, 1) := by decide +kernel
theorem dX5_takeSignName_80 : decode cX5_takeSignName 80 = .ok (.iadd, 1) := by decide +kernel
theorem dX5_takeSignName_81 : decode cX5_takeSignName 81 = .ok (.putfield 130, 3) := by decide +kernel
theorem dX5_takeSignName_84 : decode cX5_takeSignName 84 = .ok (.aload_n 0, 1) := by decide +kernel
theorem dX5_takeSignName_85 : decode cX5_takeSignName 85 = .ok (.bipush 8, 2) := by decide +kernel
theorem dX5_takeSignName_87 : decode cX5_takeSignName 87 = .ok (.putfield 52, 3) := by decide +kernel
theorem dX5_takeSignName_90 : decode cX5_takeSignName 90 = .ok (.return_, 1) := by decide +kernel
theorem kSX5_takeSignName : yX5_takeSignName.cls ≠ "java/lang/invoke/MethodHandle" ∧ yX5_takeSignName.cls ≠ "java/lang/invoke/VarHandle" ∧ (parseMethodDescriptor yX5_takeSignName.desc).map (fun d => d.parameters.length) = some 1 := by decide +kernel
theorem kVX5_takeSignName : yX5_takeSignName.cls = RX5 ∧ yX5_takeSignName.cls ≠ "java/lang/invoke/MethodHandle" ∧ yX5_takeSignName.cls ≠ "java/lang/invoke/VarHandle" ∧ (parseMethodDescriptor yX5_takeSignName.desc).map (fun d => d.parameters.length) = some 1 := ⟨rfl, kSX5_takeSignName⟩
theorem dX5_takePoints_0 : decode cX5_takePoints 0 = .ok (.iload_n 1, 1) := by decide +kernel
theorem dX5_takePoints_1 : decode cX5_takePoints 1 = .ok (.iconst 3, 1) := by decide +kernel
theorem dX5_takePoints_2 : decode cX5_takePoints 2 = .ok (.if_icmp .ne 36, 3) := by decide +kernel
theorem dX5_takePoints_5 : decode cX5_takePoints 5 = .ok (.aload_n 0, 1) := by decide +kernel
theorem dX5_takePoints_6 : decode cX5_takePoints 6 = .ok (.getfield 33, 3) := by decide +kernel
theorem dX5_takePoints_9 : decode cX5_takePoints 9 = .ok (.getfield 136, 3) := by decide +kernel
theorem dX5_takePoints_12 : decode cX5_takePoints 12 = .ok (.aload_n 0, 1) := by decide +kernel
theorem dX5_takePoints_13 : decode cX5_takePoints 13 = .ok (.getfield 33, 3) := by decide +kernel
theorem dX5_takePoints_16 : decode cX5_takePoints 16 = .ok (.getfield 139, 3) := by decide +kernel
theorem dX5_takePoints_19 : decode cX5_takePoints 19 = .ok (.aload_n 0, 1) := by decide +kernel
theorem dX5_takePoints_20 : decode cX5_takePoints 20 = .ok (.getfield 9, 3) := by decide +kernel
theorem dX5_takePoints_23 : decode cX5_takePoints 23 = .ok (.getfield 121, 3) := by decide +kernel
theorem dX5_takePoints_26 : decode cX5_takePoints 26 = .ok (.invokevirtual 142, 3) := by decide +kernel
theorem dX5_takePoints_29 : decode cX5_takePoints 29 = .ok (.aload_n 0, 1) := by decide +kernel
theorem dX5_takePoints_30 : decode cX5_takePoints 30 = .ok (.bipush 11, 2) := by decide +kernel
theorem dX5_takePoints_32 : decode cX5_takePoints 32 = .ok (.putfield 52, 3) := by decide +kernel
theorem dX5_takePoints_35 : decode cX5_takePoints 35 = .ok (.goto 20, 3) := by decide +kernel
theorem dX5_takePoints_38 : decode cX5_takePoints 38 = .ok (.aload_n 0, 1) := by decide +kernel
theorem dX5_takePoints_39 : decode cX5_takePoints 39 = .ok (.iload_n 1, 1) := by decide +kernel
theorem dX5_takePoints_40 : decode cX5_takePoints 40 = .ok (.bipush 8, 2) := by decide +kernel
theorem dX5_takePoints_42 : decode cX5_takePoints 42 = .ok (.if_icmp .ne 7, 3) := by decide +kernel
theorem dX5_takePoints_45 : decode cX5_takePoints 45 = .ok (.iconst 1, 1) := by decide +kernel
theorem dX5_takePoints_46 : decode cX5_takePoints 46 = .ok (.goto 4, 3) := by decide +kernel
theorem dX5_takePoints_49 : decode cX5_takePoints 49 = .ok (.iconst 0, 1) := by decide +kernel
theorem dX5_takePoints_50 : decode cX5_takePoints 50 = .ok (.bipush 12, 2) := by decide +kernel
theorem dX5_takePoints_52 : decode cX5_takePoints 52 = .ok (.invokevirtual 96, 3) := by decide +kernel
theorem dX5_takePoints_55 : decode cX5_takePoints 55 = .ok (.return_, 1) := by decide +kernel
theorem kSX5_takePoints : yX5_takePoints.cls ≠ "java/lang/invoke/MethodHandle" ∧ yX5_takePoints.cls ≠ "java/lang/invoke/VarHandle" ∧ (parseMethodDescriptor yX5_takePoints.desc).map (fun d => d.parameters.length) = some 1 := by decide +kernel
theorem kVX5_takePoints : yX5_takePoints.cls = RX5 ∧ yX5_takePoints.cls ≠ "java/lang/invoke/MethodHandle" ∧ yX5_takePoints.cls ≠ "java/lang/invoke/VarHandle" ∧ (parseMethodDescriptor yX5_takePoints.desc).map (fun d => d.parameters.length) = some 1 := ⟨rfl, kSX5_takePoints⟩
theorem dX5_takeBehindTerm_0 : decode cX5_takeBehindTerm 0 = .ok (.iload_n 1, 1) := by decide +kernel
theorem dX5_takeBehindTerm_1 : decode cX5_takeBehindTerm 1 = .ok (.bipush 20, 2) := by decide +kernel
theorem dX5_takeBehindTerm_3 : decode cX5_takeBehindTerm 3 = .ok (.if_icmp .eq 9, 3) := by decide +kernel
theorem dX5_takeBehindTerm_6 : decode cX5_takeBehindTerm 6 = .ok (.iload_n 1, 1) := by decide +kernel
theorem dX5_takeBehindTerm_7 : decode cX5_takeBehindTerm 7 = .ok (.bipush 21, 2) := by decide +kernel
theorem dX5_takeBehindTerm_9 : decode cX5_takeBehindTerm 9 = .ok (.if_icmp .ne 17, 3) := by decide +kernel
theorem dX5_takeBehindTerm_12 : decode cX5_takeBehindTerm 12 = .ok (.aload_n 0, 1) := by decide +kernel
theorem dX5_takeBehindTerm_13 : decode cX5_takeBehindTerm 13 = .ok (.bipush 13, 2) := by decide +kernel
theorem dX5_takeBehindTerm_15 : decode cX5_takeBehindTerm 15 = .ok (.invokevirtual 163, 3) := by decide +kernel
theorem dX5_takeBehindTerm_18 : decode cX5_takeBehindTerm 18 = .ok (.aload_n 0, 1) := by decide +kernel
theorem dX5_takeBehindTerm_19 : decode cX5_takeBehindTerm 19 = .ok (.iload_n 1, 1) := by decide +kernel
theorem dX5_takeBehindTerm_20 : decode cX5_takeBehindTerm 20 = .ok (.putfield 160, 3) := by decide +kernel
theorem dX5_takeBehindTerm_23 : decode cX5_takeBehindTerm 23 = .ok (.goto 34, 3) := by decide +kernel
theorem dX5_takeBehindTerm_26 : decode cX5_takeBehindTerm 26 = .ok (.iload_n 1, 1) := by decide +kernel
theorem dX5_takeBehindTerm_27 : decode cX5_takeBehindTerm 27 = .ok (.bipush 22, 2) := by decide +kernel
theorem dX5_takeBehindTerm_29 : decode cX5_takeBehindTerm 29 = .ok (.if_icmp .lt 23, 3) := by decide +kernel
theorem dX5_takeBehindTerm_32 : decode cX5_takeBehindTerm 32 = .ok (.iload_n 1, 1) := by decide +kernel
theorem dX5_takeBehindTerm_33 : decode cX5_takeBehindTerm 33 = .ok (.bipush 27, 2) := by decide +kernel
theorem dX5_takeBehindTerm_35 : decode cX5_takeBehindTerm 35 = .ok (.if_icmp .gt 17, 3) := by decide +kernel
theorem dX5_takeBehindTerm_38 : decode cX5_takeBehindTerm 38 = .ok (.aload_n 0, 1) := by decide +kernel
theorem dX5_takeBehindTerm_39 : decode cX5_takeBehindTerm 39 = .ok (.bipush 13, 2) := by decide +kernel
theorem dX5_takeBehindTerm_41 : decode cX5_takeBehindTerm 41 = .ok (.invokevirtual 163, 3) := by decide +kernel
theorem dX5_takeBehindTerm_44 : decode cX5_takeBehindTerm 44 = .ok (.aload_n 0, 1) := by decide +kernel
theorem dX5_takeBehindTerm_45 : decode cX5_takeBehindTerm 45 = .ok (.iload_n 1, 1) := by decide +kernel
theorem dX5_takeBehindTerm_46 : decode cX5_takeBehindTerm 46 = .ok (.putfield 84, 3) := by decide +kernel
theorem dX5_takeBehindTerm_49 : decode cX5_takeBehindTerm 49 = .ok (.goto 8, 3) := by decide +kernel
theorem dX5_takeBehindTerm_52 : decode cX5_takeBehindTerm 52 = .ok (.aload_n 0, 1) := by decide +kernel
theorem dX5_takeBehindTerm_53 : decode cX5_takeBehindTerm 53 = .ok (.iconst 1, 1) := by decide +kernel
theorem dX5_takeBehindTerm_54 : decode cX5_takeBehindTerm 54 = .ok (.invokevirtual 118, 3) := by decide +kernel
theorem dX5_takeBehindTerm_57 : decode cX5_takeBehindTerm 57 = .ok (.return_, 1) := by decide +kernel
theorem kSX5_takeBehindTerm : yX5_takeBehindTerm.cls ≠ "java/lang/invoke/MethodHandle" ∧ yX5_takeBehindTerm.cls ≠ "java/lang/invoke/VarHandle" ∧ (parseMethodDescriptor yX5_takeBehindTerm.desc).map (fun d => d.parameters.length) = some 1 := by decide +kernel
theorem kVX5_takeBehindTerm : yX5_takeBehindTerm.cls = RX5 ∧ yX5_takeBehindTerm.cls ≠ "java/lang/invoke/MethodHandle" ∧ yX5_takeBehindTerm.cls ≠ "java/lang/invoke/VarHandle" ∧ (parseMethodDescriptor yX5_takeBehindTerm.desc).map (fun d => d.parameters.length) = some 1 := ⟨rfl, kSX5_takeBehindTerm⟩
theorem dX5_takeBehindCond_0 : decode cX5_takeBehindCond 0 = .ok (.iload_n 1, 1) := by decide +kernel
theorem dX5_takeBehindCond_1 : decode cX5_takeBehindCond 1 = .ok (.bipush 10, 2) := by decide +kernel
theorem dX5_takeBehindCond_3 : decode cX5_takeBehindCond 3 = .ok (.if_icmp .eq 9, 3) := by decide +kernel
theorem dX5_takeBehindCond_6 : decode cX5_takeBehindCond 6 = .ok (.iload_n 1, 1) := by decide +kernel
theorem dX5_takeBehindCond_7 : decode cX5_takeBehindCond 7 = .ok (.bipush 9, 2) := by decide +kernel
theorem dX5_takeBehindCond_9 : decode cX5_takeBehindCond 9 = .ok (.if_icmp .ne 22, 3) := by decide +kernel
theorem dX5_takeBehindCond_12 : decode cX5_takeBehindCond 12 = .ok (.aload_n 0, 1) := by decide +kernel
theorem dX5_takeBehindCond_13 : decode cX5_takeBehindCond 13 = .ok (.bipush 12, 2) := by decide +kernel
theorem dX5_takeBehindCond_15 : decode cX5_takeBehindCond 15 = .ok (.invokevirtual 163, 3) := by decide +kernel
theorem dX5_takeBehindCond_18 : decode cX5_takeBehindCond 18 = .ok (.aload_n 0, 1) := by decide +kernel
theorem dX5_takeBehindCond_19 : decode cX5_takeBehindCond 19 = .ok (.iload_n 1, 1) := by decide +kernel
theorem dX5_takeBehindCond_20 : decode cX5_takeBehindCond 20 = .ok (.invokevirtual 187, 3) := by decide +kernel
theorem dX5_takeBehindCond_23 : decode cX5_takeBehindCond 23 = .ok (.aload_n 0, 1) := by decide +kernel
theorem dX5_takeBehindCond_24 : decode cX5_takeBehindCond 24 = .ok (.iload_n 1, 1) := by decide +kernel
theorem dX5_takeBehindCond_25 : decode cX5_takeBehindCond 25 = .ok (.invokevirtual 178, 3) := by decide +kernel
theorem dX5_takeBehindCond_28 : decode cX5_takeBehindCond 28 = .ok (.goto 69, 3) := by decide +kernel
theorem dX5_takeBehindCond_31 : decode cX5_takeBehindCond 31 = .ok (.iload_n 1, 1) := by decide +kernel
theorem dX5_takeBehindCond_32 : decode cX5_takeBehindCond 32 = .ok (.bipush 18, 2) := by decide +kernel
theorem dX5_takeBehindCond_34 : decode cX5_takeBehindCond 34 = .ok (.if_icmp .ne 23, 3) := by decide +kernel
theorem dX5_takeBehindCond_37 : decode cX5_takeBehindCond 37 = .ok (.aload_n 0, 1) := by decide +kernel
theorem dX5_takeBehindCond_38 : decode cX5_takeBehindCond 38 = .ok (.getfield 61, 3) := by decide +kernel
theorem dX5_takeBehindCond_41 : decode cX5_takeBehindCond 41 = .ok (.ifCond .le 16, 3) := by decide +kernel
theorem dX5_takeBehindCond_44 : decode cX5_takeBehindCond 44 = .ok (.aload_n 0, 1) := by decide +kernel
theorem dX5_takeBehindCond_45 : decode cX5_takeBehindCond 45 = .ok (.invokevirtual 190, 3) := by decide +kernel
theorem dX5_takeBehindCond_48 : decode cX5_takeBehindCond 48 = .ok (.aload_n 0, 1) := by decide +kernel
theorem dX5_takeBehindCond_49 : decode cX5_takeBehindCond 49 = .ok (.bipush 16, 2) := by decide +kernel
theorem dX5_takeBehindCond_51 : decode cX5_takeBehindCond 51 = .ok (.putfield 52, 3) := by decide +kernel
theorem dX5_takeBehindCond_54 : decode cX5_takeBehindCond 54 = .ok (.goto 43, 3) := by decide +kernel
theorem dX5_takeBehindCond_57 : decode cX5_takeBehindCond 57 = .ok (.iload_n 1, 1) := by decide +kernel
theorem dX5_takeBehindCond_58 : decode cX5_takeBehindCond 58 = .ok (.bipush 19, 2) := by decide +kernel
theorem dX5_takeBehindCond_60 : decode cX5_takeBehindCond 60 = .ok (.if_icmp .ne 32, 3) := by decide +kernel
theorem dX5_takeBehindCond_63 : decode cX5_takeBehindCond 63 = .ok (.aload_n 0, 1) := by decide +kernel
theorem dX5_takeBehindCond_64 : decode cX5_takeBehindCond 64 = .ok (.getfield 61, 3) := by decide +kernel
theorem dX5_takeBehindCond_67 : decode cX5_takeBehindCond 67 = .ok (.ifCond .ne 25, 3) := by decide +kernel
theorem dX5_takeBehindCond_70 : decode cX5_takeBehindCond 70 = .ok (.aload_n 0, 1) := by decide +kernel
theorem dX5_takeBehindCond_71 : decode cX5_takeBehindCond 71 = .ok (.bipush 9, 2) := by decide +kernel
theorem dX5_takeBehindCond_73 : decode cX5_takeBehindCond 73 = .ok (.invokevirtual 187, 3) := by decide +kernel
theorem dX5_takeBehindCond_76 : decode cX5_takeBehindCond 76 = .ok (.aload_n 0, 1) := by decide +kernel
theorem dX5_takeBehindCond_77 : decode cX5_takeBehindCond 77 = .ok (.getfield 33, 3) := by decide +kernel
theorem dX5_takeBehindCond_80 : decode cX5_takeBehindCond 80 = .ok (.invokevirtual 193, 3) := by decide +kernel
theorem dX5_takeBehindCond_83 : decode cX5_takeBehindCond 83 = .ok (.aload_n 0, 1) := by decide +kernel
theorem dX5_takeBehindCond_84 : decode cX5_takeBehindCond 84 = .ok (.bipush 9, 2) := by decide +kernel
theorem dX5_takeBehindCond_86 : decode cX5_takeBehindCond 86 = .ok (.putfield 52, 3) := by decide +kernel
theorem dX5_takeBehindCond_89 : decode cX5_takeBehindCond 89 = .ok (.goto 8, 3) := by decide +kernel
theorem dX5_takeBehindCond_92 : decode cX5_takeBehindCond 92 = .ok (.aload_n 0, 1) := by decide +kernel
theorem dX5_takeBehindCond_93 : decode cX5_takeBehindCond 93 = .ok (.iconst 1, 1) := by decide +kernel
theorem dX5_takeBehindCond_94 : decode cX5_takeBehindCond 94 = .ok (.invokevirtual 118, 3) := by decide +kernel
theorem dX5_takeBehindCond_97 : decode cX5_takeBehindCond 97 = .ok (.return_, 1) := by decide +kernel
theorem kSX5_takeBehindCond : yX5_takeBehindCond.cls ≠ "java/lang/invoke/MethodHandle" ∧ yX5_takeBehindCond.cls ≠ "java/lang/invoke/VarHandle" ∧ (parseMethodDescriptor yX5_takeBehindCond.desc).map (fun d => d.parameters.length) = some 1 := by decide +kernel
theorem kVX5_takeBehindCond : yX5_takeBehindCond.cls = RX5 ∧ yX5_takeBehindCond.cls ≠ "java/lang/invoke/MethodHandle" ∧ yX5_takeBehindCond.cls ≠ "java/lang/invoke/VarHandle" ∧ (parseMethodDescriptor yX5_takeBehindCond.desc).map (fun d => d.parameters.length) = some 1 := ⟨rfl, kSX5_takeBehindCond⟩
theorem dX5_takeCond_0 : decode cX5_takeCond 0 = .ok (.aload_n 0, 1) := by decide +kernel
theorem dX5_takeCond_1 : decode cX5_takeCond 1 = .ok (.iconst 0, 1) := by decide +kernel
theorem dX5_takeCond_2 : decode cX5_takeCond 2 = .ok (.putfield 84, 3) := by decide +kernel
theorem dX5_takeCond_5 : decode cX5_takeCond 5 = .ok (.aload_n 0, 1) := by decide +kernel
theorem dX5_takeCond_6 : decode cX5_takeCond 6 = .ok (.iconst 0, 1) := by decide +kernel
theorem dX5_takeCond_7 : decode cX5_takeCond 7 = .ok (.putfield 160, 3) := by decide +kernel
theorem dX5_takeCond_10 : decode cX5_takeCond 10 = .ok (.iload_n 1, 1) := by decide +kernel
theorem dX5_takeCond_11 : decode cX5_takeCond 11 = .ok (.bipush 11, 2) := by decide +kernel
theorem dX5_takeCond_13 : decode cX5_takeCond 13 = .ok (.if_icmp .ne 17, 3) := by decide +kernel
theorem dX5_takeCond_16 : decode cX5_takeCond 16 = .ok (.aload_n 0, 1) := by decide +kernel
theorem dX5_takeCond_17 : decode cX5_takeCond 17 = .ok (.bipush 12, 2) := by decide +kernel
theorem dX5_takeCond_19 : decode cX5_takeCond 19 = .ok (.invokevirtual 163, 3) := by decide +kernel
theorem dX5_takeCond_22 : decode cX5_takeCond 22 = .ok (.aload_n 0, 1) := by decide +kernel
theorem dX5_takeCond_23 : decode cX5_takeCond 23 = .ok (.iload_n 1, 1) := by decide +kernel
theorem dX5_takeCond_24 : decode cX5_takeCond 24 = .ok (.invokevirtual 166, 3) := by decide +kernel
theorem dX5_takeCond_27 : decode cX5_takeCond 27 = .ok (.goto 66, 3) := by decide +kernel
theorem dX5_takeCond_30 : decode cX5_takeCond 30 = .ok (.iload_n 1, 1) := by decide +kernel
theorem dX5_takeCond_31 : decode cX5_takeCond 31 = .ok (.bipush 17, 2) := by decide +kernel
theorem dX5_takeCond_33 : decode cX5_takeCond 33 = .ok (.if_icmp .ne 21, 3) := by decide +kernel
theorem dX5_takeCond_36 : decode cX5_takeCond 36 = .ok (.aload_n 0, 1) := by decide +kernel
theorem dX5_takeCond_37 : decode cX5_takeCond 37 = .ok (.iload_n 1, 1) := by decide +kernel
theorem dX5_takeCond_38 : decode cX5_takeCond 38 = .ok (.invokevirtual 166, 3) := by decide +kernel
theorem dX5_takeCond_41 : decode cX5_takeCond 41 = .ok (.aload_n 0, 1) := by decide +kernel
theorem dX5_takeCond_42 : decode cX5_takeCond 42 = .ok (.dup, 1) := by decide +kernel
theorem dX5_takeCond_43 : decode cX5_takeCond 43 = .ok (.getfield 61, 3) := by decide +kernel
theorem dX5_takeCond_46 : decode cX5_takeCond 46 = .ok (.iconst 1, 1) := by decide +kernel
theorem dX5_takeCond_47 : decode cX5_takeCond 47 = .ok (.iadd, 1) := by decide +kernel
theorem dX5_takeCond_48 : decode cX5_takeCond 48 = .ok (.putfield 61, 3) := by decide +kernel
theorem dX5_takeCond_51 : decode cX5_takeCond 51 = .ok (.goto 42, 3) := by decide +kernel
theorem dX5_takeCond_54 : decode cX5_takeCond 54 = .ok (.iload_n 1, 1) := by decide +kernel
theorem dX5_takeCond_55 : decode cX5_takeCond 55 = .ok (.bipush 12, 2) := by decide +kernel
theorem dX5_takeCond_57 : decode cX5_takeCond 57 = .ok (.if_icmp .eq 9, 3) := by decide +kernel
theorem dX5_takeCond_60 : decode cX5_takeCond 60 = .ok (.iload_n 1, 1) := by decide +kernel
theorem dX5_takeCond_61 : decode cX5_takeCond 61 = .ok (.bipush 13, 2) := by decide +kernel
theorem dX5_takeCond_63 : decode cX5_takeCond 63 = .ok (.if_icmp .ne 25, 3) := by decide +kernel
theorem dX5_takeCond_66 : decode cX5_takeCond 66 = .ok (.aload_n 0, 1) := by decide +kernel
theorem dX5_takeCond_67 : decode cX5_takeCond 67 = .ok (.bipush 16, 2) := by decide +kernel
theorem dX5_takeCond_69 : decode cX5_takeCond 69 = .ok (.invokevirtual 163, 3) := by decide +kernel
theorem dX5_takeCond_72 : decode cX5_takeCond 72 = .ok (.aload_n 0, 1) := by decide +kernel
theorem dX5_takeCond_73 : decode cX5_takeCond 73 = .ok (.getfield 33, 3) := by decide +kernel
theorem dX5_takeCond_76 : decode cX5_takeCond 76 = .ok (.iload_n 1, 1) := by decide +kernel
theorem dX5_takeCond_77 : decode cX5_takeCond 77 = .ok (.iconst 0, 1) := by decide +kernel
theorem dX5_takeCond_78 : decode cX5_takeCond 78 = .ok (.invokevirtual 169, 3) := by decide +kernel
theorem dX5_takeCond_81 : decode cX5_takeCond 81 = .ok (.aload_n 0, 1) := by decide +kernel
theorem dX5_takeCond_82 : decode cX5_takeCond 82 = .ok (.invokevirtual 172, 3) := by decide +kernel
theorem dX5_takeCond_85 : decode cX5_takeCond 85 = .ok (.goto 8, 3) := by decide +kernel
theorem dX5_takeCond_88 : decode cX5_takeCond 88 = .ok (.aload_n 0, 1) := by decide +kernel
theorem dX5_takeCond_89 : decode cX5_takeCond 89 = .ok (.iload_n 1, 1) := by decide +kernel
theorem dX5_takeCond_90 : decode cX5_takeCond 90 = .ok (.invokevirtual 106, 3) := by decide +kernel
theorem dX5_takeCond_93 : decode cX5_takeCond 93 = .ok (.return_, 1) := by decide +kernel
theorem kSX5_takeCond : yX5_takeCond.cls ≠ "java/lang/invoke/MethodHandle" ∧ yX5_takeCond.cls ≠ "java/lang/invoke/VarHandle" ∧ (parseMethodDescriptor yX5_takeCond.desc).map (fun d => d.parameters.length) = some 1 := by decide +kernel
theorem kVX5_takeCond : yX5_takeCond.cls = RX5 ∧ yX5_takeCond.cls ≠ "java/lang/invoke/MethodHandle" ∧ yX5_takeCond.cls ≠ "java/lang/invoke/VarHandle" ∧ (parseMethodDescriptor yX5_takeCond.desc).map (fun d => d.parameters.length) = some 1 := ⟨rfl, kSX5_takeCond⟩
end
