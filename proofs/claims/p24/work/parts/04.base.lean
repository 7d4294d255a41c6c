/-! ===== base: the constants of a walk (G: class numbers, slots, the three array classes), bundles, pre rows ===== -/
abbrev gG : Type := (Nat → ClassId) × (Nat → Nat → Nat) × ClassId × ClassId × ClassId
abbrev gD (G : gG) : va_G := (G.1, G.2.1)
abbrev gI (G : gG) : ClassId := G.2.2.1
abbrev gB (G : gG) : ClassId := G.2.2.2.1
abbrev gZ (G : gG) : ClassId := G.2.2.2.2
abbrev gT (G : gG) : List (ClassId × FieldType) := [(gI G, .int), (gB G, .byte), (gZ G, .boolean)]
def nestF : List (String × Nat × String × String × String × String) := [("JudoHall", 92, "JudoHall$Tape", "length", "I", "JudoHall"), ("JudoHall", 125, "JudoHall$Laws", "lines", "I", "JudoHall"), ("JudoHall", 128, "JudoHall$Parser", "fault", "I", "JudoHall"), ("JudoHall", 131, "JudoHall$Parser", "place", "I", "JudoHall"), ("JudoHall", 249, "JudoHall$Laws", "time", "I", "JudoHall"), ("JudoHall", 263, "JudoHall$Laws", "signs", "I", "JudoHall"), ("JudoHall", 314, "JudoHall$Book", "entries", "I", "JudoHall"), ("JudoHall", 320, "JudoHall$Laws", "parts", "I", "JudoHall"), ("JudoHall$Floor", 68, "JudoHall$Laws", "golden", "I", "JudoHall"), ("JudoHall$Floor", 80, "JudoHall$Laws", "lines", "I", "JudoHall"), ("JudoHall$Floor", 87, "JudoHall$Laws", "points", "LJudoHall$Row;", "JudoHall"), ("JudoHall$Floor", 103, "JudoHall$Laws", "ends", "LJudoHall$Row;", "JudoHall"), ("JudoHall$Parser", 67, "JudoHall$Tape", "kind", "I", "JudoHall"), ("JudoHall$Parser", 74, "JudoHall$Tape", "from", "I", "JudoHall"), ("JudoHall$Parser", 121, "JudoHall$Tape", "value", "I", "JudoHall"), ("JudoHall$Parser", 124, "JudoHall$Laws", "time", "I", "JudoHall"), ("JudoHall$Parser", 127, "JudoHall$Laws", "golden", "I", "JudoHall"), ("JudoHall$Parser", 130, "JudoHall$Laws", "signs", "I", "JudoHall"), ("JudoHall$Parser", 136, "JudoHall$Laws", "points", "LJudoHall$Row;", "JudoHall"), ("JudoHall$Parser", 139, "JudoHall$Laws", "lines", "I", "JudoHall"), ("JudoHall$Parser", 175, "JudoHall$Laws", "parts", "I", "JudoHall")]
def nestM : List (String × Nat × MethodName × String) := [("JudoHall$Board", 55, yX11_isClass, "JudoHall")]
def KN (U : State) : Prop := (∀ q ∈ nestF, va_Nw (.fieldLinkNest q.1 q.2.1 q.2.2.1 q.2.2.2.1 q.2.2.2.2.1 q.2.2.2.2.2) U) ∧ ∀ q ∈ nestM, va_Nw (.methodLinkNest q.1 q.2.1 q.2.2.1 q.2.2.2) U
def KB (G : gG) (U : State) : Prop := va_K (gD G) vwCl (gT G) U ∧ KN U
theorem KB.moved {G : gG} {s U : State} (hW : s.WarmedH U.vm) (h : KB G s) : KB G U := ⟨va_K.moved hW.alike h.1, fun q hq => va_Nw.warmF hW (h.2.1 q hq), fun q hq => va_Nw.warmM hW (h.2.2 q hq)⟩
theorem KB.calling {G : gG} {U : State} (g : JFrame) (mk : MethodId) (a : Array Value) (h : KB G U) : KB G (U.calling g mk a) := h.moved (s := U) (U := U.calling g mk a) (State.WarmedH.refl U)
theorem KB.nf {G : gG} {s : State} {args : Array Value} (h : KB G s) (i : Nat) {a : String} {j : Nat} {b n d w : String} (hi : nestF[i]? = some (a, j, b, n, d, w)) : (Cond.fieldLinkNest a j b n d w).before args s = true := va_Nw.use rfl (h.2.1 (a, j, b, n, d, w) (List.mem_of_getElem? hi))
theorem KB.nmt {G : gG} {s : State} (h : KB G s) (i : Nat) {a : String} {j : Nat} {y : MethodName} {w : String} (hi : nestM[i]? = some (a, j, y, w)) : va_Nw (.methodLinkNest a j y w) s := h.2.2 (a, j, y, w) (List.mem_of_getElem? hi)
def pP (G : gG) (ws : va_W) (U : State) : Prop := va_P (gD G) vwCl ws U.heap ∧ KB G U
def mP (G : gG) (ws : va_W) (sz : Nat) (U : State) : Prop := U.heap.size = sz ∧ va_P (gD G) vwCl ws U.heap ∧ KB G U ∧ va_D (fun _ => True) ws
theorem pP.blind {G : gG} {ws : va_W} {av : List Value} : FrameBlind (va_Pc av (pP G ws)) := fun _ _ g mk q => ⟨q.1, q.2.1, q.2.2.calling g mk _⟩
theorem mP.blind {G : gG} {ws : va_W} {sz : Nat} {av : List Value} : FrameBlind (va_Pc av (mP G ws sz)) := fun _ _ g mk q => ⟨q.1, q.2.1, q.2.2.1, q.2.2.2.1.calling g mk _, q.2.2.2.2⟩
theorem preV_p {G : gG} {s : State} {H : Heap} {b ci : Nat} {As : List Value} {ws : va_W} {fs : List Value} {q : vw_C} (hP : va_P (gD G) vwCl ws H) (hB : KB G s) (he : ws[0]? = some (b, .inr (ci, fs))) (hc : vwCl[ci]? = some q) : PreV s H q.1 b (va_Pc (Value.ref b :: As) (pP G ws)) As :=
  ⟨pP.blind, va_recv hB.1 hP hc he, fun U hU hW => ⟨rfl, by rw [hU]; exact hP, hB.moved hW⟩⟩
theorem preS_p {G : gG} {s : State} {H : Heap} {As : List Value} {ws : va_W} (hP : va_P (gD G) vwCl ws H) (hB : KB G s) : PreS s H (va_Pc As (pP G ws)) As :=
  ⟨pP.blind, fun U hU hW => ⟨rfl, by rw [hU]; exact hP, hB.moved hW⟩⟩
theorem preV_m {G : gG} {s : State} {H : Heap} {b ci : Nat} {As : List Value} {ws : va_W} {fs : List Value} {q : vw_C} {A : Nat → Prop} (hP : va_P (gD G) vwCl ws H) (hB : KB G s) (hD : va_D A ws) (he : ws[0]? = some (b, .inr (ci, fs))) (hc : vwCl[ci]? = some q) : PreV s H q.1 b (va_Pc (Value.ref b :: As) (mP G ws H.size)) As :=
  ⟨mP.blind, va_recv hB.1 hP hc he, fun U hU hW => ⟨rfl, by rw [hU], by rw [hU]; exact hP, hB.moved hW, hD.weaken (fun _ _ _ _ => trivial)⟩⟩
theorem preS_m {G : gG} {s : State} {H : Heap} {As : List Value} {ws : va_W} {A : Nat → Prop} (hP : va_P (gD G) vwCl ws H) (hB : KB G s) (hD : va_D A ws) : PreS s H (va_Pc As (mP G ws H.size)) As :=
  ⟨mP.blind, fun U hU hW => ⟨rfl, by rw [hU], by rw [hU]; exact hP, hB.moved hW, hD.weaken (fun _ _ _ _ => trivial)⟩⟩
theorem ky_I {G : gG} {c : ClassId} {s : State} (h : va_K (gD G) vwCl (gT G ++ [(c, .int)]) s) : c = gI G := by
  have h1 : s.vm.findClass ("[" ++ FieldType.int.toString) = some c := (h.2 3 (c, .int) rfl).2
  have h2 : s.vm.findClass ("[" ++ FieldType.int.toString) = some (gI G) := (h.2 0 (gI G, .int) rfl).2
  exact Option.some.inj (h1.symm.trans h2)
theorem ky_B {G : gG} {c : ClassId} {s : State} (h : va_K (gD G) vwCl (gT G ++ [(c, .byte)]) s) : c = gB G := by
  have h1 : s.vm.findClass ("[" ++ FieldType.byte.toString) = some c := (h.2 3 (c, .byte) rfl).2
  have h2 : s.vm.findClass ("[" ++ FieldType.byte.toString) = some (gB G) := (h.2 1 (gB G, .byte) rfl).2
  exact Option.some.inj (h1.symm.trans h2)
theorem ky_Z {G : gG} {c : ClassId} {s : State} (h : va_K (gD G) vwCl (gT G ++ [(c, .boolean)]) s) : c = gZ G := by
  have h1 : s.vm.findClass ("[" ++ FieldType.boolean.toString) = some c := (h.2 3 (c, .boolean) rfl).2
  have h2 : s.vm.findClass ("[" ++ FieldType.boolean.toString) = some (gZ G) := (h.2 2 (gZ G, .boolean) rfl).2
  exact Option.some.inj (h1.symm.trans h2)
section GX
variable {p : Program} {l : Launch} {e : Env} {R : Room} {s : State} {m : MethodId} {args : Array Value} {below : List Frame} {meth : Method} {c : Code} {H : Heap} {locs : List Loc} {cells slots : Nat} {Q : State → Prop} {pc : Nat} {ls : Array Slot} {rest : List Value}
theorem gx_ti {x y : Int32} (h : x = y) (k : W p l e R s m args below meth c H locs cells slots Q (F0 m pc ls (.int y :: rest))) : W p l e R s m args below meth c H locs cells slots Q (F0 m pc ls (.int x :: rest)) := h ▸ k
end GX
def Gd (w : Cond) : Prop := (w.onTables && w.keeps) = true ∨ ∃ ty, w = .arrayClass ty
theorem gdl (l : List Cond) (h : l.all goodWord = true) : ∀ w ∈ l, Gd w := fun w hw => good_of_word (List.all_eq_true.mp h w hw)
theorem inT (ws : List Cond) (ps : List Nat) (hp : ws = ps.filterMap (fun i => lw_tbl[i]?)) : ∀ w ∈ ws, w ∈ lw_tbl := by
  intro w hw
  rw [hp] at hw
  obtain ⟨i, -, hi⟩ := List.mem_filterMap.mp hw
  exact List.mem_of_getElem? hi
theorem gdV {big ws : List Cond} {own C : String} {idx : Nat} {y : MethodName} (h1 : Cond.methodLink own idx y ∈ big) (h2 : Cond.instanceMethod y ∈ big) (h3 : Cond.selects C y y ∈ big) (h4 : Cond.initialized C ∈ big) (h : GoodIn big ws) : GoodIn big (wsV own idx C y ws) := by
  intro w hw
  unfold wsV at hw
  rcases List.mem_append.mp hw with hw | hw
  · simp only [List.mem_cons, List.not_mem_nil, or_false] at hw
    rcases hw with rfl | rfl | rfl | rfl
    · exact ⟨h1, Or.inl rfl⟩
    · exact ⟨h2, Or.inl rfl⟩
    · exact ⟨h3, Or.inl rfl⟩
    · exact ⟨h4, Or.inl rfl⟩
  · exact h w hw
theorem gdS {big ws : List Cond} {own : String} {idx : Nat} {y : MethodName} (h1 : Cond.methodLink own idx y ∈ big) (h2 : Cond.static y ∈ big) (h4 : Cond.initialized y.cls ∈ big) (h : GoodIn big ws) : GoodIn big (va_wsS own idx y ws) := by
  intro w hw
  unfold va_wsS at hw
  rcases List.mem_append.mp hw with hw | hw
  · simp only [List.mem_cons, List.not_mem_nil, or_false] at hw
    rcases hw with rfl | rfl | rfl
    · exact ⟨h1, Or.inl rfl⟩
    · exact ⟨h2, Or.inl rfl⟩
    · exact ⟨h4, Or.inl rfl⟩
  · exact h w hw
theorem gd_wsJx4a65c0 : ∀ w ∈ wsJx4a65c0, Gd w := gdl _ (by decide +kernel)
theorem in_wsJx4a65c0 : ∀ w ∈ wsJx4a65c0, w ∈ lw_tbl := inT _ [552, 548, 550] (by decide +kernel)
theorem gd_wsX00 : ∀ w ∈ wsX00, Gd w := gdl _ (by decide +kernel)
theorem in_wsX00 : ∀ w ∈ wsX00, w ∈ lw_tbl := inT _ [421, 423, 425, 427, 429, 431] (by decide +kernel)
theorem gd_wsX10 : ∀ w ∈ wsX10, Gd w := gdl _ (by decide +kernel)
theorem in_wsX10 : ∀ w ∈ wsX10, w ∈ lw_tbl := inT _ [232, 234, 236, 238, 240, 242] (by decide +kernel)
theorem gd_wsX20 : ∀ w ∈ wsX20, Gd w := gdl _ (by decide +kernel)
theorem in_wsX20 : ∀ w ∈ wsX20, w ∈ lw_tbl := inT _ [400, 402, 404] (by decide +kernel)
theorem gd_wsX30 : ∀ w ∈ wsX30, Gd w := gdl _ (by decide +kernel)
theorem in_wsX30 : ∀ w ∈ wsX30, w ∈ lw_tbl := inT _ [446, 448, 450, 452] (by decide +kernel)
theorem gd_wsX40 : ∀ w ∈ wsX40, Gd w := gdl _ (by decide +kernel)
theorem in_wsX40 : ∀ w ∈ wsX40, w ∈ lw_tbl := inT _ [315, 317, 319, 321, 323, 325, 327, 329, 331] (by decide +kernel)
theorem gd_wsX50 : ∀ w ∈ wsX50, Gd w := gdl _ (by decide +kernel)
theorem in_wsX50 : ∀ w ∈ wsX50, w ∈ lw_tbl := inT _ [350, 352, 354, 356, 358, 360, 362, 364, 366, 368, 370, 372, 374, 376] (by decide +kernel)
theorem gd_wsX60 : ∀ w ∈ wsX60, Gd w := gdl _ (by decide +kernel)
theorem in_wsX60 : ∀ w ∈ wsX60, w ∈ lw_tbl := inT _ [498, 500, 502, 504, 506, 508, 510, 512, 514, 516, 518, 520, 522, 524] (by decide +kernel)
theorem gd_wsX70 : ∀ w ∈ wsX70, Gd w := gdl _ (by decide +kernel)
theorem in_wsX70 : ∀ w ∈ wsX70, w ∈ lw_tbl := inT _ [467, 469, 471, 473] (by decide +kernel)
theorem gd_wsX80 : ∀ w ∈ wsX80, Gd w := gdl _ (by decide +kernel)
theorem in_wsX80 : ∀ w ∈ wsX80, w ∈ lw_tbl := inT _ [386] (by decide +kernel)
theorem gd_wsX90 : ∀ w ∈ wsX90, Gd w := gdl _ (by decide +kernel)
theorem in_wsX90 : ∀ w ∈ wsX90, w ∈ lw_tbl := inT _ [210] (by decide +kernel)
theorem gd_wsX100 : ∀ w ∈ wsX100, Gd w := gdl _ (by decide +kernel)
theorem in_wsX100 : ∀ w ∈ wsX100, w ∈ lw_tbl := inT _ [263, 265, 267, 269, 271, 273] (by decide +kernel)
theorem gd_wsX110 : ∀ w ∈ wsX110, Gd w := gdl _ (by decide +kernel)
theorem in_wsX110 : ∀ w ∈ wsX110, w ∈ lw_tbl := inT _ [566, 568, 570, 572, 574, 576, 578, 580, 582, 584, 586] (by decide +kernel)
theorem gd_wsX120 : ∀ w ∈ wsX120, Gd w := gdl _ (by decide +kernel)
theorem in_wsX120 : ∀ w ∈ wsX120, w ∈ lw_tbl := inT _ [1562, 1564, 1566, 1568, 1570, 1608] (by decide +kernel)
theorem gd_wsX130 : ∀ w ∈ wsX130, Gd w := gdl _ (by decide +kernel)
theorem in_wsX130 : ∀ w ∈ wsX130, w ∈ lw_tbl := inT _ [1690, 1692, 1694, 1696, 1698, 1700, 1702, 1704, 1706, 1708, 1710, 1712, 1714, 1716, 1718, 1720, 1722, 1724, 1726, 1728, 1730, 1732, 1734, 1736, 1738, 1740, 1742, 1744, 1746, 1748, 1750, 1752, 1754, 1756, 1758, 1760, 1762, 1764, 1766, 1768, 1770, 1772, 1774, 1776, 1778, 1780, 1782, 1784, 1786, 1788, 1790, 1792, 1794, 1796, 1798, 1800, 1802, 1804, 1806, 1808, 1810, 1812, 1814, 1816, 1818, 1820, 1822, 1824, 1826, 1828, 1830, 1832] (by decide +kernel)
theorem dvJx4a65c : ∀ j, j < 3 → defaultValue (tyJx4a65c j) = vp_V [.int 0, .null, .int 0] j := fun j hj => by
  match j, hj with
  | 0, _ => rfl
  | 1, _ => rfl
  | 2, _ => rfl
  | j + 3, h => exact absurd h (by omega)
theorem dvX0 : ∀ j, j < 6 → defaultValue (tyX0 j) = vp_V [.null, .null, .null, .null, .null, .null] j := fun j hj => by
  match j, hj with
  | 0, _ => rfl
  | 1, _ => rfl
  | 2, _ => rfl
  | 3, _ => rfl
  | 4, _ => rfl
  | 5, _ => rfl
  | j + 6, h => exact absurd h (by omega)
theorem dvX1 : ∀ j, j < 6 → defaultValue (tyX1 j) = vp_V [.null, .null, .null, .null, .int 0, .int 0] j := fun j hj => by
  match j, hj with
  | 0, _ => rfl
  | 1, _ => rfl
  | 2, _ => rfl
  | 3, _ => rfl
  | 4, _ => rfl
  | 5, _ => rfl
  | j + 6, h => exact absurd h (by omega)
theorem dvX2 : ∀ j, j < 3 → defaultValue (tyX2 j) = vp_V [.null, .null, .null] j := fun j hj => by
  match j, hj with
  | 0, _ => rfl
  | 1, _ => rfl
  | 2, _ => rfl
  | j + 3, h => exact absurd h (by omega)
theorem dvX3 : ∀ j, j < 4 → defaultValue (tyX3 j) = vp_V [.null, .null, .null, .int 0] j := fun j hj => by
  match j, hj with
  | 0, _ => rfl
  | 1, _ => rfl
  | 2, _ => rfl
  | 3, _ => rfl
  | j + 4, h => exact absurd h (by omega)
theorem dvX4 : ∀ j, j < 9 → defaultValue (tyX4 j) = vp_V [.int 0, .int 0, .int 0, .int 0, .int 0, .int 0, .null, .null, .null] j := fun j hj => by
  match j, hj with
  | 0, _ => rfl
  | 1, _ => rfl
  | 2, _ => rfl
  | 3, _ => rfl
  | 4, _ => rfl
  | 5, _ => rfl
  | 6, _ => rfl
  | 7, _ => rfl
  | 8, _ => rfl
  | j + 9, h => exact absurd h (by omega)
theorem dvX5 : ∀ j, j < 14 → defaultValue (tyX5 j) = vp_V [.null, .null, .null, .null, .null, .int 0, .int 0, .int 0, .int 0, .int 0, .int 0, .int 0, .int 0, .int 0] j := fun j hj => by
  match j, hj with
  | 0, _ => rfl
  | 1, _ => rfl
  | 2, _ => rfl
  | 3, _ => rfl
  | 4, _ => rfl
  | 5, _ => rfl
  | 6, _ => rfl
  | 7, _ => rfl
  | 8, _ => rfl
  | 9, _ => rfl
  | 10, _ => rfl
  | 11, _ => rfl
  | 12, _ => rfl
  | 13, _ => rfl
  | j + 14, h => exact absurd h (by omega)
theorem dvX6 : ∀ j, j < 14 → defaultValue (tyX6 j) = vp_V [.null, .null, .null, .null, .null, .null, .null, .null, .null, .null, .null, .int 0, .int 0, .int 0] j := fun j hj => by
  match j, hj with
  | 0, _ => rfl
  | 1, _ => rfl
  | 2, _ => rfl
  | 3, _ => rfl
  | 4, _ => rfl
  | 5, _ => rfl
  | 6, _ => rfl
  | 7, _ => rfl
  | 8, _ => rfl
  | 9, _ => rfl
  | 10, _ => rfl
  | 11, _ => rfl
  | 12, _ => rfl
  | 13, _ => rfl
  | j + 14, h => exact absurd h (by omega)
theorem dvX7 : ∀ j, j < 4 → defaultValue (tyX7 j) = vp_V [.null, .null, .null, .null] j := fun j hj => by
  match j, hj with
  | 0, _ => rfl
  | 1, _ => rfl
  | 2, _ => rfl
  | 3, _ => rfl
  | j + 4, h => exact absurd h (by omega)
theorem dvX8 : ∀ j, j < 1 → defaultValue (tyX8 j) = vp_V [.null] j := fun j hj => by
  match j, hj with
  | 0, _ => rfl
  | j + 1, h => exact absurd h (by omega)
theorem dvX9 : ∀ j, j < 1 → defaultValue (tyX9 j) = vp_V [.null] j := fun j hj => by
  match j, hj with
  | 0, _ => rfl
  | j + 1, h => exact absurd h (by omega)
theorem dvX10 : ∀ j, j < 6 → defaultValue (tyX10 j) = vp_V [.null, .int 0, .int 0, .int 0, .int 0, .int 0] j := fun j hj => by
  match j, hj with
  | 0, _ => rfl
  | 1, _ => rfl
  | 2, _ => rfl
  | 3, _ => rfl
  | 4, _ => rfl
  | 5, _ => rfl
  | j + 6, h => exact absurd h (by omega)
theorem dvX11 : ∀ j, j < 11 → defaultValue (tyX11 j) = vp_V [.null, .null, .null, .null, .null, .null, .null, .null, .null, .null, .null] j := fun j hj => by
  match j, hj with
  | 0, _ => rfl
  | 1, _ => rfl
  | 2, _ => rfl
  | 3, _ => rfl
  | 4, _ => rfl
  | 5, _ => rfl
  | 6, _ => rfl
  | 7, _ => rfl
  | 8, _ => rfl
  | 9, _ => rfl
  | 10, _ => rfl
  | j + 11, h => exact absurd h (by omega)
theorem dvX12 : ∀ j, j < 6 → defaultValue (tyX12 j) = vp_V [.null, .null, .null, .null, .null, .int 0] j := fun j hj => by
  match j, hj with
  | 0, _ => rfl
  | 1, _ => rfl
  | 2, _ => rfl
  | 3, _ => rfl
  | 4, _ => rfl
  | 5, _ => rfl
  | j + 6, h => exact absurd h (by omega)
theorem dvX13 : ∀ j, j < 72 → defaultValue (tyX13 j) = vp_V [.null, .null, .int 0, .int 0, .int 0, .null, .null, .null, .null, .null, .null, .null, .null, .null, .null, .null, .null, .null, .null, .null, .null, .null, .null, .null, .null, .null, .null, .int 0, .int 0, .int 0, .int 0, .int 0, .null, .null, .null, .null, .null, .null, .null, .null, .null, .null, .int 0, .int 0, .int 0, .int 0, .int 0, .int 0, .int 0, .int 0, .int 0, .int 0, .null, .int 0, .null, .int 0, .null, .null, .null, .null, .null, .null, .null, .null, .null, .null, .null, .null, .null, .int 0, .null, .null] j := fun j hj => by
  match j, hj with
  | 0, _ => rfl
  | 1, _ => rfl
  | 2, _ => rfl
  | 3, _ => rfl
  | 4, _ => rfl
  | 5, _ => rfl
  | 6, _ => rfl
  | 7, _ => rfl
  | 8, _ => rfl
  | 9, _ => rfl
  | 10, _ => rfl
  | 11, _ => rfl
  | 12, _ => rfl
  | 13, _ => rfl
  | 14, _ => rfl
  | 15, _ => rfl
  | 16, _ => rfl
  | 17, _ => rfl
  | 18, _ => rfl
  | 19, _ => rfl
  | 20, _ => rfl
  | 21, _ => rfl
  | 22, _ => rfl
  | 23, _ => rfl
  | 24, _ => rfl
  | 25, _ => rfl
  | 26, _ => rfl
  | 27, _ => rfl
  | 28, _ => rfl
  | 29, _ => rfl
  | 30, _ => rfl
  | 31, _ => rfl
  | 32, _ => rfl
  | 33, _ => rfl
  | 34, _ => rfl
  | 35, _ => rfl
  | 36, _ => rfl
  | 37, _ => rfl
  | 38, _ => rfl
  | 39, _ => rfl
  | 40, _ => rfl
  | 41, _ => rfl
  | 42, _ => rfl
  | 43, _ => rfl
  | 44, _ => rfl
  | 45, _ => rfl
  | 46, _ => rfl
  | 47, _ => rfl
  | 48, _ => rfl
  | 49, _ => rfl
  | 50, _ => rfl
  | 51, _ => rfl
  | 52, _ => rfl
  | 53, _ => rfl
  | 54, _ => rfl
  | 55, _ => rfl
  | 56, _ => rfl
  | 57, _ => rfl
  | 58, _ => rfl
  | 59, _ => rfl
  | 60, _ => rfl
  | 61, _ => rfl
  | 62, _ => rfl
  | 63, _ => rfl
  | 64, _ => rfl
  | 65, _ => rfl
  | 66, _ => rfl
  | 67, _ => rfl
  | 68, _ => rfl
  | 69, _ => rfl
  | 70, _ => rfl
  | 71, _ => rfl
  | j + 72, h => exact absurd h (by omega)
theorem kSX0_init : yX0_init.cls ≠ "java/lang/invoke/MethodHandle" ∧ yX0_init.cls ≠ "java/lang/invoke/VarHandle" ∧ (parseMethodDescriptor yX0_init.desc).map (fun d => d.parameters.length) = some 1 := by decide +kernel
theorem kSX0_slot : yX0_slot.cls ≠ "java/lang/invoke/MethodHandle" ∧ yX0_slot.cls ≠ "java/lang/invoke/VarHandle" ∧ (parseMethodDescriptor yX0_slot.desc).map (fun d => d.parameters.length) = some 2 := by decide +kernel
theorem kSX0_kindOf : yX0_kindOf.cls ≠ "java/lang/invoke/MethodHandle" ∧ yX0_kindOf.cls ≠ "java/lang/invoke/VarHandle" ∧ (parseMethodDescriptor yX0_kindOf.desc).map (fun d => d.parameters.length) = some 1 := by decide +kernel
theorem kVX0_kindOf : yX0_kindOf.cls = RX0 ∧ yX0_kindOf.cls ≠ "java/lang/invoke/MethodHandle" ∧ yX0_kindOf.cls ≠ "java/lang/invoke/VarHandle" ∧ (parseMethodDescriptor yX0_kindOf.desc).map (fun d => d.parameters.length) = some 1 := ⟨rfl, kSX0_kindOf⟩
theorem kSX0_sizeOf : yX0_sizeOf.cls ≠ "java/lang/invoke/MethodHandle" ∧ yX0_sizeOf.cls ≠ "java/lang/invoke/VarHandle" ∧ (parseMethodDescriptor yX0_sizeOf.desc).map (fun d => d.parameters.length) = some 1 := by decide +kernel
theorem kVX0_sizeOf : yX0_sizeOf.cls = RX0 ∧ yX0_sizeOf.cls ≠ "java/lang/invoke/MethodHandle" ∧ yX0_sizeOf.cls ≠ "java/lang/invoke/VarHandle" ∧ (parseMethodDescriptor yX0_sizeOf.desc).map (fun d => d.parameters.length) = some 1 := ⟨rfl, kSX0_sizeOf⟩
theorem kSX0_isDrawn : yX0_isDrawn.cls ≠ "java/lang/invoke/MethodHandle" ∧ yX0_isDrawn.cls ≠ "java/lang/invoke/VarHandle" ∧ (parseMethodDescriptor yX0_isDrawn.desc).map (fun d => d.parameters.length) = some 1 := by decide +kernel
theorem kVX0_isDrawn : yX0_isDrawn.cls = RX0 ∧ yX0_isDrawn.cls ≠ "java/lang/invoke/MethodHandle" ∧ yX0_isDrawn.cls ≠ "java/lang/invoke/VarHandle" ∧ (parseMethodDescriptor yX0_isDrawn.desc).map (fun d => d.parameters.length) = some 1 := ⟨rfl, kSX0_isDrawn⟩
theorem kSX0_onPlace : yX0_onPlace.cls ≠ "java/lang/invoke/MethodHandle" ∧ yX0_onPlace.cls ≠ "java/lang/invoke/VarHandle" ∧ (parseMethodDescriptor yX0_onPlace.desc).map (fun d => d.parameters.length) = some 2 := by decide +kernel
theorem kVX0_onPlace : yX0_onPlace.cls = RX0 ∧ yX0_onPlace.cls ≠ "java/lang/invoke/MethodHandle" ∧ yX0_onPlace.cls ≠ "java/lang/invoke/VarHandle" ∧ (parseMethodDescriptor yX0_onPlace.desc).map (fun d => d.parameters.length) = some 2 := ⟨rfl, kSX0_onPlace⟩
theorem kSX0_fightsOf : yX0_fightsOf.cls ≠ "java/lang/invoke/MethodHandle" ∧ yX0_fightsOf.cls ≠ "java/lang/invoke/VarHandle" ∧ (parseMethodDescriptor yX0_fightsOf.desc).map (fun d => d.parameters.length) = some 1 := by decide +kernel
theorem kVX0_fightsOf : yX0_fightsOf.cls = RX0 ∧ yX0_fightsOf.cls ≠ "java/lang/invoke/MethodHandle" ∧ yX0_fightsOf.cls ≠ "java/lang/invoke/VarHandle" ∧ (parseMethodDescriptor yX0_fightsOf.desc).map (fun d => d.parameters.length) = some 1 := ⟨rfl, kSX0_fightsOf⟩
theorem kSX0_stepsOf : yX0_stepsOf.cls ≠ "java/lang/invoke/MethodHandle" ∧ yX0_stepsOf.cls ≠ "java/lang/invoke/VarHandle" ∧ (parseMethodDescriptor yX0_stepsOf.desc).map (fun d => d.parameters.length) = some 1 := by decide +kernel
theorem kSX0_has : yX0_has.cls ≠ "java/lang/invoke/MethodHandle" ∧ yX0_has.cls ≠ "java/lang/invoke/VarHandle" ∧ (parseMethodDescriptor yX0_has.desc).map (fun d => d.parameters.length) = some 2 := by decide +kernel
theorem kVX0_has : yX0_has.cls = RX0 ∧ yX0_has.cls ≠ "java/lang/invoke/MethodHandle" ∧ yX0_has.cls ≠ "java/lang/invoke/VarHandle" ∧ (parseMethodDescriptor yX0_has.desc).map (fun d => d.parameters.length) = some 2 := ⟨rfl, kSX0_has⟩
theorem kSX0_whiteOf : yX0_whiteOf.cls ≠ "java/lang/invoke/MethodHandle" ∧ yX0_whiteOf.cls ≠ "java/lang/invoke/VarHandle" ∧ (parseMethodDescriptor yX0_whiteOf.desc).map (fun d => d.parameters.length) = some 2 := by decide +kernel
theorem kVX0_whiteOf : yX0_whiteOf.cls = RX0 ∧ yX0_whiteOf.cls ≠ "java/lang/invoke/MethodHandle" ∧ yX0_whiteOf.cls ≠ "java/lang/invoke/VarHandle" ∧ (parseMethodDescriptor yX0_whiteOf.desc).map (fun d => d.parameters.length) = some 2 := ⟨rfl, kSX0_whiteOf⟩
theorem kSX0_blueOf : yX0_blueOf.cls ≠ "java/lang/invoke/MethodHandle" ∧ yX0_blueOf.cls ≠ "java/lang/invoke/VarHandle" ∧ (parseMethodDescriptor yX0_blueOf.desc).map (fun d => d.parameters.length) = some 2 := by decide +kernel
theorem kVX0_blueOf : yX0_blueOf.cls = RX0 ∧ yX0_blueOf.cls ≠ "java/lang/invoke/MethodHandle" ∧ yX0_blueOf.cls ≠ "java/lang/invoke/VarHandle" ∧ (parseMethodDescriptor yX0_blueOf.desc).map (fun d => d.parameters.length) = some 2 := ⟨rfl, kSX0_blueOf⟩
theorem kSX0_winnerOf : yX0_winnerOf.cls ≠ "java/lang/invoke/MethodHandle" ∧ yX0_winnerOf.cls ≠ "java/lang/invoke/VarHandle" ∧ (parseMethodDescriptor yX0_winnerOf.desc).map (fun d => d.parameters.length) = some 2 := by decide +kernel
theorem kVX0_winnerOf : yX0_winnerOf.cls = RX0 ∧ yX0_winnerOf.cls ≠ "java/lang/invoke/MethodHandle" ∧ yX0_winnerOf.cls ≠ "java/lang/invoke/VarHandle" ∧ (parseMethodDescriptor yX0_winnerOf.desc).map (fun d => d.parameters.length) = some 2 := ⟨rfl, kSX0_winnerOf⟩
theorem kSX0_stateOf : yX0_stateOf.cls ≠ "java/lang/invoke/MethodHandle" ∧ yX0_stateOf.cls ≠ "java/lang/invoke/VarHandle" ∧ (parseMethodDescriptor yX0_stateOf.desc).map (fun d => d.parameters.length) = some 2 := by decide +kernel
theorem kVX0_stateOf : yX0_stateOf.cls = RX0 ∧ yX0_stateOf.cls ≠ "java/lang/invoke/MethodHandle" ∧ yX0_stateOf.cls ≠ "java/lang/invoke/VarHandle" ∧ (parseMethodDescriptor yX0_stateOf.desc).map (fun d => d.parameters.length) = some 2 := ⟨rfl, kSX0_stateOf⟩
theorem kSX0_loserOf : yX0_loserOf.cls ≠ "java/lang/invoke/MethodHandle" ∧ yX0_loserOf.cls ≠ "java/lang/invoke/VarHandle" ∧ (parseMethodDescriptor yX0_loserOf.desc).map (fun d => d.parameters.length) = some 2 := by decide +kernel
theorem kVX0_loserOf : yX0_loserOf.cls = RX0 ∧ yX0_loserOf.cls ≠ "java/lang/invoke/MethodHandle" ∧ yX0_loserOf.cls ≠ "java/lang/invoke/VarHandle" ∧ (parseMethodDescriptor yX0_loserOf.desc).map (fun d => d.parameters.length) = some 2 := ⟨rfl, kSX0_loserOf⟩
theorem kSX0_howMany : yX0_howMany.cls ≠ "java/lang/invoke/MethodHandle" ∧ yX0_howMany.cls ≠ "java/lang/invoke/VarHandle" ∧ (parseMethodDescriptor yX0_howMany.desc).map (fun d => d.parameters.length) = some 2 := by decide +kernel
theorem kVX0_howMany : yX0_howMany.cls = RX0 ∧ yX0_howMany.cls ≠ "java/lang/invoke/MethodHandle" ∧ yX0_howMany.cls ≠ "java/lang/invoke/VarHandle" ∧ (parseMethodDescriptor yX0_howMany.desc).map (fun d => d.parameters.length) = some 2 := ⟨rfl, kSX0_howMany⟩
theorem kSX1_init : yX1_init.cls ≠ "java/lang/invoke/MethodHandle" ∧ yX1_init.cls ≠ "java/lang/invoke/VarHandle" ∧ (parseMethodDescriptor yX1_init.desc).map (fun d => d.parameters.length) = some 0 := by decide +kernel
theorem kSX1_ofClass : yX1_ofClass.cls ≠ "java/lang/invoke/MethodHandle" ∧ yX1_ofClass.cls ≠ "java/lang/invoke/VarHandle" ∧ (parseMethodDescriptor yX1_ofClass.desc).map (fun d => d.parameters.length) = some 2 := by decide +kernel
theorem kSX1_ofFighter : yX1_ofFighter.cls ≠ "java/lang/invoke/MethodHandle" ∧ yX1_ofFighter.cls ≠ "java/lang/invoke/VarHandle" ∧ (parseMethodDescriptor yX1_ofFighter.desc).map (fun d => d.parameters.length) = some 2 := by decide +kernel
theorem kSX1_ofFight : yX1_ofFight.cls ≠ "java/lang/invoke/MethodHandle" ∧ yX1_ofFight.cls ≠ "java/lang/invoke/VarHandle" ∧ (parseMethodDescriptor yX1_ofFight.desc).map (fun d => d.parameters.length) = some 3 := by decide +kernel
theorem kSX1_ofMat : yX1_ofMat.cls ≠ "java/lang/invoke/MethodHandle" ∧ yX1_ofMat.cls ≠ "java/lang/invoke/VarHandle" ∧ (parseMethodDescriptor yX1_ofMat.desc).map (fun d => d.parameters.length) = some 2 := by decide +kernel
theorem kSX1_at : yX1_at.cls ≠ "java/lang/invoke/MethodHandle" ∧ yX1_at.cls ≠ "java/lang/invoke/VarHandle" ∧ (parseMethodDescriptor yX1_at.desc).map (fun d => d.parameters.length) = some 1 := by decide +kernel
theorem kVX1_at : yX1_at.cls = RX1 ∧ yX1_at.cls ≠ "java/lang/invoke/MethodHandle" ∧ yX1_at.cls ≠ "java/lang/invoke/VarHandle" ∧ (parseMethodDescriptor yX1_at.desc).map (fun d => d.parameters.length) = some 1 := ⟨rfl, kSX1_at⟩
theorem kSX1_lay : yX1_lay.cls ≠ "java/lang/invoke/MethodHandle" ∧ yX1_lay.cls ≠ "java/lang/invoke/VarHandle" ∧ (parseMethodDescriptor yX1_lay.desc).map (fun d => d.parameters.length) = some 2 := by decide +kernel
theorem kVX1_lay : yX1_lay.cls = RX1 ∧ yX1_lay.cls ≠ "java/lang/invoke/MethodHandle" ∧ yX1_lay.cls ≠ "java/lang/invoke/VarHandle" ∧ (parseMethodDescriptor yX1_lay.desc).map (fun d => d.parameters.length) = some 2 := ⟨rfl, kSX1_lay⟩
theorem kSX1_put : yX1_put.cls ≠ "java/lang/invoke/MethodHandle" ∧ yX1_put.cls ≠ "java/lang/invoke/VarHandle" ∧ (parseMethodDescriptor yX1_put.desc).map (fun d => d.parameters.length) = some 2 := by decide +kernel
theorem kVX1_put : yX1_put.cls = RX1 ∧ yX1_put.cls ≠ "java/lang/invoke/MethodHandle" ∧ yX1_put.cls ≠ "java/lang/invoke/VarHandle" ∧ (parseMethodDescriptor yX1_put.desc).map (fun d => d.parameters.length) = some 2 := ⟨rfl, kSX1_put⟩
theorem kSX1_isFull : yX1_isFull.cls ≠ "java/lang/invoke/MethodHandle" ∧ yX1_isFull.cls ≠ "java/lang/invoke/VarHandle" ∧ (parseMethodDescriptor yX1_isFull.desc).map (fun d => d.parameters.length) = some 0 := by decide +kernel
theorem kVX1_isFull : yX1_isFull.cls = RX1 ∧ yX1_isFull.cls ≠ "java/lang/invoke/MethodHandle" ∧ yX1_isFull.cls ≠ "java/lang/invoke/VarHandle" ∧ (parseMethodDescriptor yX1_isFull.desc).map (fun d => d.parameters.length) = some 0 := ⟨rfl, kSX1_isFull⟩
theorem kSX1_openEntry : yX1_openEntry.cls ≠ "java/lang/invoke/MethodHandle" ∧ yX1_openEntry.cls ≠ "java/lang/invoke/VarHandle" ∧ (parseMethodDescriptor yX1_openEntry.desc).map (fun d => d.parameters.length) = some 0 := by decide +kernel
theorem kVX1_openEntry : yX1_openEntry.cls = RX1 ∧ yX1_openEntry.cls ≠ "java/lang/invoke/MethodHandle" ∧ yX1_openEntry.cls ≠ "java/lang/invoke/VarHandle" ∧ (parseMethodDescriptor yX1_openEntry.desc).map (fun d => d.parameters.length) = some 0 := ⟨rfl, kSX1_openEntry⟩
theorem kSX2_init : yX2_init.cls ≠ "java/lang/invoke/MethodHandle" ∧ yX2_init.cls ≠ "java/lang/invoke/VarHandle" ∧ (parseMethodDescriptor yX2_init.desc).map (fun d => d.parameters.length) = some 1 := by decide +kernel
theorem kSX3_init : yX3_init.cls ≠ "java/lang/invoke/MethodHandle" ∧ yX3_init.cls ≠ "java/lang/invoke/VarHandle" ∧ (parseMethodDescriptor yX3_init.desc).map (fun d => d.parameters.length) = some 2 := by decide +kernel
theorem kSX3_on : yX3_on.cls ≠ "java/lang/invoke/MethodHandle" ∧ yX3_on.cls ≠ "java/lang/invoke/VarHandle" ∧ (parseMethodDescriptor yX3_on.desc).map (fun d => d.parameters.length) = some 2 := by decide +kernel
theorem kVX3_on : yX3_on.cls = RX3 ∧ yX3_on.cls ≠ "java/lang/invoke/MethodHandle" ∧ yX3_on.cls ≠ "java/lang/invoke/VarHandle" ∧ (parseMethodDescriptor yX3_on.desc).map (fun d => d.parameters.length) = some 2 := ⟨rfl, kSX3_on⟩
theorem kSX3_isFree : yX3_isFree.cls ≠ "java/lang/invoke/MethodHandle" ∧ yX3_isFree.cls ≠ "java/lang/invoke/VarHandle" ∧ (parseMethodDescriptor yX3_isFree.desc).map (fun d => d.parameters.length) = some 1 := by decide +kernel
theorem kVX3_isFree : yX3_isFree.cls = RX3 ∧ yX3_isFree.cls ≠ "java/lang/invoke/MethodHandle" ∧ yX3_isFree.cls ≠ "java/lang/invoke/VarHandle" ∧ (parseMethodDescriptor yX3_isFree.desc).map (fun d => d.parameters.length) = some 1 := ⟨rfl, kSX3_isFree⟩
theorem kSX3_classOn : yX3_classOn.cls ≠ "java/lang/invoke/MethodHandle" ∧ yX3_classOn.cls ≠ "java/lang/invoke/VarHandle" ∧ (parseMethodDescriptor yX3_classOn.desc).map (fun d => d.parameters.length) = some 1 := by decide +kernel
theorem kVX3_classOn : yX3_classOn.cls = RX3 ∧ yX3_classOn.cls ≠ "java/lang/invoke/MethodHandle" ∧ yX3_classOn.cls ≠ "java/lang/invoke/VarHandle" ∧ (parseMethodDescriptor yX3_classOn.desc).map (fun d => d.parameters.length) = some 1 := ⟨rfl, kSX3_classOn⟩
theorem kSX3_waits : yX3_waits.cls ≠ "java/lang/invoke/MethodHandle" ∧ yX3_waits.cls ≠ "java/lang/invoke/VarHandle" ∧ (parseMethodDescriptor yX3_waits.desc).map (fun d => d.parameters.length) = some 1 := by decide +kernel
theorem kVX3_waits : yX3_waits.cls = RX3 ∧ yX3_waits.cls ≠ "java/lang/invoke/MethodHandle" ∧ yX3_waits.cls ≠ "java/lang/invoke/VarHandle" ∧ (parseMethodDescriptor yX3_waits.desc).map (fun d => d.parameters.length) = some 1 := ⟨rfl, kSX3_waits⟩
theorem kSX3_goesOn : yX3_goesOn.cls ≠ "java/lang/invoke/MethodHandle" ∧ yX3_goesOn.cls ≠ "java/lang/invoke/VarHandle" ∧ (parseMethodDescriptor yX3_goesOn.desc).map (fun d => d.parameters.length) = some 1 := by decide +kernel
theorem kVX3_goesOn : yX3_goesOn.cls = RX3 ∧ yX3_goesOn.cls ≠ "java/lang/invoke/MethodHandle" ∧ yX3_goesOn.cls ≠ "java/lang/invoke/VarHandle" ∧ (parseMethodDescriptor yX3_goesOn.desc).map (fun d => d.parameters.length) = some 1 := ⟨rfl, kSX3_goesOn⟩
theorem kSX3_signsOf : yX3_signsOf.cls ≠ "java/lang/invoke/MethodHandle" ∧ yX3_signsOf.cls ≠ "java/lang/invoke/VarHandle" ∧ (parseMethodDescriptor yX3_signsOf.desc).map (fun d => d.parameters.length) = some 3 := by decide +kernel
theorem kVX3_signsOf : yX3_signsOf.cls = RX3 ∧ yX3_signsOf.cls ≠ "java/lang/invoke/MethodHandle" ∧ yX3_signsOf.cls ≠ "java/lang/invoke/VarHandle" ∧ (parseMethodDescriptor yX3_signsOf.desc).map (fun d => d.parameters.length) = some 3 := ⟨rfl, kSX3_signsOf⟩
theorem kSX3_openFights : yX3_openFights.cls ≠ "java/lang/invoke/MethodHandle" ∧ yX3_openFights.cls ≠ "java/lang/invoke/VarHandle" ∧ (parseMethodDescriptor yX3_openFights.desc).map (fun d => d.parameters.length) = some 0 := by decide +kernel
theorem kVX3_openFights : yX3_openFights.cls = RX3 ∧ yX3_openFights.cls ≠ "java/lang/invoke/MethodHandle" ∧ yX3_openFights.cls ≠ "java/lang/invoke/VarHandle" ∧ (parseMethodDescriptor yX3_openFights.desc).map (fun d => d.parameters.length) = some 0 := ⟨rfl, kSX3_openFights⟩
theorem kSX4_init : yX4_init.cls ≠ "java/lang/invoke/MethodHandle" ∧ yX4_init.cls ≠ "java/lang/invoke/VarHandle" ∧ (parseMethodDescriptor yX4_init.desc).map (fun d => d.parameters.length) = some 0 := by decide +kernel
theorem kSX4_clear : yX4_clear.cls ≠ "java/lang/invoke/MethodHandle" ∧ yX4_clear.cls ≠ "java/lang/invoke/VarHandle" ∧ (parseMethodDescriptor yX4_clear.desc).map (fun d => d.parameters.length) = some 0 := by decide +kernel
theorem kVX4_clear : yX4_clear.cls = RX4 ∧ yX4_clear.cls ≠ "java/lang/invoke/MethodHandle" ∧ yX4_clear.cls ≠ "java/lang/invoke/VarHandle" ∧ (parseMethodDescriptor yX4_clear.desc).map (fun d => d.parameters.length) = some 0 := ⟨rfl, kSX4_clear⟩
theorem kSX5_init : yX5_init.cls ≠ "java/lang/invoke/MethodHandle" ∧ yX5_init.cls ≠ "java/lang/invoke/VarHandle" ∧ (parseMethodDescriptor yX5_init.desc).map (fun d => d.parameters.length) = some 1 := by decide +kernel
theorem kSX5_readLaws : yX5_readLaws.cls ≠ "java/lang/invoke/MethodHandle" ∧ yX5_readLaws.cls ≠ "java/lang/invoke/VarHandle" ∧ (parseMethodDescriptor yX5_readLaws.desc).map (fun d => d.parameters.length) = some 0 := by decide +kernel
theorem kVX5_readLaws : yX5_readLaws.cls = RX5 ∧ yX5_readLaws.cls ≠ "java/lang/invoke/MethodHandle" ∧ yX5_readLaws.cls ≠ "java/lang/invoke/VarHandle" ∧ (parseMethodDescriptor yX5_readLaws.desc).map (fun d => d.parameters.length) = some 0 := ⟨rfl, kSX5_readLaws⟩
theorem kSX5_fail : yX5_fail.cls ≠ "java/lang/invoke/MethodHandle" ∧ yX5_fail.cls ≠ "java/lang/invoke/VarHandle" ∧ (parseMethodDescriptor yX5_fail.desc).map (fun d => d.parameters.length) = some 1 := by decide +kernel
theorem kVX5_fail : yX5_fail.cls = RX5 ∧ yX5_fail.cls ≠ "java/lang/invoke/MethodHandle" ∧ yX5_fail.cls ≠ "java/lang/invoke/VarHandle" ∧ (parseMethodDescriptor yX5_fail.desc).map (fun d => d.parameters.length) = some 1 := ⟨rfl, kSX5_fail⟩
theorem kSX5_take : yX5_take.cls ≠ "java/lang/invoke/MethodHandle" ∧ yX5_take.cls ≠ "java/lang/invoke/VarHandle" ∧ (parseMethodDescriptor yX5_take.desc).map (fun d => d.parameters.length) = some 1 := by decide +kernel
theorem kVX5_take : yX5_take.cls = RX5 ∧ yX5_take.cls ≠ "java/lang/invoke/MethodHandle" ∧ yX5_take.cls ≠ "java/lang/invoke/VarHandle" ∧ (parseMethodDescriptor yX5_take.desc).map (fun d => d.parameters.length) = some 1 := ⟨rfl, kSX5_take⟩
theorem kSX5_goIf : yX5_goIf.cls ≠ "java/lang/invoke/MethodHandle" ∧ yX5_goIf.cls ≠ "java/lang/invoke/VarHandle" ∧ (parseMethodDescriptor yX5_goIf.desc).map (fun d => d.parameters.length) = some 2 := by decide +kernel
theorem kVX5_goIf : yX5_goIf.cls = RX5 ∧ yX5_goIf.cls ≠ "java/lang/invoke/MethodHandle" ∧ yX5_goIf.cls ≠ "java/lang/invoke/VarHandle" ∧ (parseMethodDescriptor yX5_goIf.desc).map (fun d => d.parameters.length) = some 2 := ⟨rfl, kSX5_goIf⟩
theorem kSX5_takeHead : yX5_takeHead.cls ≠ "java/lang/invoke/MethodHandle" ∧ yX5_takeHead.cls ≠ "java/lang/invoke/VarHandle" ∧ (parseMethodDescriptor yX5_takeHead.desc).map (fun d => d.parameters.length) = some 1 := by decide +kernel
theorem kVX5_takeHead : yX5_takeHead.cls = RX5 ∧ yX5_takeHead.cls ≠ "java/lang/invoke/MethodHandle" ∧ yX5_takeHead.cls ≠ "java/lang/invoke/VarHandle" ∧ (parseMethodDescriptor yX5_takeHead.desc).map (fun d => d.parameters.length) = some 1 := ⟨rfl, kSX5_takeHead⟩
theorem kSX6_init : yX6_init.cls ≠ "java/lang/invoke/MethodHandle" ∧ yX6_init.cls ≠ "java/lang/invoke/VarHandle" ∧ (parseMethodDescriptor yX6_init.desc).map (fun d => d.parameters.length) = some 2 := by decide +kernel
theorem kSX6_tell : yX6_tell.cls ≠ "java/lang/invoke/MethodHandle" ∧ yX6_tell.cls ≠ "java/lang/invoke/VarHandle" ∧ (parseMethodDescriptor yX6_tell.desc).map (fun d => d.parameters.length) = some 3 := by decide +kernel
theorem kVX6_tell : yX6_tell.cls = RX6 ∧ yX6_tell.cls ≠ "java/lang/invoke/MethodHandle" ∧ yX6_tell.cls ≠ "java/lang/invoke/VarHandle" ∧ (parseMethodDescriptor yX6_tell.desc).map (fun d => d.parameters.length) = some 3 := ⟨rfl, kSX6_tell⟩
theorem kSX6_planDay : yX6_planDay.cls ≠ "java/lang/invoke/MethodHandle" ∧ yX6_planDay.cls ≠ "java/lang/invoke/VarHandle" ∧ (parseMethodDescriptor yX6_planDay.desc).map (fun d => d.parameters.length) = some 2 := by decide +kernel
theorem kVX6_planDay : yX6_planDay.cls = RX6 ∧ yX6_planDay.cls ≠ "java/lang/invoke/MethodHandle" ∧ yX6_planDay.cls ≠ "java/lang/invoke/VarHandle" ∧ (parseMethodDescriptor yX6_planDay.desc).map (fun d => d.parameters.length) = some 2 := ⟨rfl, kSX6_planDay⟩
theorem kSX6_clear : yX6_clear.cls ≠ "java/lang/invoke/MethodHandle" ∧ yX6_clear.cls ≠ "java/lang/invoke/VarHandle" ∧ (parseMethodDescriptor yX6_clear.desc).map (fun d => d.parameters.length) = some 0 := by decide +kernel
theorem kVX6_clear : yX6_clear.cls = RX6 ∧ yX6_clear.cls ≠ "java/lang/invoke/MethodHandle" ∧ yX6_clear.cls ≠ "java/lang/invoke/VarHandle" ∧ (parseMethodDescriptor yX6_clear.desc).map (fun d => d.parameters.length) = some 0 := ⟨rfl, kSX6_clear⟩
theorem kSX6_keep : yX6_keep.cls ≠ "java/lang/invoke/MethodHandle" ∧ yX6_keep.cls ≠ "java/lang/invoke/VarHandle" ∧ (parseMethodDescriptor yX6_keep.desc).map (fun d => d.parameters.length) = some 0 := by decide +kernel
theorem kVX6_keep : yX6_keep.cls = RX6 ∧ yX6_keep.cls ≠ "java/lang/invoke/MethodHandle" ∧ yX6_keep.cls ≠ "java/lang/invoke/VarHandle" ∧ (parseMethodDescriptor yX6_keep.desc).map (fun d => d.parameters.length) = some 0 := ⟨rfl, kSX6_keep⟩
theorem kSX6_putOpenOnes : yX6_putOpenOnes.cls ≠ "java/lang/invoke/MethodHandle" ∧ yX6_putOpenOnes.cls ≠ "java/lang/invoke/VarHandle" ∧ (parseMethodDescriptor yX6_putOpenOnes.desc).map (fun d => d.parameters.length) = some 0 := by decide +kernel
theorem kVX6_putOpenOnes : yX6_putOpenOnes.cls = RX6 ∧ yX6_putOpenOnes.cls ≠ "java/lang/invoke/MethodHandle" ∧ yX6_putOpenOnes.cls ≠ "java/lang/invoke/VarHandle" ∧ (parseMethodDescriptor yX6_putOpenOnes.desc).map (fun d => d.parameters.length) = some 0 := ⟨rfl, kSX6_putOpenOnes⟩
theorem kSX6_putInOrder : yX6_putInOrder.cls ≠ "java/lang/invoke/MethodHandle" ∧ yX6_putInOrder.cls ≠ "java/lang/invoke/VarHandle" ∧ (parseMethodDescriptor yX6_putInOrder.desc).map (fun d => d.parameters.length) = some 0 := by decide +kernel
theorem kVX6_putInOrder : yX6_putInOrder.cls = RX6 ∧ yX6_putInOrder.cls ≠ "java/lang/invoke/MethodHandle" ∧ yX6_putInOrder.cls ≠ "java/lang/invoke/VarHandle" ∧ (parseMethodDescriptor yX6_putInOrder.desc).map (fun d => d.parameters.length) = some 0 := ⟨rfl, kSX6_putInOrder⟩
theorem kSX6_putStageInOrder : yX6_putStageInOrder.cls ≠ "java/lang/invoke/MethodHandle" ∧ yX6_putStageInOrder.cls ≠ "java/lang/invoke/VarHandle" ∧ (parseMethodDescriptor yX6_putStageInOrder.desc).map (fun d => d.parameters.length) = some 2 := by decide +kernel
theorem kVX6_putStageInOrder : yX6_putStageInOrder.cls = RX6 ∧ yX6_putStageInOrder.cls ≠ "java/lang/invoke/MethodHandle" ∧ yX6_putStageInOrder.cls ≠ "java/lang/invoke/VarHandle" ∧ (parseMethodDescriptor yX6_putStageInOrder.desc).map (fun d => d.parameters.length) = some 2 := ⟨rfl, kSX6_putStageInOrder⟩
theorem kSX6_findEarliest : yX6_findEarliest.cls ≠ "java/lang/invoke/MethodHandle" ∧ yX6_findEarliest.cls ≠ "java/lang/invoke/VarHandle" ∧ (parseMethodDescriptor yX6_findEarliest.desc).map (fun d => d.parameters.length) = some 1 := by decide +kernel
theorem kVX6_findEarliest : yX6_findEarliest.cls = RX6 ∧ yX6_findEarliest.cls ≠ "java/lang/invoke/MethodHandle" ∧ yX6_findEarliest.cls ≠ "java/lang/invoke/VarHandle" ∧ (parseMethodDescriptor yX6_findEarliest.desc).map (fun d => d.parameters.length) = some 1 := ⟨rfl, kSX6_findEarliest⟩
theorem kSX7_init : yX7_init.cls ≠ "java/lang/invoke/MethodHandle" ∧ yX7_init.cls ≠ "java/lang/invoke/VarHandle" ∧ (parseMethodDescriptor yX7_init.desc).map (fun d => d.parameters.length) = some 2 := by decide +kernel
theorem kSX8_init : yX8_init.cls ≠ "java/lang/invoke/MethodHandle" ∧ yX8_init.cls ≠ "java/lang/invoke/VarHandle" ∧ (parseMethodDescriptor yX8_init.desc).map (fun d => d.parameters.length) = some 1 := by decide +kernel
theorem kSX8_people : yX8_people.cls ≠ "java/lang/invoke/MethodHandle" ∧ yX8_people.cls ≠ "java/lang/invoke/VarHandle" ∧ (parseMethodDescriptor yX8_people.desc).map (fun d => d.parameters.length) = some 0 := by decide +kernel
theorem kVX8_people : yX8_people.cls = RX8 ∧ yX8_people.cls ≠ "java/lang/invoke/MethodHandle" ∧ yX8_people.cls ≠ "java/lang/invoke/VarHandle" ∧ (parseMethodDescriptor yX8_people.desc).map (fun d => d.parameters.length) = some 0 := ⟨rfl, kSX8_people⟩
theorem kSX8_has : yX8_has.cls ≠ "java/lang/invoke/MethodHandle" ∧ yX8_has.cls ≠ "java/lang/invoke/VarHandle" ∧ (parseMethodDescriptor yX8_has.desc).map (fun d => d.parameters.length) = some 1 := by decide +kernel
theorem kVX8_has : yX8_has.cls = RX8 ∧ yX8_has.cls ≠ "java/lang/invoke/MethodHandle" ∧ yX8_has.cls ≠ "java/lang/invoke/VarHandle" ∧ (parseMethodDescriptor yX8_has.desc).map (fun d => d.parameters.length) = some 1 := ⟨rfl, kSX8_has⟩
theorem kSX8_classOf : yX8_classOf.cls ≠ "java/lang/invoke/MethodHandle" ∧ yX8_classOf.cls ≠ "java/lang/invoke/VarHandle" ∧ (parseMethodDescriptor yX8_classOf.desc).map (fun d => d.parameters.length) = some 1 := by decide +kernel
theorem kVX8_classOf : yX8_classOf.cls = RX8 ∧ yX8_classOf.cls ≠ "java/lang/invoke/MethodHandle" ∧ yX8_classOf.cls ≠ "java/lang/invoke/VarHandle" ∧ (parseMethodDescriptor yX8_classOf.desc).map (fun d => d.parameters.length) = some 1 := ⟨rfl, kSX8_classOf⟩
theorem kSX8_add : yX8_add.cls ≠ "java/lang/invoke/MethodHandle" ∧ yX8_add.cls ≠ "java/lang/invoke/VarHandle" ∧ (parseMethodDescriptor yX8_add.desc).map (fun d => d.parameters.length) = some 2 := by decide +kernel
theorem kVX8_add : yX8_add.cls = RX8 ∧ yX8_add.cls ≠ "java/lang/invoke/MethodHandle" ∧ yX8_add.cls ≠ "java/lang/invoke/VarHandle" ∧ (parseMethodDescriptor yX8_add.desc).map (fun d => d.parameters.length) = some 2 := ⟨rfl, kSX8_add⟩
theorem kSX8_wasAnyAtScales : yX8_wasAnyAtScales.cls ≠ "java/lang/invoke/MethodHandle" ∧ yX8_wasAnyAtScales.cls ≠ "java/lang/invoke/VarHandle" ∧ (parseMethodDescriptor yX8_wasAnyAtScales.desc).map (fun d => d.parameters.length) = some 1 := by decide +kernel
theorem kVX8_wasAnyAtScales : yX8_wasAnyAtScales.cls = RX8 ∧ yX8_wasAnyAtScales.cls ≠ "java/lang/invoke/MethodHandle" ∧ yX8_wasAnyAtScales.cls ≠ "java/lang/invoke/VarHandle" ∧ (parseMethodDescriptor yX8_wasAnyAtScales.desc).map (fun d => d.parameters.length) = some 1 := ⟨rfl, kSX8_wasAnyAtScales⟩
theorem kSX8_fightersOf : yX8_fightersOf.cls ≠ "java/lang/invoke/MethodHandle" ∧ yX8_fightersOf.cls ≠ "java/lang/invoke/VarHandle" ∧ (parseMethodDescriptor yX8_fightersOf.desc).map (fun d => d.parameters.length) = some 1 := by decide +kernel
theorem kVX8_fightersOf : yX8_fightersOf.cls = RX8 ∧ yX8_fightersOf.cls ≠ "java/lang/invoke/MethodHandle" ∧ yX8_fightersOf.cls ≠ "java/lang/invoke/VarHandle" ∧ (parseMethodDescriptor yX8_fightersOf.desc).map (fun d => d.parameters.length) = some 1 := ⟨rfl, kSX8_fightersOf⟩
theorem kSX8_weighedOf : yX8_weighedOf.cls ≠ "java/lang/invoke/MethodHandle" ∧ yX8_weighedOf.cls ≠ "java/lang/invoke/VarHandle" ∧ (parseMethodDescriptor yX8_weighedOf.desc).map (fun d => d.parameters.length) = some 1 := by decide +kernel
theorem kVX8_weighedOf : yX8_weighedOf.cls = RX8 ∧ yX8_weighedOf.cls ≠ "java/lang/invoke/MethodHandle" ∧ yX8_weighedOf.cls ≠ "java/lang/invoke/VarHandle" ∧ (parseMethodDescriptor yX8_weighedOf.desc).map (fun d => d.parameters.length) = some 1 := ⟨rfl, kSX8_weighedOf⟩
theorem kSX8_isWeighed : yX8_isWeighed.cls ≠ "java/lang/invoke/MethodHandle" ∧ yX8_isWeighed.cls ≠ "java/lang/invoke/VarHandle" ∧ (parseMethodDescriptor yX8_isWeighed.desc).map (fun d => d.parameters.length) = some 3 := by decide +kernel
theorem kSX9_init : yX9_init.cls ≠ "java/lang/invoke/MethodHandle" ∧ yX9_init.cls ≠ "java/lang/invoke/VarHandle" ∧ (parseMethodDescriptor yX9_init.desc).map (fun d => d.parameters.length) = some 2 := by decide +kernel
theorem kSX9_get : yX9_get.cls ≠ "java/lang/invoke/MethodHandle" ∧ yX9_get.cls ≠ "java/lang/invoke/VarHandle" ∧ (parseMethodDescriptor yX9_get.desc).map (fun d => d.parameters.length) = some 1 := by decide +kernel
theorem kVX9_get : yX9_get.cls = RX9 ∧ yX9_get.cls ≠ "java/lang/invoke/MethodHandle" ∧ yX9_get.cls ≠ "java/lang/invoke/VarHandle" ∧ (parseMethodDescriptor yX9_get.desc).map (fun d => d.parameters.length) = some 1 := ⟨rfl, kSX9_get⟩
theorem kSX9_set : yX9_set.cls ≠ "java/lang/invoke/MethodHandle" ∧ yX9_set.cls ≠ "java/lang/invoke/VarHandle" ∧ (parseMethodDescriptor yX9_set.desc).map (fun d => d.parameters.length) = some 2 := by decide +kernel
theorem kVX9_set : yX9_set.cls = RX9 ∧ yX9_set.cls ≠ "java/lang/invoke/MethodHandle" ∧ yX9_set.cls ≠ "java/lang/invoke/VarHandle" ∧ (parseMethodDescriptor yX9_set.desc).map (fun d => d.parameters.length) = some 2 := ⟨rfl, kSX9_set⟩
theorem kSX9_fill : yX9_fill.cls ≠ "java/lang/invoke/MethodHandle" ∧ yX9_fill.cls ≠ "java/lang/invoke/VarHandle" ∧ (parseMethodDescriptor yX9_fill.desc).map (fun d => d.parameters.length) = some 1 := by decide +kernel
theorem kVX9_fill : yX9_fill.cls = RX9 ∧ yX9_fill.cls ≠ "java/lang/invoke/MethodHandle" ∧ yX9_fill.cls ≠ "java/lang/invoke/VarHandle" ∧ (parseMethodDescriptor yX9_fill.desc).map (fun d => d.parameters.length) = some 1 := ⟨rfl, kSX9_fill⟩
theorem kSX9_makeRoomFor : yX9_makeRoomFor.cls ≠ "java/lang/invoke/MethodHandle" ∧ yX9_makeRoomFor.cls ≠ "java/lang/invoke/VarHandle" ∧ (parseMethodDescriptor yX9_makeRoomFor.desc).map (fun d => d.parameters.length) = some 1 := by decide +kernel
theorem kVX9_makeRoomFor : yX9_makeRoomFor.cls = RX9 ∧ yX9_makeRoomFor.cls ≠ "java/lang/invoke/MethodHandle" ∧ yX9_makeRoomFor.cls ≠ "java/lang/invoke/VarHandle" ∧ (parseMethodDescriptor yX9_makeRoomFor.desc).map (fun d => d.parameters.length) = some 1 := ⟨rfl, kSX9_makeRoomFor⟩
theorem kSX10_init : yX10_init.cls ≠ "java/lang/invoke/MethodHandle" ∧ yX10_init.cls ≠ "java/lang/invoke/VarHandle" ∧ (parseMethodDescriptor yX10_init.desc).map (fun d => d.parameters.length) = some 0 := by decide +kernel
theorem kSX10_push : yX10_push.cls ≠ "java/lang/invoke/MethodHandle" ∧ yX10_push.cls ≠ "java/lang/invoke/VarHandle" ∧ (parseMethodDescriptor yX10_push.desc).map (fun d => d.parameters.length) = some 1 := by decide +kernel
theorem kVX10_push : yX10_push.cls = RX10 ∧ yX10_push.cls ≠ "java/lang/invoke/MethodHandle" ∧ yX10_push.cls ≠ "java/lang/invoke/VarHandle" ∧ (parseMethodDescriptor yX10_push.desc).map (fun d => d.parameters.length) = some 1 := ⟨rfl, kSX10_push⟩
theorem kSX10_rewind : yX10_rewind.cls ≠ "java/lang/invoke/MethodHandle" ∧ yX10_rewind.cls ≠ "java/lang/invoke/VarHandle" ∧ (parseMethodDescriptor yX10_rewind.desc).map (fun d => d.parameters.length) = some 0 := by decide +kernel
theorem kVX10_rewind : yX10_rewind.cls = RX10 ∧ yX10_rewind.cls ≠ "java/lang/invoke/MethodHandle" ∧ yX10_rewind.cls ≠ "java/lang/invoke/VarHandle" ∧ (parseMethodDescriptor yX10_rewind.desc).map (fun d => d.parameters.length) = some 0 := ⟨rfl, kSX10_rewind⟩
theorem kSX10_readToken : yX10_readToken.cls ≠ "java/lang/invoke/MethodHandle" ∧ yX10_readToken.cls ≠ "java/lang/invoke/VarHandle" ∧ (parseMethodDescriptor yX10_readToken.desc).map (fun d => d.parameters.length) = some 0 := by decide +kernel
theorem kVX10_readToken : yX10_readToken.cls = RX10 ∧ yX10_readToken.cls ≠ "java/lang/invoke/MethodHandle" ∧ yX10_readToken.cls ≠ "java/lang/invoke/VarHandle" ∧ (parseMethodDescriptor yX10_readToken.desc).map (fun d => d.parameters.length) = some 0 := ⟨rfl, kSX10_readToken⟩
theorem kSX10_isBlank : yX10_isBlank.cls ≠ "java/lang/invoke/MethodHandle" ∧ yX10_isBlank.cls ≠ "java/lang/invoke/VarHandle" ∧ (parseMethodDescriptor yX10_isBlank.desc).map (fun d => d.parameters.length) = some 1 := by decide +kernel
theorem kSX11_init : yX11_init.cls ≠ "java/lang/invoke/MethodHandle" ∧ yX11_init.cls ≠ "java/lang/invoke/VarHandle" ∧ (parseMethodDescriptor yX11_init.desc).map (fun d => d.parameters.length) = some 0 := by decide +kernel
theorem kSX11_feed : yX11_feed.cls ≠ "java/lang/invoke/MethodHandle" ∧ yX11_feed.cls ≠ "java/lang/invoke/VarHandle" ∧ (parseMethodDescriptor yX11_feed.desc).map (fun d => d.parameters.length) = some 5 := by decide +kernel
theorem kVX11_feed : yX11_feed.cls = RX11 ∧ yX11_feed.cls ≠ "java/lang/invoke/MethodHandle" ∧ yX11_feed.cls ≠ "java/lang/invoke/VarHandle" ∧ (parseMethodDescriptor yX11_feed.desc).map (fun d => d.parameters.length) = some 5 := ⟨rfl, kSX11_feed⟩
theorem kSX11_end : yX11_end.cls ≠ "java/lang/invoke/MethodHandle" ∧ yX11_end.cls ≠ "java/lang/invoke/VarHandle" ∧ (parseMethodDescriptor yX11_end.desc).map (fun d => d.parameters.length) = some 1 := by decide +kernel
theorem kVX11_end : yX11_end.cls = RX11 ∧ yX11_end.cls ≠ "java/lang/invoke/MethodHandle" ∧ yX11_end.cls ≠ "java/lang/invoke/VarHandle" ∧ (parseMethodDescriptor yX11_end.desc).map (fun d => d.parameters.length) = some 1 := ⟨rfl, kSX11_end⟩
theorem kSX11_laws : yX11_laws.cls ≠ "java/lang/invoke/MethodHandle" ∧ yX11_laws.cls ≠ "java/lang/invoke/VarHandle" ∧ (parseMethodDescriptor yX11_laws.desc).map (fun d => d.parameters.length) = some 0 := by decide +kernel
theorem kVX11_laws : yX11_laws.cls = RX11 ∧ yX11_laws.cls ≠ "java/lang/invoke/MethodHandle" ∧ yX11_laws.cls ≠ "java/lang/invoke/VarHandle" ∧ (parseMethodDescriptor yX11_laws.desc).map (fun d => d.parameters.length) = some 0 := ⟨rfl, kSX11_laws⟩
theorem kSX11_fault : yX11_fault.cls ≠ "java/lang/invoke/MethodHandle" ∧ yX11_fault.cls ≠ "java/lang/invoke/VarHandle" ∧ (parseMethodDescriptor yX11_fault.desc).map (fun d => d.parameters.length) = some 1 := by decide +kernel
theorem kVX11_fault : yX11_fault.cls = RX11 ∧ yX11_fault.cls ≠ "java/lang/invoke/MethodHandle" ∧ yX11_fault.cls ≠ "java/lang/invoke/VarHandle" ∧ (parseMethodDescriptor yX11_fault.desc).map (fun d => d.parameters.length) = some 1 := ⟨rfl, kSX11_fault⟩
theorem kSX11_lawsNow : yX11_lawsNow.cls ≠ "java/lang/invoke/MethodHandle" ∧ yX11_lawsNow.cls ≠ "java/lang/invoke/VarHandle" ∧ (parseMethodDescriptor yX11_lawsNow.desc).map (fun d => d.parameters.length) = some 0 := by decide +kernel
theorem kVX11_lawsNow : yX11_lawsNow.cls = RX11 ∧ yX11_lawsNow.cls ≠ "java/lang/invoke/MethodHandle" ∧ yX11_lawsNow.cls ≠ "java/lang/invoke/VarHandle" ∧ (parseMethodDescriptor yX11_lawsNow.desc).map (fun d => d.parameters.length) = some 0 := ⟨rfl, kSX11_lawsNow⟩
theorem kSX11_limit : yX11_limit.cls ≠ "java/lang/invoke/MethodHandle" ∧ yX11_limit.cls ≠ "java/lang/invoke/VarHandle" ∧ (parseMethodDescriptor yX11_limit.desc).map (fun d => d.parameters.length) = some 3 := by decide +kernel
theorem kVX11_limit : yX11_limit.cls = RX11 ∧ yX11_limit.cls ≠ "java/lang/invoke/MethodHandle" ∧ yX11_limit.cls ≠ "java/lang/invoke/VarHandle" ∧ (parseMethodDescriptor yX11_limit.desc).map (fun d => d.parameters.length) = some 3 := ⟨rfl, kSX11_limit⟩
theorem kSX11_enter : yX11_enter.cls ≠ "java/lang/invoke/MethodHandle" ∧ yX11_enter.cls ≠ "java/lang/invoke/VarHandle" ∧ (parseMethodDescriptor yX11_enter.desc).map (fun d => d.parameters.length) = some 2 := by decide +kernel
theorem kVX11_enter : yX11_enter.cls = RX11 ∧ yX11_enter.cls ≠ "java/lang/invoke/MethodHandle" ∧ yX11_enter.cls ≠ "java/lang/invoke/VarHandle" ∧ (parseMethodDescriptor yX11_enter.desc).map (fun d => d.parameters.length) = some 2 := ⟨rfl, kSX11_enter⟩
theorem kSX11_weigh : yX11_weigh.cls ≠ "java/lang/invoke/MethodHandle" ∧ yX11_weigh.cls ≠ "java/lang/invoke/VarHandle" ∧ (parseMethodDescriptor yX11_weigh.desc).map (fun d => d.parameters.length) = some 2 := by decide +kernel
theorem kVX11_weigh : yX11_weigh.cls = RX11 ∧ yX11_weigh.cls ≠ "java/lang/invoke/MethodHandle" ∧ yX11_weigh.cls ≠ "java/lang/invoke/VarHandle" ∧ (parseMethodDescriptor yX11_weigh.desc).map (fun d => d.parameters.length) = some 2 := ⟨rfl, kSX11_weigh⟩
theorem kSX11_seed : yX11_seed.cls ≠ "java/lang/invoke/MethodHandle" ∧ yX11_seed.cls ≠ "java/lang/invoke/VarHandle" ∧ (parseMethodDescriptor yX11_seed.desc).map (fun d => d.parameters.length) = some 2 := by decide +kernel
theorem kVX11_seed : yX11_seed.cls = RX11 ∧ yX11_seed.cls ≠ "java/lang/invoke/MethodHandle" ∧ yX11_seed.cls ≠ "java/lang/invoke/VarHandle" ∧ (parseMethodDescriptor yX11_seed.desc).map (fun d => d.parameters.length) = some 2 := ⟨rfl, kSX11_seed⟩
theorem kSX11_draw : yX11_draw.cls ≠ "java/lang/invoke/MethodHandle" ∧ yX11_draw.cls ≠ "java/lang/invoke/VarHandle" ∧ (parseMethodDescriptor yX11_draw.desc).map (fun d => d.parameters.length) = some 1 := by decide +kernel
theorem kVX11_draw : yX11_draw.cls = RX11 ∧ yX11_draw.cls ≠ "java/lang/invoke/MethodHandle" ∧ yX11_draw.cls ≠ "java/lang/invoke/VarHandle" ∧ (parseMethodDescriptor yX11_draw.desc).map (fun d => d.parameters.length) = some 1 := ⟨rfl, kSX11_draw⟩
theorem kSX11_fighter : yX11_fighter.cls ≠ "java/lang/invoke/MethodHandle" ∧ yX11_fighter.cls ≠ "java/lang/invoke/VarHandle" ∧ (parseMethodDescriptor yX11_fighter.desc).map (fun d => d.parameters.length) = some 2 := by decide +kernel
theorem kVX11_fighter : yX11_fighter.cls = RX11 ∧ yX11_fighter.cls ≠ "java/lang/invoke/MethodHandle" ∧ yX11_fighter.cls ≠ "java/lang/invoke/VarHandle" ∧ (parseMethodDescriptor yX11_fighter.desc).map (fun d => d.parameters.length) = some 2 := ⟨rfl, kSX11_fighter⟩
theorem kSX11_about : yX11_about.cls ≠ "java/lang/invoke/MethodHandle" ∧ yX11_about.cls ≠ "java/lang/invoke/VarHandle" ∧ (parseMethodDescriptor yX11_about.desc).map (fun d => d.parameters.length) = some 2 := by decide +kernel
theorem kVX11_about : yX11_about.cls = RX11 ∧ yX11_about.cls ≠ "java/lang/invoke/MethodHandle" ∧ yX11_about.cls ≠ "java/lang/invoke/VarHandle" ∧ (parseMethodDescriptor yX11_about.desc).map (fun d => d.parameters.length) = some 2 := ⟨rfl, kSX11_about⟩
theorem kSX11_fight : yX11_fight.cls ≠ "java/lang/invoke/MethodHandle" ∧ yX11_fight.cls ≠ "java/lang/invoke/VarHandle" ∧ (parseMethodDescriptor yX11_fight.desc).map (fun d => d.parameters.length) = some 3 := by decide +kernel
theorem kVX11_fight : yX11_fight.cls = RX11 ∧ yX11_fight.cls ≠ "java/lang/invoke/MethodHandle" ∧ yX11_fight.cls ≠ "java/lang/invoke/VarHandle" ∧ (parseMethodDescriptor yX11_fight.desc).map (fun d => d.parameters.length) = some 3 := ⟨rfl, kSX11_fight⟩
theorem kSX11_now : yX11_now.cls ≠ "java/lang/invoke/MethodHandle" ∧ yX11_now.cls ≠ "java/lang/invoke/VarHandle" ∧ (parseMethodDescriptor yX11_now.desc).map (fun d => d.parameters.length) = some 1 := by decide +kernel
theorem kVX11_now : yX11_now.cls = RX11 ∧ yX11_now.cls ≠ "java/lang/invoke/MethodHandle" ∧ yX11_now.cls ≠ "java/lang/invoke/VarHandle" ∧ (parseMethodDescriptor yX11_now.desc).map (fun d => d.parameters.length) = some 1 := ⟨rfl, kSX11_now⟩
theorem kSX11_rest : yX11_rest.cls ≠ "java/lang/invoke/MethodHandle" ∧ yX11_rest.cls ≠ "java/lang/invoke/VarHandle" ∧ (parseMethodDescriptor yX11_rest.desc).map (fun d => d.parameters.length) = some 1 := by decide +kernel
theorem kVX11_rest : yX11_rest.cls = RX11 ∧ yX11_rest.cls ≠ "java/lang/invoke/MethodHandle" ∧ yX11_rest.cls ≠ "java/lang/invoke/VarHandle" ∧ (parseMethodDescriptor yX11_rest.desc).map (fun d => d.parameters.length) = some 1 := ⟨rfl, kSX11_rest⟩
theorem kSX11_begin : yX11_begin.cls ≠ "java/lang/invoke/MethodHandle" ∧ yX11_begin.cls ≠ "java/lang/invoke/VarHandle" ∧ (parseMethodDescriptor yX11_begin.desc).map (fun d => d.parameters.length) = some 3 := by decide +kernel
theorem kVX11_begin : yX11_begin.cls = RX11 ∧ yX11_begin.cls ≠ "java/lang/invoke/MethodHandle" ∧ yX11_begin.cls ≠ "java/lang/invoke/VarHandle" ∧ (parseMethodDescriptor yX11_begin.desc).map (fun d => d.parameters.length) = some 3 := ⟨rfl, kSX11_begin⟩
theorem kSX11_event : yX11_event.cls ≠ "java/lang/invoke/MethodHandle" ∧ yX11_event.cls ≠ "java/lang/invoke/VarHandle" ∧ (parseMethodDescriptor yX11_event.desc).map (fun d => d.parameters.length) = some 3 := by decide +kernel
theorem kVX11_event : yX11_event.cls = RX11 ∧ yX11_event.cls ≠ "java/lang/invoke/MethodHandle" ∧ yX11_event.cls ≠ "java/lang/invoke/VarHandle" ∧ (parseMethodDescriptor yX11_event.desc).map (fun d => d.parameters.length) = some 3 := ⟨rfl, kSX11_event⟩
theorem kSX11_tick : yX11_tick.cls ≠ "java/lang/invoke/MethodHandle" ∧ yX11_tick.cls ≠ "java/lang/invoke/VarHandle" ∧ (parseMethodDescriptor yX11_tick.desc).map (fun d => d.parameters.length) = some 2 := by decide +kernel
theorem kVX11_tick : yX11_tick.cls = RX11 ∧ yX11_tick.cls ≠ "java/lang/invoke/MethodHandle" ∧ yX11_tick.cls ≠ "java/lang/invoke/VarHandle" ∧ (parseMethodDescriptor yX11_tick.desc).map (fun d => d.parameters.length) = some 2 := ⟨rfl, kSX11_tick⟩
theorem kSX11_decide : yX11_decide.cls ≠ "java/lang/invoke/MethodHandle" ∧ yX11_decide.cls ≠ "java/lang/invoke/VarHandle" ∧ (parseMethodDescriptor yX11_decide.desc).map (fun d => d.parameters.length) = some 2 := by decide +kernel
theorem kVX11_decide : yX11_decide.cls = RX11 ∧ yX11_decide.cls ≠ "java/lang/invoke/MethodHandle" ∧ yX11_decide.cls ≠ "java/lang/invoke/VarHandle" ∧ (parseMethodDescriptor yX11_decide.desc).map (fun d => d.parameters.length) = some 2 := ⟨rfl, kSX11_decide⟩
theorem kSX11_mat : yX11_mat.cls ≠ "java/lang/invoke/MethodHandle" ∧ yX11_mat.cls ≠ "java/lang/invoke/VarHandle" ∧ (parseMethodDescriptor yX11_mat.desc).map (fun d => d.parameters.length) = some 2 := by decide +kernel
theorem kVX11_mat : yX11_mat.cls = RX11 ∧ yX11_mat.cls ≠ "java/lang/invoke/MethodHandle" ∧ yX11_mat.cls ≠ "java/lang/invoke/VarHandle" ∧ (parseMethodDescriptor yX11_mat.desc).map (fun d => d.parameters.length) = some 2 := ⟨rfl, kSX11_mat⟩
theorem kSX11_signsOn : yX11_signsOn.cls ≠ "java/lang/invoke/MethodHandle" ∧ yX11_signsOn.cls ≠ "java/lang/invoke/VarHandle" ∧ (parseMethodDescriptor yX11_signsOn.desc).map (fun d => d.parameters.length) = some 2 := by decide +kernel
theorem kVX11_signsOn : yX11_signsOn.cls = RX11 ∧ yX11_signsOn.cls ≠ "java/lang/invoke/MethodHandle" ∧ yX11_signsOn.cls ≠ "java/lang/invoke/VarHandle" ∧ (parseMethodDescriptor yX11_signsOn.desc).map (fun d => d.parameters.length) = some 2 := ⟨rfl, kSX11_signsOn⟩
theorem kSX11_strike : yX11_strike.cls ≠ "java/lang/invoke/MethodHandle" ∧ yX11_strike.cls ≠ "java/lang/invoke/VarHandle" ∧ (parseMethodDescriptor yX11_strike.desc).map (fun d => d.parameters.length) = some 2 := by decide +kernel
theorem kVX11_strike : yX11_strike.cls = RX11 ∧ yX11_strike.cls ≠ "java/lang/invoke/MethodHandle" ∧ yX11_strike.cls ≠ "java/lang/invoke/VarHandle" ∧ (parseMethodDescriptor yX11_strike.desc).map (fun d => d.parameters.length) = some 2 := ⟨rfl, kSX11_strike⟩
theorem kSX11_medal : yX11_medal.cls ≠ "java/lang/invoke/MethodHandle" ∧ yX11_medal.cls ≠ "java/lang/invoke/VarHandle" ∧ (parseMethodDescriptor yX11_medal.desc).map (fun d => d.parameters.length) = some 2 := by decide +kernel
theorem kVX11_medal : yX11_medal.cls = RX11 ∧ yX11_medal.cls ≠ "java/lang/invoke/MethodHandle" ∧ yX11_medal.cls ≠ "java/lang/invoke/VarHandle" ∧ (parseMethodDescriptor yX11_medal.desc).map (fun d => d.parameters.length) = some 2 := ⟨rfl, kSX11_medal⟩
theorem kSX11_plan : yX11_plan.cls ≠ "java/lang/invoke/MethodHandle" ∧ yX11_plan.cls ≠ "java/lang/invoke/VarHandle" ∧ (parseMethodDescriptor yX11_plan.desc).map (fun d => d.parameters.length) = some 2 := by decide +kernel
theorem kVX11_plan : yX11_plan.cls = RX11 ∧ yX11_plan.cls ≠ "java/lang/invoke/MethodHandle" ∧ yX11_plan.cls ≠ "java/lang/invoke/VarHandle" ∧ (parseMethodDescriptor yX11_plan.desc).map (fun d => d.parameters.length) = some 2 := ⟨rfl, kSX11_plan⟩
theorem kSX11_planned : yX11_planned.cls ≠ "java/lang/invoke/MethodHandle" ∧ yX11_planned.cls ≠ "java/lang/invoke/VarHandle" ∧ (parseMethodDescriptor yX11_planned.desc).map (fun d => d.parameters.length) = some 3 := by decide +kernel
theorem kVX11_planned : yX11_planned.cls = RX11 ∧ yX11_planned.cls ≠ "java/lang/invoke/MethodHandle" ∧ yX11_planned.cls ≠ "java/lang/invoke/VarHandle" ∧ (parseMethodDescriptor yX11_planned.desc).map (fun d => d.parameters.length) = some 3 := ⟨rfl, kSX11_planned⟩
theorem kSX11_undo : yX11_undo.cls ≠ "java/lang/invoke/MethodHandle" ∧ yX11_undo.cls ≠ "java/lang/invoke/VarHandle" ∧ (parseMethodDescriptor yX11_undo.desc).map (fun d => d.parameters.length) = some 0 := by decide +kernel
theorem kVX11_undo : yX11_undo.cls = RX11 ∧ yX11_undo.cls ≠ "java/lang/invoke/MethodHandle" ∧ yX11_undo.cls ≠ "java/lang/invoke/VarHandle" ∧ (parseMethodDescriptor yX11_undo.desc).map (fun d => d.parameters.length) = some 0 := ⟨rfl, kSX11_undo⟩
theorem kSX11_count : yX11_count.cls ≠ "java/lang/invoke/MethodHandle" ∧ yX11_count.cls ≠ "java/lang/invoke/VarHandle" ∧ (parseMethodDescriptor yX11_count.desc).map (fun d => d.parameters.length) = some 1 := by decide +kernel
theorem kVX11_count : yX11_count.cls = RX11 ∧ yX11_count.cls ≠ "java/lang/invoke/MethodHandle" ∧ yX11_count.cls ≠ "java/lang/invoke/VarHandle" ∧ (parseMethodDescriptor yX11_count.desc).map (fun d => d.parameters.length) = some 1 := ⟨rfl, kSX11_count⟩
theorem kSX11_isClass : yX11_isClass.cls ≠ "java/lang/invoke/MethodHandle" ∧ yX11_isClass.cls ≠ "java/lang/invoke/VarHandle" ∧ (parseMethodDescriptor yX11_isClass.desc).map (fun d => d.parameters.length) = some 1 := by decide +kernel
theorem kSX11_isMat : yX11_isMat.cls ≠ "java/lang/invoke/MethodHandle" ∧ yX11_isMat.cls ≠ "java/lang/invoke/VarHandle" ∧ (parseMethodDescriptor yX11_isMat.desc).map (fun d => d.parameters.length) = some 1 := by decide +kernel
theorem kSX11_isSide : yX11_isSide.cls ≠ "java/lang/invoke/MethodHandle" ∧ yX11_isSide.cls ≠ "java/lang/invoke/VarHandle" ∧ (parseMethodDescriptor yX11_isSide.desc).map (fun d => d.parameters.length) = some 1 := by decide +kernel
theorem kSX11_isGrams : yX11_isGrams.cls ≠ "java/lang/invoke/MethodHandle" ∧ yX11_isGrams.cls ≠ "java/lang/invoke/VarHandle" ∧ (parseMethodDescriptor yX11_isGrams.desc).map (fun d => d.parameters.length) = some 1 := by decide +kernel
theorem kSX12_init : yX12_init.cls ≠ "java/lang/invoke/MethodHandle" ∧ yX12_init.cls ≠ "java/lang/invoke/VarHandle" ∧ (parseMethodDescriptor yX12_init.desc).map (fun d => d.parameters.length) = some 0 := by decide +kernel
theorem kSX13_in : yX13_in.cls ≠ "java/lang/invoke/MethodHandle" ∧ yX13_in.cls ≠ "java/lang/invoke/VarHandle" ∧ (parseMethodDescriptor yX13_in.desc).map (fun d => d.parameters.length) = some 3 := by decide +kernel
theorem kVX13_in : yX13_in.cls = RX13 ∧ yX13_in.cls ≠ "java/lang/invoke/MethodHandle" ∧ yX13_in.cls ≠ "java/lang/invoke/VarHandle" ∧ (parseMethodDescriptor yX13_in.desc).map (fun d => d.parameters.length) = some 3 := ⟨rfl, kSX13_in⟩
theorem kSX13_init : yX13_init.cls ≠ "java/lang/invoke/MethodHandle" ∧ yX13_init.cls ≠ "java/lang/invoke/VarHandle" ∧ (parseMethodDescriptor yX13_init.desc).map (fun d => d.parameters.length) = some 0 := by decide +kernel
theorem kSX13_anew : yX13_anew.cls ≠ "java/lang/invoke/MethodHandle" ∧ yX13_anew.cls ≠ "java/lang/invoke/VarHandle" ∧ (parseMethodDescriptor yX13_anew.desc).map (fun d => d.parameters.length) = some 0 := by decide +kernel
theorem kVX13_anew : yX13_anew.cls = RX13 ∧ yX13_anew.cls ≠ "java/lang/invoke/MethodHandle" ∧ yX13_anew.cls ≠ "java/lang/invoke/VarHandle" ∧ (parseMethodDescriptor yX13_anew.desc).map (fun d => d.parameters.length) = some 0 := ⟨rfl, kSX13_anew⟩
theorem kSX13_isClass : yX13_isClass.cls ≠ "java/lang/invoke/MethodHandle" ∧ yX13_isClass.cls ≠ "java/lang/invoke/VarHandle" ∧ (parseMethodDescriptor yX13_isClass.desc).map (fun d => d.parameters.length) = some 1 := by decide +kernel
theorem kVX13_isClass : yX13_isClass.cls = RX13 ∧ yX13_isClass.cls ≠ "java/lang/invoke/MethodHandle" ∧ yX13_isClass.cls ≠ "java/lang/invoke/VarHandle" ∧ (parseMethodDescriptor yX13_isClass.desc).map (fun d => d.parameters.length) = some 1 := ⟨rfl, kSX13_isClass⟩
theorem kSX13_halving : yX13_halving.cls ≠ "java/lang/invoke/MethodHandle" ∧ yX13_halving.cls ≠ "java/lang/invoke/VarHandle" ∧ (parseMethodDescriptor yX13_halving.desc).map (fun d => d.parameters.length) = some 1 := by decide +kernel
theorem kVX13_halving : yX13_halving.cls = RX13 ∧ yX13_halving.cls ≠ "java/lang/invoke/MethodHandle" ∧ yX13_halving.cls ≠ "java/lang/invoke/VarHandle" ∧ (parseMethodDescriptor yX13_halving.desc).map (fun d => d.parameters.length) = some 1 := ⟨rfl, kSX13_halving⟩
theorem kSX13_rounds : yX13_rounds.cls ≠ "java/lang/invoke/MethodHandle" ∧ yX13_rounds.cls ≠ "java/lang/invoke/VarHandle" ∧ (parseMethodDescriptor yX13_rounds.desc).map (fun d => d.parameters.length) = some 1 := by decide +kernel
theorem kVX13_rounds : yX13_rounds.cls = RX13 ∧ yX13_rounds.cls ≠ "java/lang/invoke/MethodHandle" ∧ yX13_rounds.cls ≠ "java/lang/invoke/VarHandle" ∧ (parseMethodDescriptor yX13_rounds.desc).map (fun d => d.parameters.length) = some 1 := ⟨rfl, kSX13_rounds⟩
theorem kSX13_fights : yX13_fights.cls ≠ "java/lang/invoke/MethodHandle" ∧ yX13_fights.cls ≠ "java/lang/invoke/VarHandle" ∧ (parseMethodDescriptor yX13_fights.desc).map (fun d => d.parameters.length) = some 1 := by decide +kernel
theorem kVX13_fights : yX13_fights.cls = RX13 ∧ yX13_fights.cls ≠ "java/lang/invoke/MethodHandle" ∧ yX13_fights.cls ≠ "java/lang/invoke/VarHandle" ∧ (parseMethodDescriptor yX13_fights.desc).map (fun d => d.parameters.length) = some 1 := ⟨rfl, kSX13_fights⟩
theorem kSX13_isFight : yX13_isFight.cls ≠ "java/lang/invoke/MethodHandle" ∧ yX13_isFight.cls ≠ "java/lang/invoke/VarHandle" ∧ (parseMethodDescriptor yX13_isFight.desc).map (fun d => d.parameters.length) = some 2 := by decide +kernel
theorem kVX13_isFight : yX13_isFight.cls = RX13 ∧ yX13_isFight.cls ≠ "java/lang/invoke/MethodHandle" ∧ yX13_isFight.cls ≠ "java/lang/invoke/VarHandle" ∧ (parseMethodDescriptor yX13_isFight.desc).map (fun d => d.parameters.length) = some 2 := ⟨rfl, kSX13_isFight⟩
theorem kSX13_wrong : yX13_wrong.cls ≠ "java/lang/invoke/MethodHandle" ∧ yX13_wrong.cls ≠ "java/lang/invoke/VarHandle" ∧ (parseMethodDescriptor yX13_wrong.desc).map (fun d => d.parameters.length) = some 2 := by decide +kernel
theorem kVX13_wrong : yX13_wrong.cls = RX13 ∧ yX13_wrong.cls ≠ "java/lang/invoke/MethodHandle" ∧ yX13_wrong.cls ≠ "java/lang/invoke/VarHandle" ∧ (parseMethodDescriptor yX13_wrong.desc).map (fun d => d.parameters.length) = some 2 := ⟨rfl, kSX13_wrong⟩
theorem kSX13_byteAt : yX13_byteAt.cls ≠ "java/lang/invoke/MethodHandle" ∧ yX13_byteAt.cls ≠ "java/lang/invoke/VarHandle" ∧ (parseMethodDescriptor yX13_byteAt.desc).map (fun d => d.parameters.length) = some 1 := by decide +kernel
theorem kVX13_byteAt : yX13_byteAt.cls = RX13 ∧ yX13_byteAt.cls ≠ "java/lang/invoke/MethodHandle" ∧ yX13_byteAt.cls ≠ "java/lang/invoke/VarHandle" ∧ (parseMethodDescriptor yX13_byteAt.desc).map (fun d => d.parameters.length) = some 1 := ⟨rfl, kSX13_byteAt⟩
theorem kSX13_isLetter : yX13_isLetter.cls ≠ "java/lang/invoke/MethodHandle" ∧ yX13_isLetter.cls ≠ "java/lang/invoke/VarHandle" ∧ (parseMethodDescriptor yX13_isLetter.desc).map (fun d => d.parameters.length) = some 1 := by decide +kernel
theorem kVX13_isLetter : yX13_isLetter.cls = RX13 ∧ yX13_isLetter.cls ≠ "java/lang/invoke/MethodHandle" ∧ yX13_isLetter.cls ≠ "java/lang/invoke/VarHandle" ∧ (parseMethodDescriptor yX13_isLetter.desc).map (fun d => d.parameters.length) = some 1 := ⟨rfl, kSX13_isLetter⟩
theorem kSX13_isDigit : yX13_isDigit.cls ≠ "java/lang/invoke/MethodHandle" ∧ yX13_isDigit.cls ≠ "java/lang/invoke/VarHandle" ∧ (parseMethodDescriptor yX13_isDigit.desc).map (fun d => d.parameters.length) = some 1 := by decide +kernel
theorem kVX13_isDigit : yX13_isDigit.cls = RX13 ∧ yX13_isDigit.cls ≠ "java/lang/invoke/MethodHandle" ∧ yX13_isDigit.cls ≠ "java/lang/invoke/VarHandle" ∧ (parseMethodDescriptor yX13_isDigit.desc).map (fun d => d.parameters.length) = some 1 := ⟨rfl, kSX13_isDigit⟩
theorem kSX13_scan : yX13_scan.cls ≠ "java/lang/invoke/MethodHandle" ∧ yX13_scan.cls ≠ "java/lang/invoke/VarHandle" ∧ (parseMethodDescriptor yX13_scan.desc).map (fun d => d.parameters.length) = some 0 := by decide +kernel
theorem kVX13_scan : yX13_scan.cls = RX13 ∧ yX13_scan.cls ≠ "java/lang/invoke/MethodHandle" ∧ yX13_scan.cls ≠ "java/lang/invoke/VarHandle" ∧ (parseMethodDescriptor yX13_scan.desc).map (fun d => d.parameters.length) = some 0 := ⟨rfl, kSX13_scan⟩
theorem kSX13_is : yX13_is.cls ≠ "java/lang/invoke/MethodHandle" ∧ yX13_is.cls ≠ "java/lang/invoke/VarHandle" ∧ (parseMethodDescriptor yX13_is.desc).map (fun d => d.parameters.length) = some 1 := by decide +kernel
theorem kVX13_is : yX13_is.cls = RX13 ∧ yX13_is.cls ≠ "java/lang/invoke/MethodHandle" ∧ yX13_is.cls ≠ "java/lang/invoke/VarHandle" ∧ (parseMethodDescriptor yX13_is.desc).map (fun d => d.parameters.length) = some 1 := ⟨rfl, kSX13_is⟩
theorem kSX13_need : yX13_need.cls ≠ "java/lang/invoke/MethodHandle" ∧ yX13_need.cls ≠ "java/lang/invoke/VarHandle" ∧ (parseMethodDescriptor yX13_need.desc).map (fun d => d.parameters.length) = some 1 := by decide +kernel
theorem kVX13_need : yX13_need.cls = RX13 ∧ yX13_need.cls ≠ "java/lang/invoke/MethodHandle" ∧ yX13_need.cls ≠ "java/lang/invoke/VarHandle" ∧ (parseMethodDescriptor yX13_need.desc).map (fun d => d.parameters.length) = some 1 := ⟨rfl, kSX13_need⟩
theorem kSX13_number : yX13_number.cls ≠ "java/lang/invoke/MethodHandle" ∧ yX13_number.cls ≠ "java/lang/invoke/VarHandle" ∧ (parseMethodDescriptor yX13_number.desc).map (fun d => d.parameters.length) = some 0 := by decide +kernel
theorem kVX13_number : yX13_number.cls = RX13 ∧ yX13_number.cls ≠ "java/lang/invoke/MethodHandle" ∧ yX13_number.cls ≠ "java/lang/invoke/VarHandle" ∧ (parseMethodDescriptor yX13_number.desc).map (fun d => d.parameters.length) = some 0 := ⟨rfl, kSX13_number⟩
theorem kSX13_readLaws : yX13_readLaws.cls ≠ "java/lang/invoke/MethodHandle" ∧ yX13_readLaws.cls ≠ "java/lang/invoke/VarHandle" ∧ (parseMethodDescriptor yX13_readLaws.desc).map (fun d => d.parameters.length) = some 0 := by decide +kernel
theorem kVX13_readLaws : yX13_readLaws.cls = RX13 ∧ yX13_readLaws.cls ≠ "java/lang/invoke/MethodHandle" ∧ yX13_readLaws.cls ≠ "java/lang/invoke/VarHandle" ∧ (parseMethodDescriptor yX13_readLaws.desc).map (fun d => d.parameters.length) = some 0 := ⟨rfl, kSX13_readLaws⟩
theorem kSX13_act : yX13_act.cls ≠ "java/lang/invoke/MethodHandle" ∧ yX13_act.cls ≠ "java/lang/invoke/VarHandle" ∧ (parseMethodDescriptor yX13_act.desc).map (fun d => d.parameters.length) = some 4 := by decide +kernel
theorem kVX13_act : yX13_act.cls = RX13 ∧ yX13_act.cls ≠ "java/lang/invoke/MethodHandle" ∧ yX13_act.cls ≠ "java/lang/invoke/VarHandle" ∧ (parseMethodDescriptor yX13_act.desc).map (fun d => d.parameters.length) = some 4 := ⟨rfl, kSX13_act⟩
theorem kSX13_does : yX13_does.cls ≠ "java/lang/invoke/MethodHandle" ∧ yX13_does.cls ≠ "java/lang/invoke/VarHandle" ∧ (parseMethodDescriptor yX13_does.desc).map (fun d => d.parameters.length) = some 4 := by decide +kernel
theorem kVX13_does : yX13_does.cls = RX13 ∧ yX13_does.cls ≠ "java/lang/invoke/MethodHandle" ∧ yX13_does.cls ≠ "java/lang/invoke/VarHandle" ∧ (parseMethodDescriptor yX13_does.desc).map (fun d => d.parameters.length) = some 4 := ⟨rfl, kSX13_does⟩
theorem kSX13_undo : yX13_undo.cls ≠ "java/lang/invoke/MethodHandle" ∧ yX13_undo.cls ≠ "java/lang/invoke/VarHandle" ∧ (parseMethodDescriptor yX13_undo.desc).map (fun d => d.parameters.length) = some 0 := by decide +kernel
theorem kVX13_undo : yX13_undo.cls = RX13 ∧ yX13_undo.cls ≠ "java/lang/invoke/MethodHandle" ∧ yX13_undo.cls ≠ "java/lang/invoke/VarHandle" ∧ (parseMethodDescriptor yX13_undo.desc).map (fun d => d.parameters.length) = some 0 := ⟨rfl, kSX13_undo⟩
theorem kSX13_lawsAgain : yX13_lawsAgain.cls ≠ "java/lang/invoke/MethodHandle" ∧ yX13_lawsAgain.cls ≠ "java/lang/invoke/VarHandle" ∧ (parseMethodDescriptor yX13_lawsAgain.desc).map (fun d => d.parameters.length) = some 0 := by decide +kernel
theorem kVX13_lawsAgain : yX13_lawsAgain.cls = RX13 ∧ yX13_lawsAgain.cls ≠ "java/lang/invoke/MethodHandle" ∧ yX13_lawsAgain.cls ≠ "java/lang/invoke/VarHandle" ∧ (parseMethodDescriptor yX13_lawsAgain.desc).map (fun d => d.parameters.length) = some 0 := ⟨rfl, kSX13_lawsAgain⟩
theorem kSX13_laws : yX13_laws.cls ≠ "java/lang/invoke/MethodHandle" ∧ yX13_laws.cls ≠ "java/lang/invoke/VarHandle" ∧ (parseMethodDescriptor yX13_laws.desc).map (fun d => d.parameters.length) = some 0 := by decide +kernel
theorem kVX13_laws : yX13_laws.cls = RX13 ∧ yX13_laws.cls ≠ "java/lang/invoke/MethodHandle" ∧ yX13_laws.cls ≠ "java/lang/invoke/VarHandle" ∧ (parseMethodDescriptor yX13_laws.desc).map (fun d => d.parameters.length) = some 0 := ⟨rfl, kSX13_laws⟩
theorem kSX13_feed : yX13_feed.cls ≠ "java/lang/invoke/MethodHandle" ∧ yX13_feed.cls ≠ "java/lang/invoke/VarHandle" ∧ (parseMethodDescriptor yX13_feed.desc).map (fun d => d.parameters.length) = some 5 := by decide +kernel
theorem kVX13_feed : yX13_feed.cls = RX13 ∧ yX13_feed.cls ≠ "java/lang/invoke/MethodHandle" ∧ yX13_feed.cls ≠ "java/lang/invoke/VarHandle" ∧ (parseMethodDescriptor yX13_feed.desc).map (fun d => d.parameters.length) = some 5 := ⟨rfl, kSX13_feed⟩
theorem kSX13_lay : yX13_lay.cls ≠ "java/lang/invoke/MethodHandle" ∧ yX13_lay.cls ≠ "java/lang/invoke/VarHandle" ∧ (parseMethodDescriptor yX13_lay.desc).map (fun d => d.parameters.length) = some 1 := by decide +kernel
theorem kVX13_lay : yX13_lay.cls = RX13 ∧ yX13_lay.cls ≠ "java/lang/invoke/MethodHandle" ∧ yX13_lay.cls ≠ "java/lang/invoke/VarHandle" ∧ (parseMethodDescriptor yX13_lay.desc).map (fun d => d.parameters.length) = some 1 := ⟨rfl, kSX13_lay⟩
theorem kSX13_end : yX13_end.cls ≠ "java/lang/invoke/MethodHandle" ∧ yX13_end.cls ≠ "java/lang/invoke/VarHandle" ∧ (parseMethodDescriptor yX13_end.desc).map (fun d => d.parameters.length) = some 1 := by decide +kernel
theorem kVX13_end : yX13_end.cls = RX13 ∧ yX13_end.cls ≠ "java/lang/invoke/MethodHandle" ∧ yX13_end.cls ≠ "java/lang/invoke/VarHandle" ∧ (parseMethodDescriptor yX13_end.desc).map (fun d => d.parameters.length) = some 1 := ⟨rfl, kSX13_end⟩
theorem kSX13_fault : yX13_fault.cls ≠ "java/lang/invoke/MethodHandle" ∧ yX13_fault.cls ≠ "java/lang/invoke/VarHandle" ∧ (parseMethodDescriptor yX13_fault.desc).map (fun d => d.parameters.length) = some 1 := by decide +kernel
theorem kVX13_fault : yX13_fault.cls = RX13 ∧ yX13_fault.cls ≠ "java/lang/invoke/MethodHandle" ∧ yX13_fault.cls ≠ "java/lang/invoke/VarHandle" ∧ (parseMethodDescriptor yX13_fault.desc).map (fun d => d.parameters.length) = some 1 := ⟨rfl, kSX13_fault⟩
theorem kSX13_isFighter : yX13_isFighter.cls ≠ "java/lang/invoke/MethodHandle" ∧ yX13_isFighter.cls ≠ "java/lang/invoke/VarHandle" ∧ (parseMethodDescriptor yX13_isFighter.desc).map (fun d => d.parameters.length) = some 1 := by decide +kernel
theorem kVX13_isFighter : yX13_isFighter.cls = RX13 ∧ yX13_isFighter.cls ≠ "java/lang/invoke/MethodHandle" ∧ yX13_isFighter.cls ≠ "java/lang/invoke/VarHandle" ∧ (parseMethodDescriptor yX13_isFighter.desc).map (fun d => d.parameters.length) = some 1 := ⟨rfl, kSX13_isFighter⟩
theorem kSX13_limit : yX13_limit.cls ≠ "java/lang/invoke/MethodHandle" ∧ yX13_limit.cls ≠ "java/lang/invoke/VarHandle" ∧ (parseMethodDescriptor yX13_limit.desc).map (fun d => d.parameters.length) = some 3 := by decide +kernel
theorem kVX13_limit : yX13_limit.cls = RX13 ∧ yX13_limit.cls ≠ "java/lang/invoke/MethodHandle" ∧ yX13_limit.cls ≠ "java/lang/invoke/VarHandle" ∧ (parseMethodDescriptor yX13_limit.desc).map (fun d => d.parameters.length) = some 3 := ⟨rfl, kSX13_limit⟩
theorem kSX13_enter : yX13_enter.cls ≠ "java/lang/invoke/MethodHandle" ∧ yX13_enter.cls ≠ "java/lang/invoke/VarHandle" ∧ (parseMethodDescriptor yX13_enter.desc).map (fun d => d.parameters.length) = some 2 := by decide +kernel
theorem kVX13_enter : yX13_enter.cls = RX13 ∧ yX13_enter.cls ≠ "java/lang/invoke/MethodHandle" ∧ yX13_enter.cls ≠ "java/lang/invoke/VarHandle" ∧ (parseMethodDescriptor yX13_enter.desc).map (fun d => d.parameters.length) = some 2 := ⟨rfl, kSX13_enter⟩
theorem kSX13_comes : yX13_comes.cls ≠ "java/lang/invoke/MethodHandle" ∧ yX13_comes.cls ≠ "java/lang/invoke/VarHandle" ∧ (parseMethodDescriptor yX13_comes.desc).map (fun d => d.parameters.length) = some 2 := by decide +kernel
theorem kVX13_comes : yX13_comes.cls = RX13 ∧ yX13_comes.cls ≠ "java/lang/invoke/MethodHandle" ∧ yX13_comes.cls ≠ "java/lang/invoke/VarHandle" ∧ (parseMethodDescriptor yX13_comes.desc).map (fun d => d.parameters.length) = some 2 := ⟨rfl, kSX13_comes⟩
theorem kSX13_weigh : yX13_weigh.cls ≠ "java/lang/invoke/MethodHandle" ∧ yX13_weigh.cls ≠ "java/lang/invoke/VarHandle" ∧ (parseMethodDescriptor yX13_weigh.desc).map (fun d => d.parameters.length) = some 2 := by decide +kernel
theorem kVX13_weigh : yX13_weigh.cls = RX13 ∧ yX13_weigh.cls ≠ "java/lang/invoke/MethodHandle" ∧ yX13_weigh.cls ≠ "java/lang/invoke/VarHandle" ∧ (parseMethodDescriptor yX13_weigh.desc).map (fun d => d.parameters.length) = some 2 := ⟨rfl, kSX13_weigh⟩
theorem kSX13_seed : yX13_seed.cls ≠ "java/lang/invoke/MethodHandle" ∧ yX13_seed.cls ≠ "java/lang/invoke/VarHandle" ∧ (parseMethodDescriptor yX13_seed.desc).map (fun d => d.parameters.length) = some 2 := by decide +kernel
theorem kVX13_seed : yX13_seed.cls = RX13 ∧ yX13_seed.cls ≠ "java/lang/invoke/MethodHandle" ∧ yX13_seed.cls ≠ "java/lang/invoke/VarHandle" ∧ (parseMethodDescriptor yX13_seed.desc).map (fun d => d.parameters.length) = some 2 := ⟨rfl, kSX13_seed⟩
theorem kSX13_weighed : yX13_weighed.cls ≠ "java/lang/invoke/MethodHandle" ∧ yX13_weighed.cls ≠ "java/lang/invoke/VarHandle" ∧ (parseMethodDescriptor yX13_weighed.desc).map (fun d => d.parameters.length) = some 1 := by decide +kernel
theorem kVX13_weighed : yX13_weighed.cls = RX13 ∧ yX13_weighed.cls ≠ "java/lang/invoke/MethodHandle" ∧ yX13_weighed.cls ≠ "java/lang/invoke/VarHandle" ∧ (parseMethodDescriptor yX13_weighed.desc).map (fun d => d.parameters.length) = some 1 := ⟨rfl, kSX13_weighed⟩
theorem kSX13_draw : yX13_draw.cls ≠ "java/lang/invoke/MethodHandle" ∧ yX13_draw.cls ≠ "java/lang/invoke/VarHandle" ∧ (parseMethodDescriptor yX13_draw.desc).map (fun d => d.parameters.length) = some 1 := by decide +kernel
theorem kVX13_draw : yX13_draw.cls = RX13 ∧ yX13_draw.cls ≠ "java/lang/invoke/MethodHandle" ∧ yX13_draw.cls ≠ "java/lang/invoke/VarHandle" ∧ (parseMethodDescriptor yX13_draw.desc).map (fun d => d.parameters.length) = some 1 := ⟨rfl, kSX13_draw⟩
theorem kSX13_fighter : yX13_fighter.cls ≠ "java/lang/invoke/MethodHandle" ∧ yX13_fighter.cls ≠ "java/lang/invoke/VarHandle" ∧ (parseMethodDescriptor yX13_fighter.desc).map (fun d => d.parameters.length) = some 2 := by decide +kernel
theorem kVX13_fighter : yX13_fighter.cls = RX13 ∧ yX13_fighter.cls ≠ "java/lang/invoke/MethodHandle" ∧ yX13_fighter.cls ≠ "java/lang/invoke/VarHandle" ∧ (parseMethodDescriptor yX13_fighter.desc).map (fun d => d.parameters.length) = some 2 := ⟨rfl, kSX13_fighter⟩
theorem kSX13_about : yX13_about.cls ≠ "java/lang/invoke/MethodHandle" ∧ yX13_about.cls ≠ "java/lang/invoke/VarHandle" ∧ (parseMethodDescriptor yX13_about.desc).map (fun d => d.parameters.length) = some 2 := by decide +kernel
theorem kVX13_about : yX13_about.cls = RX13 ∧ yX13_about.cls ≠ "java/lang/invoke/MethodHandle" ∧ yX13_about.cls ≠ "java/lang/invoke/VarHandle" ∧ (parseMethodDescriptor yX13_about.desc).map (fun d => d.parameters.length) = some 2 := ⟨rfl, kSX13_about⟩
theorem kSX13_fight : yX13_fight.cls ≠ "java/lang/invoke/MethodHandle" ∧ yX13_fight.cls ≠ "java/lang/invoke/VarHandle" ∧ (parseMethodDescriptor yX13_fight.desc).map (fun d => d.parameters.length) = some 3 := by decide +kernel
theorem kVX13_fight : yX13_fight.cls = RX13 ∧ yX13_fight.cls ≠ "java/lang/invoke/MethodHandle" ∧ yX13_fight.cls ≠ "java/lang/invoke/VarHandle" ∧ (parseMethodDescriptor yX13_fight.desc).map (fun d => d.parameters.length) = some 3 := ⟨rfl, kSX13_fight⟩
theorem kSX13_now : yX13_now.cls ≠ "java/lang/invoke/MethodHandle" ∧ yX13_now.cls ≠ "java/lang/invoke/VarHandle" ∧ (parseMethodDescriptor yX13_now.desc).map (fun d => d.parameters.length) = some 1 := by decide +kernel
theorem kVX13_now : yX13_now.cls = RX13 ∧ yX13_now.cls ≠ "java/lang/invoke/MethodHandle" ∧ yX13_now.cls ≠ "java/lang/invoke/VarHandle" ∧ (parseMethodDescriptor yX13_now.desc).map (fun d => d.parameters.length) = some 1 := ⟨rfl, kSX13_now⟩
theorem kSX13_rest : yX13_rest.cls ≠ "java/lang/invoke/MethodHandle" ∧ yX13_rest.cls ≠ "java/lang/invoke/VarHandle" ∧ (parseMethodDescriptor yX13_rest.desc).map (fun d => d.parameters.length) = some 1 := by decide +kernel
theorem kVX13_rest : yX13_rest.cls = RX13 ∧ yX13_rest.cls ≠ "java/lang/invoke/MethodHandle" ∧ yX13_rest.cls ≠ "java/lang/invoke/VarHandle" ∧ (parseMethodDescriptor yX13_rest.desc).map (fun d => d.parameters.length) = some 1 := ⟨rfl, kSX13_rest⟩
theorem kSX13_isMat : yX13_isMat.cls ≠ "java/lang/invoke/MethodHandle" ∧ yX13_isMat.cls ≠ "java/lang/invoke/VarHandle" ∧ (parseMethodDescriptor yX13_isMat.desc).map (fun d => d.parameters.length) = some 1 := by decide +kernel
theorem kVX13_isMat : yX13_isMat.cls = RX13 ∧ yX13_isMat.cls ≠ "java/lang/invoke/MethodHandle" ∧ yX13_isMat.cls ≠ "java/lang/invoke/VarHandle" ∧ (parseMethodDescriptor yX13_isMat.desc).map (fun d => d.parameters.length) = some 1 := ⟨rfl, kSX13_isMat⟩
theorem kSX13_begin : yX13_begin.cls ≠ "java/lang/invoke/MethodHandle" ∧ yX13_begin.cls ≠ "java/lang/invoke/VarHandle" ∧ (parseMethodDescriptor yX13_begin.desc).map (fun d => d.parameters.length) = some 3 := by decide +kernel
theorem kVX13_begin : yX13_begin.cls = RX13 ∧ yX13_begin.cls ≠ "java/lang/invoke/MethodHandle" ∧ yX13_begin.cls ≠ "java/lang/invoke/VarHandle" ∧ (parseMethodDescriptor yX13_begin.desc).map (fun d => d.parameters.length) = some 3 := ⟨rfl, kSX13_begin⟩
theorem kSX13_event : yX13_event.cls ≠ "java/lang/invoke/MethodHandle" ∧ yX13_event.cls ≠ "java/lang/invoke/VarHandle" ∧ (parseMethodDescriptor yX13_event.desc).map (fun d => d.parameters.length) = some 3 := by decide +kernel
theorem kVX13_event : yX13_event.cls = RX13 ∧ yX13_event.cls ≠ "java/lang/invoke/MethodHandle" ∧ yX13_event.cls ≠ "java/lang/invoke/VarHandle" ∧ (parseMethodDescriptor yX13_event.desc).map (fun d => d.parameters.length) = some 3 := ⟨rfl, kSX13_event⟩
theorem kSX13_tick : yX13_tick.cls ≠ "java/lang/invoke/MethodHandle" ∧ yX13_tick.cls ≠ "java/lang/invoke/VarHandle" ∧ (parseMethodDescriptor yX13_tick.desc).map (fun d => d.parameters.length) = some 2 := by decide +kernel
theorem kVX13_tick : yX13_tick.cls = RX13 ∧ yX13_tick.cls ≠ "java/lang/invoke/MethodHandle" ∧ yX13_tick.cls ≠ "java/lang/invoke/VarHandle" ∧ (parseMethodDescriptor yX13_tick.desc).map (fun d => d.parameters.length) = some 2 := ⟨rfl, kSX13_tick⟩
theorem kSX13_decide : yX13_decide.cls ≠ "java/lang/invoke/MethodHandle" ∧ yX13_decide.cls ≠ "java/lang/invoke/VarHandle" ∧ (parseMethodDescriptor yX13_decide.desc).map (fun d => d.parameters.length) = some 2 := by decide +kernel
theorem kVX13_decide : yX13_decide.cls = RX13 ∧ yX13_decide.cls ≠ "java/lang/invoke/MethodHandle" ∧ yX13_decide.cls ≠ "java/lang/invoke/VarHandle" ∧ (parseMethodDescriptor yX13_decide.desc).map (fun d => d.parameters.length) = some 2 := ⟨rfl, kSX13_decide⟩
theorem kSX13_mat : yX13_mat.cls ≠ "java/lang/invoke/MethodHandle" ∧ yX13_mat.cls ≠ "java/lang/invoke/VarHandle" ∧ (parseMethodDescriptor yX13_mat.desc).map (fun d => d.parameters.length) = some 2 := by decide +kernel
theorem kVX13_mat : yX13_mat.cls = RX13 ∧ yX13_mat.cls ≠ "java/lang/invoke/MethodHandle" ∧ yX13_mat.cls ≠ "java/lang/invoke/VarHandle" ∧ (parseMethodDescriptor yX13_mat.desc).map (fun d => d.parameters.length) = some 2 := ⟨rfl, kSX13_mat⟩
theorem kSX13_strike : yX13_strike.cls ≠ "java/lang/invoke/MethodHandle" ∧ yX13_strike.cls ≠ "java/lang/invoke/VarHandle" ∧ (parseMethodDescriptor yX13_strike.desc).map (fun d => d.parameters.length) = some 2 := by decide +kernel
theorem kVX13_strike : yX13_strike.cls = RX13 ∧ yX13_strike.cls ≠ "java/lang/invoke/MethodHandle" ∧ yX13_strike.cls ≠ "java/lang/invoke/VarHandle" ∧ (parseMethodDescriptor yX13_strike.desc).map (fun d => d.parameters.length) = some 2 := ⟨rfl, kSX13_strike⟩
theorem kSX13_medal : yX13_medal.cls ≠ "java/lang/invoke/MethodHandle" ∧ yX13_medal.cls ≠ "java/lang/invoke/VarHandle" ∧ (parseMethodDescriptor yX13_medal.desc).map (fun d => d.parameters.length) = some 2 := by decide +kernel
theorem kVX13_medal : yX13_medal.cls = RX13 ∧ yX13_medal.cls ≠ "java/lang/invoke/MethodHandle" ∧ yX13_medal.cls ≠ "java/lang/invoke/VarHandle" ∧ (parseMethodDescriptor yX13_medal.desc).map (fun d => d.parameters.length) = some 2 := ⟨rfl, kSX13_medal⟩
theorem kSX13_plan : yX13_plan.cls ≠ "java/lang/invoke/MethodHandle" ∧ yX13_plan.cls ≠ "java/lang/invoke/VarHandle" ∧ (parseMethodDescriptor yX13_plan.desc).map (fun d => d.parameters.length) = some 2 := by decide +kernel
theorem kVX13_plan : yX13_plan.cls = RX13 ∧ yX13_plan.cls ≠ "java/lang/invoke/MethodHandle" ∧ yX13_plan.cls ≠ "java/lang/invoke/VarHandle" ∧ (parseMethodDescriptor yX13_plan.desc).map (fun d => d.parameters.length) = some 2 := ⟨rfl, kSX13_plan⟩
theorem kSX13_planned : yX13_planned.cls ≠ "java/lang/invoke/MethodHandle" ∧ yX13_planned.cls ≠ "java/lang/invoke/VarHandle" ∧ (parseMethodDescriptor yX13_planned.desc).map (fun d => d.parameters.length) = some 3 := by decide +kernel
theorem kVX13_planned : yX13_planned.cls = RX13 ∧ yX13_planned.cls ≠ "java/lang/invoke/MethodHandle" ∧ yX13_planned.cls ≠ "java/lang/invoke/VarHandle" ∧ (parseMethodDescriptor yX13_planned.desc).map (fun d => d.parameters.length) = some 3 := ⟨rfl, kSX13_planned⟩
theorem kSX13_count : yX13_count.cls ≠ "java/lang/invoke/MethodHandle" ∧ yX13_count.cls ≠ "java/lang/invoke/VarHandle" ∧ (parseMethodDescriptor yX13_count.desc).map (fun d => d.parameters.length) = some 1 := by decide +kernel
theorem kVX13_count : yX13_count.cls = RX13 ∧ yX13_count.cls ≠ "java/lang/invoke/MethodHandle" ∧ yX13_count.cls ≠ "java/lang/invoke/VarHandle" ∧ (parseMethodDescriptor yX13_count.desc).map (fun d => d.parameters.length) = some 1 := ⟨rfl, kSX13_count⟩
theorem kSJxa1e45_init_da8c8 : yJxa1e45_init_da8c8.cls ≠ "java/lang/invoke/MethodHandle" ∧ yJxa1e45_init_da8c8.cls ≠ "java/lang/invoke/VarHandle" ∧ (parseMethodDescriptor yJxa1e45_init_da8c8.desc).map (fun d => d.parameters.length) = some 0 := by decide +kernel
theorem kSJxc12de_init_da8c8 : yJxc12de_init_da8c8.cls ≠ "java/lang/invoke/MethodHandle" ∧ yJxc12de_init_da8c8.cls ≠ "java/lang/invoke/VarHandle" ∧ (parseMethodDescriptor yJxc12de_init_da8c8.desc).map (fun d => d.parameters.length) = some 0 := by decide +kernel
theorem kSJx4a65c_init_da8c8 : yJx4a65c_init_da8c8.cls ≠ "java/lang/invoke/MethodHandle" ∧ yJx4a65c_init_da8c8.cls ≠ "java/lang/invoke/VarHandle" ∧ (parseMethodDescriptor yJx4a65c_init_da8c8.desc).map (fun d => d.parameters.length) = some 0 := by decide +kernel
theorem kSJx4a65c_size_8abf5 : yJx4a65c_size_8abf5.cls ≠ "java/lang/invoke/MethodHandle" ∧ yJx4a65c_size_8abf5.cls ≠ "java/lang/invoke/VarHandle" ∧ (parseMethodDescriptor yJx4a65c_size_8abf5.desc).map (fun d => d.parameters.length) = some 0 := by decide +kernel
theorem kVJx4a65c_size_8abf5 : yJx4a65c_size_8abf5.cls = RJx4a65c ∧ yJx4a65c_size_8abf5.cls ≠ "java/lang/invoke/MethodHandle" ∧ yJx4a65c_size_8abf5.cls ≠ "java/lang/invoke/VarHandle" ∧ (parseMethodDescriptor yJx4a65c_size_8abf5.desc).map (fun d => d.parameters.length) = some 0 := ⟨rfl, kSJx4a65c_size_8abf5⟩
theorem kSJ7_fill_53178 : yJ7_fill_53178.cls ≠ "java/lang/invoke/MethodHandle" ∧ yJ7_fill_53178.cls ≠ "java/lang/invoke/VarHandle" ∧ (parseMethodDescriptor yJ7_fill_53178.desc).map (fun d => d.parameters.length) = some 2 := by decide +kernel
theorem kSJ7_copyOf_59c91 : yJ7_copyOf_59c91.cls ≠ "java/lang/invoke/MethodHandle" ∧ yJ7_copyOf_59c91.cls ≠ "java/lang/invoke/VarHandle" ∧ (parseMethodDescriptor yJ7_copyOf_59c91.desc).map (fun d => d.parameters.length) = some 2 := by decide +kernel
