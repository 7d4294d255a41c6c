section
/-! ===== the class's world: one state u over addresses Q (D: the log's two arrays), and a tail T that is not looked at ===== -/
def sf (u : MS) (k : Nat) (f : Nat → Int32) : MS := (u.1, fun a => if a = k then f else u.2 a)
def sl {α : Type} (x : Int32) (a b : α) : α := if x = 0 then a else b
theorem c_upd {A : Nat → Prop} {D : va_G} {cl : List vw_C} {ws : va_W} {H H1 : Heap} (hP : va_P D cl ws H) (hD : va_D A ws) {i j h0 a0 : Nat} {e0 e1 e2 : va_E} (hi : ws[i]? = some (h0, e0)) (hj : ws[j]? = some (a0, e1)) (hk : ∀ q : Nat, q < H.size → ¬ va_A [(h0, e0), (a0, e1)] H.size q → H1[q]? = H[q]?) (hP1 : va_P D cl [(h0, e0), (a0, e2)] H1) : va_P D cl (ws.set j (a0, e2)) H1 ∧ va_D A (ws.set j (a0, e2)) := by
  refine ⟨fun k q hq => ?_, hD.set hj⟩
  have hjl : j < ws.length := (List.getElem?_eq_some_iff.mp hj).1
  by_cases hkj : k = j
  · subst hkj
    rw [List.getElem?_set_self hjl] at hq
    cases Option.some.inj hq
    exact hP1 1 _ rfl
  · rw [List.getElem?_set_ne (fun h => hkj h.symm)] at hq
    by_cases h1 : q.1 = h0
    · have := hD.1 k i q (h0, e0) hq hi h1
      subst this
      cases Option.some.inj (hq.symm.trans hi)
      exact hP1 0 _ rfl
    · refine (hP k q hq).kept (hk q.1 (hP k q hq).lt (fun z => ?_))
      rcases z with ⟨k2, e, z⟩ | z
      · match k2, z with
        | 0, z => cases Option.some.inj z; exact h1 rfl
        | 1, z => cases Option.some.inj z; exact hkj (hD.1 k j q (q.1, e1) hq hj rfl)
        | k2 + 2, z => cases z
      · exact absurd (hP k q hq).lt (Nat.not_lt.mpr z)
def cW (G : gG) (Q : Nat → Nat) (D : Nat × Nat) (T : va_W) (u : MS) : va_W := (Q 0, .inr (12, [.ref (Q 1), .ref (Q 2), .ref (Q 3), .ref (Q 4), .ref (Q 5), .ref (Q 6), .ref (Q 7), .ref (Q 8), .ref (Q 9), .ref (Q 14), .ref (Q 13)])) :: (Q 1, .inr (2, [.ref (Q 12), .ref (Q 20), .ref (Q 22), .ref (Q 24), .int (u.1 0), .int (u.1 1)])) :: (Q 2, .inr (11, [.ref (Q 26), .int (u.1 2), .int (u.1 3), .int (u.1 4), .int (u.1 5), .int (u.1 6)])) :: (Q 3, .inr (6, [.ref (Q 2), .ref (Q 28), .ref (Q 30), .ref (Q 32), .ref (Q 10), .int (u.1 7), .int (u.1 8), .int (u.1 9), .int (u.1 10), .int (u.1 11), .int (u.1 12), .int (u.1 13), .int (u.1 14), .int (u.1 15)])) :: (Q 4, .inr (9, [.ref (Q 1)])) :: (Q 5, .inr (3, [.ref (Q 1), .ref (Q 40), .ref (Q 42)])) :: (Q 6, .inr (1, [.ref (Q 1), .ref (Q 44), .ref (Q 46), .ref (Q 48), .ref (Q 50), .ref (Q 52)])) :: (Q 7, .inr (4, [.ref (Q 1), .ref (Q 6), .ref (Q 54), .int (u.1 16)])) :: (Q 8, .inr (8, [.ref (Q 1), .ref (Q 6), .ref (Q 56), .ref (Q 58)])) :: (Q 9, .inr (7, [.ref (Q 1), .ref (Q 6), .ref (Q 60), .ref (Q 62), .ref (Q 64), .ref (Q 66), .ref (Q 68), .ref (sl (u.1 61) (Q 70) (Q 72)), .ref (sl (u.1 63) (Q 74) (Q 76)), .ref (sl (u.1 62) (Q 70) (Q 72)), .ref (sl (u.1 64) (Q 74) (Q 76)), .int (u.1 17), .int (u.1 18), .int (u.1 19)])) :: (Q 10, .inr (5, [.int (u.1 20), .int (u.1 21), .int (u.1 22), .int (u.1 23), .int (u.1 24), .int (u.1 25), .ref (Q 34), .ref (Q 36), .ref (Q 38)])) :: (Q 12, .inl (gI G, 2088, .inl (u.2 0))) :: (Q 20, .inr (10, [.ref (D.1)])) :: (D.1, .inl (gI G, (u.1 60).toNatClampNeg, .inl (u.2 1))) :: (Q 22, .inr (10, [.ref (D.2)])) :: (D.2, .inl (gI G, (u.1 65).toNatClampNeg, .inl (u.2 2))) :: (Q 24, .inr (10, [.ref (Q 25)])) :: (Q 25, .inl (gI G, 500, .inl (u.2 3))) :: (Q 26, .inr (10, [.ref (Q 27)])) :: (Q 27, .inl (gI G, 3000, .inl (u.2 4))) :: (Q 28, .inr (10, [.ref (Q 29)])) :: (Q 29, .inl (gI G, 8, .inl (u.2 5))) :: (Q 30, .inr (10, [.ref (Q 31)])) :: (Q 31, .inl (gI G, 8, .inl (u.2 6))) :: (Q 32, .inr (10, [.ref (Q 33)])) :: (Q 33, .inl (gI G, 64, .inl (u.2 7))) :: (Q 34, .inr (10, [.ref (Q 35)])) :: (Q 35, .inl (gI G, 300, .inl (u.2 8))) :: (Q 36, .inr (10, [.ref (Q 37)])) :: (Q 37, .inl (gI G, 20, .inl (u.2 9))) :: (Q 38, .inr (10, [.ref (Q 39)])) :: (Q 39, .inl (gI G, 20, .inl (u.2 10))) :: (Q 40, .inr (10, [.ref (Q 41)])) :: (Q 41, .inl (gI G, 32, .inl (u.2 11))) :: (Q 42, .inr (10, [.ref (Q 43)])) :: (Q 43, .inl (gI G, 16, .inl (u.2 12))) :: (Q 44, .inr (10, [.ref (Q 45)])) :: (Q 45, .inl (gI G, 148, .inl (u.2 13))) :: (Q 46, .inr (10, [.ref (Q 47)])) :: (Q 47, .inl (gI G, 148, .inl (u.2 14))) :: (Q 48, .inr (10, [.ref (Q 49)])) :: (Q 49, .inl (gI G, 148, .inl (u.2 15))) :: (Q 50, .inr (10, [.ref (Q 51)])) :: (Q 51, .inl (gI G, 148, .inl (u.2 16))) :: (Q 52, .inr (10, [.ref (Q 53)])) :: (Q 53, .inl (gI G, 4, .inl (u.2 17))) :: (Q 54, .inr (10, [.ref (Q 55)])) :: (Q 55, .inl (gI G, 64, .inl (u.2 18))) :: (Q 56, .inr (10, [.ref (Q 57)])) :: (Q 57, .inl (gI G, 96, .inl (u.2 19))) :: (Q 58, .inr (10, [.ref (Q 59)])) :: (Q 59, .inl (gI G, 96, .inl (u.2 20))) :: (Q 60, .inr (10, [.ref (Q 61)])) :: (Q 61, .inl (gI G, 148, .inl (u.2 21))) :: (Q 62, .inr (10, [.ref (Q 63)])) :: (Q 63, .inl (gI G, 148, .inl (u.2 22))) :: (Q 64, .inr (10, [.ref (Q 65)])) :: (Q 65, .inl (gI G, 4, .inl (u.2 23))) :: (Q 66, .inr (10, [.ref (Q 67)])) :: (Q 67, .inl (gI G, 96, .inl (u.2 24))) :: (Q 68, .inr (10, [.ref (Q 69)])) :: (Q 69, .inl (gI G, 148, .inl (u.2 25))) :: (Q 70, .inr (10, [.ref (Q 71)])) :: (Q 71, .inl (gI G, 148, .inl (u.2 26))) :: (Q 72, .inr (10, [.ref (Q 73)])) :: (Q 73, .inl (gI G, 148, .inl (u.2 27))) :: (Q 74, .inr (10, [.ref (Q 75)])) :: (Q 75, .inl (gI G, 148, .inl (u.2 28))) :: (Q 76, .inr (10, [.ref (Q 77)])) :: (Q 77, .inl (gI G, 148, .inl (u.2 29))) :: T
def wKa0 : List Cond := [.methodLink RX11 1 objectInit, .classLink RX11 7 RX1, .methodLink RX11 9 yX1_init, .methodLink RX1 7 objectInit, .classLink RX1 17 RX9, .methodLink RX1 19 yX9_init, .methodLink RX9 3 objectInit, .methodLink RX9 9 Lib.Math.max.name, .methodLink RX9 21 yJ7_fill_53178, .fieldLink RX9 15 "JudoHall$Row" "cells" "[I", .methodLink RX1 32 yX1_lay, .methodLink RX1 35 yX1_ofClass, .constant RX1 39 (200000), .methodLink RX1 40 yX1_ofMat, .fieldLink RX1 13 "JudoHall$Book" "cells" "[I", .fieldLink RX1 22 "JudoHall$Book" "changed" "LJudoHall$Row;", .fieldLink RX1 26 "JudoHall$Book" "before" "LJudoHall$Row;", .fieldLink RX1 29 "JudoHall$Book" "starts" "LJudoHall$Row;", .fieldLink RX1 50 "JudoHall$Book" "changes" "I", .fieldLink RX1 61 "JudoHall$Book" "entries" "I", .classLink RX11 16 RX10, .methodLink RX11 18 yX10_init, .methodLink RX10 1 objectInit, .classLink RX10 7 RX9, .methodLink RX10 11 yX9_init, .fieldLink RX10 14 "JudoHall$Tape" "bytes" "LJudoHall$Row;", .fieldLink RX10 18 "JudoHall$Tape" "length" "I", .fieldLink RX10 25 "JudoHall$Tape" "next" "I", .fieldLink RX10 39 "JudoHall$Tape" "kind" "I", .fieldLink RX10 36 "JudoHall$Tape" "from" "I", .fieldLink RX10 61 "JudoHall$Tape" "value" "I", .classLink RX11 23 RX5, .methodLink RX11 25 yX5_init, .methodLink RX5 3 objectInit, .classLink RX5 15 RX9, .methodLink RX5 19 yX9_init, .classLink RX5 17 RX4, .methodLink RX5 32 yX4_init, .methodLink RX4 1 objectInit, .classLink RX4 7 RX9, .methodLink RX4 11 yX9_init, .fieldLink RX4 24 "JudoHall$Laws" "time" "I", .fieldLink RX4 28 "JudoHall$Laws" "golden" "I", .fieldLink RX4 31 "JudoHall$Laws" "signs" "I", .fieldLink RX4 34 "JudoHall$Laws" "lines" "I", .fieldLink RX4 37 "JudoHall$Laws" "parts" "I", .fieldLink RX4 40 "JudoHall$Laws" "size" "I", .fieldLink RX4 14 "JudoHall$Laws" "code" "LJudoHall$Row;", .fieldLink RX4 18 "JudoHall$Laws" "ends" "LJudoHall$Row;", .fieldLink RX4 21 "JudoHall$Laws" "points" "LJudoHall$Row;", .fieldLink RX5 9 "JudoHall$Parser" "tape" "LJudoHall$Tape;", .fieldLink RX5 22 "JudoHall$Parser" "nameFrom" "LJudoHall$Row;", .fieldLink RX5 26 "JudoHall$Parser" "nameSize" "LJudoHall$Row;", .fieldLink RX5 29 "JudoHall$Parser" "works" "LJudoHall$Row;", .fieldLink RX5 33 "JudoHall$Parser" "draft" "LJudoHall$Laws;", .fieldLink RX5 55 "JudoHall$Parser" "held" "I", .fieldLink RX5 58 "JudoHall$Parser" "open" "I", .fieldLink RX5 61 "JudoHall$Parser" "brackets" "I", .fieldLink RX5 37 "JudoHall$Parser" "place" "I", .fieldLink RX5 49 "JudoHall$Parser" "fault" "I", .fieldLink RX5 52 "JudoHall$Parser" "where" "I", .fieldLink RX5 181 "JudoHall$Parser" "whose" "I", .fieldLink RX5 160 "JudoHall$Parser" "sum" "I", .fieldLink RX5 84 "JudoHall$Parser" "comparison" "I", .classLink RX11 32 RX8, .methodLink RX11 34 yX8_init, .methodLink RX8 3 objectInit, .fieldLink RX8 9 "JudoHall$Roll" "book" "LJudoHall$Book;", .classLink RX11 41 RX2, .methodLink RX11 43 yX2_init, .methodLink RX2 3 objectInit, .classLink RX2 15 RX9, .methodLink RX2 17 yX9_init, .fieldLink RX2 9 "JudoHall$Drawer" "book" "LJudoHall$Book;", .fieldLink RX2 20 "JudoHall$Drawer" "row" "LJudoHall$Row;", .fieldLink RX2 24 "JudoHall$Drawer" "others" "LJudoHall$Row;", .classLink RX11 48 RX0, .methodLink RX11 50 yX0_init, .methodLink RX0 5 objectInit, .classLink RX0 15 RX9, .methodLink RX0 17 yX9_init, .fieldLink RX0 11 "JudoHall$Board" "book" "LJudoHall$Book;", .fieldLink RX0 20 "JudoHall$Board" "white" "LJudoHall$Row;", .fieldLink RX0 24 "JudoHall$Board" "blue" "LJudoHall$Row;", .fieldLink RX0 27 "JudoHall$Board" "winner" "LJudoHall$Row;", .fieldLink RX0 30 "JudoHall$Board" "state" "LJudoHall$Row;", .fieldLink RX0 33 "JudoHall$Board" "lost" "LJudoHall$Row;", .classLink RX11 55 RX3, .methodLink RX11 57 yX3_init, .methodLink RX3 3 objectInit, .classLink RX3 19 RX9, .methodLink RX3 21 yX9_init, .fieldLink RX3 9 "JudoHall$Floor" "book" "LJudoHall$Book;", .fieldLink RX3 15 "JudoHall$Floor" "board" "LJudoHall$Board;", .fieldLink RX3 24 "JudoHall$Floor" "stack" "LJudoHall$Row;", .fieldLink RX3 97 "JudoHall$Floor" "top" "I", .classLink RX11 64 RX7, .methodLink RX11 66 yX7_init, .methodLink RX7 3 objectInit, .classLink RX7 19 RX9, .methodLink RX7 21 yX9_init, .fieldLink RX7 9 "JudoHall$Podium" "book" "LJudoHall$Book;", .fieldLink RX7 15 "JudoHall$Podium" "board" "LJudoHall$Board;", .fieldLink RX7 24 "JudoHall$Podium" "wins" "LJudoHall$Row;", .fieldLink RX7 28 "JudoHall$Podium" "sums" "LJudoHall$Row;", .classLink RX11 71 RX6, .methodLink RX11 73 yX6_init, .methodLink RX6 3 objectInit, .classLink RX6 19 RX9, .methodLink RX6 23 yX9_init, .fieldLink RX6 9 "JudoHall$Planner" "book" "LJudoHall$Book;", .fieldLink RX6 15 "JudoHall$Planner" "board" "LJudoHall$Board;", .fieldLink RX6 26 "JudoHall$Planner" "order" "LJudoHall$Row;", .fieldLink RX6 30 "JudoHall$Planner" "ends" "LJudoHall$Row;", .fieldLink RX6 33 "JudoHall$Planner" "matFree" "LJudoHall$Row;", .fieldLink RX6 36 "JudoHall$Planner" "fighterFree" "LJudoHall$Row;", .fieldLink RX6 39 "JudoHall$Planner" "earliest" "LJudoHall$Row;", .fieldLink RX6 42 "JudoHall$Planner" "mats" "LJudoHall$Row;", .fieldLink RX6 45 "JudoHall$Planner" "begins" "LJudoHall$Row;", .fieldLink RX6 48 "JudoHall$Planner" "newMats" "LJudoHall$Row;", .fieldLink RX6 51 "JudoHall$Planner" "newBegins" "LJudoHall$Row;", .fieldLink RX6 84 "JudoHall$Planner" "ordered" "I", .fieldLink RX6 62 "JudoHall$Planner" "length" "I", .fieldLink RX6 102 "JudoHall$Planner" "lastEnd" "I", .classLink RX11 78 RX4, .methodLink RX11 80 yX4_init, .classLink RX11 85 RJx4a65c, .methodLink RX11 87 yJx4a65c_init_da8c8, .fieldLink RX11 10 "JudoHall" "book" "LJudoHall$Book;", .fieldLink RX11 19 "JudoHall" "tape" "LJudoHall$Tape;", .fieldLink RX11 28 "JudoHall" "parser" "LJudoHall$Parser;", .fieldLink RX11 37 "JudoHall" "roll" "LJudoHall$Roll;", .fieldLink RX11 44 "JudoHall" "drawer" "LJudoHall$Drawer;", .fieldLink RX11 51 "JudoHall" "board" "LJudoHall$Board;", .fieldLink RX11 60 "JudoHall" "floor" "LJudoHall$Floor;", .fieldLink RX11 67 "JudoHall" "podium" "LJudoHall$Podium;", .fieldLink RX11 74 "JudoHall" "planner" "LJudoHall$Planner;", .fieldLink RX11 81 "JudoHall" "noLaws" "LJudoHall$Laws;", .fieldLink RX11 88 "JudoHall" "told" "Ljava/util/ArrayList;", .methodLink RX11 96 yX10_push, .methodLink RX10 22 yX9_set, .methodLink RX11 100 yX3_openFights, .methodLink RX3 41 yX3_isFree, .methodLink RX3 38 yX3_on, .methodLink RX3 28 yX1_ofMat, .methodLink RX3 34 yX1_at, .methodLink RX11 104 yX5_readLaws, .methodLink RX5 41 yX4_clear, .methodLink RX5 44 yX10_rewind, .methodLink RX5 64 yX10_readToken]
def wKa1 : List Cond := [.methodLink RX10 28 yX9_get, .methodLink RX10 32 yX10_isBlank, .methodLink RX10 42 yX10_isLetter, .methodLink RX10 45 yX10_readWord, .methodLink RX10 57 yX10_wordKind, .methodLink RX10 70 yX10_spells, .methodLink RX10 98 yJ0_length_8abf5, .methodLink RX10 102 yJ0_charAt_5068e, .methodLink RX10 48 yX10_isDigit, .methodLink RX10 51 yX10_readNumber, .methodLink RX10 54 yX10_markOf, .methodLink RX10 64 yX10_takeEqual, .methodLink RX5 70 yX5_take, .fieldLink RX5 77 "JudoHall$Parser" "HEAD" "[I", .methodLink RX5 81 yX5_takeHead, .methodLink RX5 96 yX5_goIf, .methodLink RX5 118 yX5_fail, .methodLink RX5 87 yX5_endComparison, .methodLink RX5 169 yX4_emit, .methodLink RX4 43 yX9_set, .methodLink RX5 172 yX5_closeNots, .methodLink RX5 152 yX9_get, .methodLink RX5 90 yX5_takeSignOrLine, .methodLink RX5 133 yX5_goIfRoom, .methodLink RX5 142 yX9_set, .methodLink RX5 93 yX5_takeSignName, .methodLink RX5 145 yX5_signOfToken, .methodLink RX5 156 yX10_isWordAt, .methodLink RX5 149 yX10_tokenSize, .methodLink RX5 100 yX5_takePoints, .methodLink RX5 103 yX5_takeCond, .methodLink RX5 163 yX5_takePart, .methodLink RX5 166 yX5_openThing, .methodLink RX5 178 yX5_hold, .methodLink RX5 106 yX5_takeTerm, .methodLink RX5 184 yX5_emitTerm, .methodLink RX5 109 yX5_takeTermName, .methodLink RX5 112 yX5_takeBehindTerm, .methodLink RX5 115 yX5_takeBehindCond, .methodLink RX5 187 yX5_emitBinders, .methodLink RX5 190 yX5_closeBracket, .methodLink RX5 193 yX4_endLine, .methodLink RX11 108 yX1_isFull, .methodLink RX11 111 yX1_openEntry, .methodLink RX1 58 yX9_set, .methodLink RX11 114 yX5_handOver, .methodLink RX11 118 yX11_keepLaws, .methodLink RX11 134 yX1_at, .methodLink RX11 138 yJx4a65c_size_8abf5, .methodLink RX11 141 yJx4a65c_set_bcc79, .methodLink RX11 145 yJx4a65c_add_9ea2d, .methodLink RX11 149 yX1_put, .methodLink RX1 46 yX1_at, .methodLink RX1 54 yX9_makeRoomFor, .methodLink RX9 27 yJ7_copyOf_59c91, .methodLink RX11 122 yX11_lawsNow, .methodLink RX11 153 yJx4a65c_get_915e3, .methodLink RX11 157 yX11_isClass, .methodLink RX11 161 yX11_isGrams, .constant RX11 323 (200000), .methodLink RX11 164 yX0_isDrawn, .methodLink RX0 46 yX0_kindOf, .methodLink RX0 38 yX1_ofClass, .methodLink RX0 42 yX1_at, .methodLink RX11 167 yX8_wasAnyAtScales, .methodLink RX8 21 yX8_people, .methodLink RX8 17 yX1_at, .methodLink RX8 33 yX8_classOf, .methodLink RX8 25 yX1_ofFighter, .methodLink RX11 170 yX1_ofClass, .methodLink RX11 174 yX8_people, .methodLink RX11 177 yX8_add, .methodLink RX8 29 yX1_put, .methodLink RX11 179 yX8_has, .methodLink RX11 182 yX8_classOf, .methodLink RX11 185 yX8_putOnScales, .methodLink RX8 36 yX1_ofClass, .methodLink RX11 189 yX8_isSeedOfAnother, .methodLink RX11 192 yX1_ofFighter, .methodLink RX11 195 yX8_weighedOf, .methodLink RX8 39 yX8_isWeighed, .methodLink RX11 198 yX2_placeAll, .methodLink RX2 27 yX2_placesFor, .methodLink RX2 33 yX1_ofClass, .methodLink RX2 39 yX1_put, .methodLink RX2 42 yX2_placePool, .methodLink RX2 55 yX1_at, .methodLink RX2 58 yX8_isWeighed, .methodLink RX2 64 yX2_placeOne, .methodLink RX2 68 yX1_ofFighter, .methodLink RX2 46 yX2_makeRow, .methodLink RX2 71 yX9_set, .methodLink RX2 74 yX9_get, .methodLink RX2 49 yX2_placeSeeds, .methodLink RX2 52 yX2_placeOthers, .methodLink RX2 77 yX9_fill, .methodLink RX2 80 yX2_isSeed, .methodLink RX2 84 yX2_largestClub, .methodLink RX2 88 yX2_placeClub, .methodLink RX2 91 yX2_bestPlace, .methodLink RX2 95 yX2_firstMeeting, .methodLink RX2 98 yX2_meetingRound, .methodLink RX2 101 Lib.Math.min.name, .methodLink RX11 201 yX0_settle, .methodLink RX0 49 yX0_sizeOf, .methodLink RX0 80 yX0_settlePool, .methodLink RX0 90 yX0_settleFight, .methodLink RX0 110 yX1_ofFight, .methodLink RX1 43 yX0_slot, .methodLink RX0 62 yX0_slot, .methodLink RX0 107 yX9_set, .methodLink RX0 83 yX0_settleTree, .methodLink RX0 94 yX0_settleWalk, .methodLink RX0 97 yX0_lowerBelow, .methodLink RX0 68 yX0_winnerOf, .methodLink RX0 65 yX9_get, .methodLink RX0 86 yX0_settleLives, .methodLink RX0 52 yX0_stepsOf, .methodLink RX0 100 yX0_findLosersTo, .methodLink RX0 103 yX9_fill, .methodLink RX0 71 yX0_whiteOf, .methodLink RX0 74 yX0_blueOf, .methodLink RX11 204 yX0_fightsOf, .methodLink RX11 207 yX8_fightersOf, .methodLink RX11 210 yX0_kindOf, .methodLink RX11 213 yX0_sizeOf, .methodLink RX11 216 yX0_howMany, .methodLink RX0 59 yX0_fightsOf, .methodLink RX0 77 yX0_stateOf, .methodLink RX11 219 yX0_onPlace, .methodLink RX11 222 yX0_has, .methodLink RX11 224 yX0_stateOf, .methodLink RX11 227 yX0_whiteOf, .methodLink RX11 230 yX0_blueOf, .methodLink RX11 233 yX0_winnerOf, .methodLink RX11 236 yX1_ofFight, .methodLink RX11 240 yX11_isMat, .methodLink RX11 243 yX3_isFree, .methodLink RX11 246 yX3_isHeld, .methodLink RX3 51 yX3_fighterOn, .methodLink RX3 47 yX1_ofFight, .methodLink RX3 54 yX1_ofFighter, .methodLink RX11 252 yX3_start, .methodLink RX3 59 yX1_put, .methodLink RX3 62 yX0_whiteOf, .methodLink RX3 65 yX0_blueOf, .methodLink RX11 256 yX3_turnOver, .methodLink RX11 260 yX11_isSide, .methodLink RX11 266 yX3_goesOn, .methodLink RX11 269 yX3_giveSign]
def wKa2 : List Cond := [.methodLink RX3 72 yX3_signsOf, .methodLink RX3 75 Lib.Math.min.name, .methodLink RX11 273 yX3_ask, .methodLink RX3 83 yX3_holds, .methodLink RX3 100 yX4_startOf, .methodLink RX4 46 yX9_get, .methodLink RX3 90 yX9_get, .methodLink RX3 106 yX4_kindAt, .methodLink RX3 111 yX3_pop, .methodLink RX3 131 Lib.Math.max.name, .methodLink RX3 115 yX3_push, .methodLink RX3 128 yX9_set, .methodLink RX3 119 yX3_workOn, .methodLink RX3 122 yX4_valueAt, .methodLink RX3 125 yX3_valueOf, .methodLink RX3 93 yX3_finish, .methodLink RX3 134 yX3_leave, .methodLink RX11 277 yX3_classOn, .methodLink RX11 280 yX1_ofMat, .methodLink RX11 283 yX3_letPass, .methodLink RX11 286 yX3_waits, .methodLink RX11 289 yX3_finish, .methodLink RX11 293 yX11_signsOn, .methodLink RX11 296 yX3_signsOf, .methodLink RX11 299 yX3_strikeFrom, .methodLink RX3 137 yX3_drop, .methodLink RX3 140 yX0_settle, .methodLink RX3 143 yX0_firstStale, .methodLink RX11 302 yX7_ofPool, .methodLink RX7 47 yX0_howMany, .methodLink RX7 37 yX0_fightsOf, .methodLink RX7 50 yX7_addUp, .methodLink RX7 68 yX9_fill, .methodLink RX7 40 yX0_winnerOf, .methodLink RX7 71 yX9_get, .methodLink RX7 74 yX9_set, .methodLink RX7 77 yX1_ofFight, .methodLink RX7 65 yX1_at, .methodLink RX7 31 yX0_sizeOf, .methodLink RX7 54 yX7_member, .methodLink RX7 62 yX1_ofClass, .methodLink RX7 57 yX7_aheadOf, .methodLink RX7 81 yX7_areAlike, .methodLink RX7 85 yX7_breaksTie, .methodLink RX7 92 yX7_beat, .methodLink RX7 44 yX0_loserOf, .methodLink RX7 96 yX1_ofFighter, .methodLink RX7 89 yX7_hasMore, .methodLink RX11 305 yX7_ofTree, .methodLink RX11 308 yX6_planDay, .methodLink RX6 66 yX6_clear, .methodLink RX6 109 yX9_fill, .methodLink RX6 81 yX1_at, .methodLink RX6 112 yX1_ofFighter, .methodLink RX6 115 yX9_set, .methodLink RX6 69 yX6_putOpenOnes, .methodLink RX6 118 yX1_ofMat, .methodLink RX6 121 yX6_put, .methodLink RX6 54 yX0_slot, .methodLink RX6 125 yX0_whiteOf, .methodLink RX6 128 yX6_holdTill, .methodLink RX6 58 yX9_get, .methodLink RX6 97 Lib.Math.max.name, .methodLink RX6 131 yX0_blueOf, .methodLink RX6 72 yX6_putInOrder, .methodLink RX6 134 yX6_putStageInOrder, .methodLink RX6 137 yX0_fightsOf, .methodLink RX6 140 yX0_stateOf, .methodLink RX6 143 yX0_stageOf, .methodLink RX0 114 yX0_stepOf, .methodLink RX6 75 yX6_findEarliest, .methodLink RX6 156 yX6_freeFrom, .methodLink RX6 159 yX0_aheadOf, .methodLink RX6 163 yX6_behindFight, .constant RX6 152 (1000000), .methodLink RX6 87 yX6_putFrom, .methodLink RX6 146 yX6_firstThatMay, .methodLink RX6 149 yX6_takeOutOfOrder, .methodLink RX6 90 yX6_soonestMat, .methodLink RX6 153 Lib.Math.min.name, .methodLink RX6 93 yX6_soonestFight, .constant RX6 105 (100000), .methodLink RX6 106 yX6_keep, .methodLink RX11 311 yX6_tell, .methodLink RX11 317 yX1_takeBack, .methodLink RX1 64 yX9_get, .methodLink RX1 67 Lib.Math.max.name, .static yX0_slot, .instanceMethod yX0_kindOf, .selects RX0 yX0_kindOf yX0_kindOf, .instanceMethod yX0_sizeOf, .selects RX0 yX0_sizeOf yX0_sizeOf, .instanceMethod yX0_isDrawn, .selects RX0 yX0_isDrawn yX0_isDrawn, .instanceMethod yX0_onPlace, .selects RX0 yX0_onPlace yX0_onPlace, .instanceMethod yX0_fightsOf, .selects RX0 yX0_fightsOf yX0_fightsOf, .static yX0_stepsOf, .instanceMethod yX0_has, .selects RX0 yX0_has yX0_has, .instanceMethod yX0_whiteOf, .selects RX0 yX0_whiteOf yX0_whiteOf, .instanceMethod yX0_blueOf, .selects RX0 yX0_blueOf yX0_blueOf, .instanceMethod yX0_winnerOf, .selects RX0 yX0_winnerOf yX0_winnerOf, .instanceMethod yX0_stateOf, .selects RX0 yX0_stateOf yX0_stateOf, .instanceMethod yX0_loserOf, .selects RX0 yX0_loserOf yX0_loserOf, .instanceMethod yX0_howMany, .selects RX0 yX0_howMany yX0_howMany, .instanceMethod yX0_settle, .selects RX0 yX0_settle yX0_settle, .instanceMethod yX0_settlePool, .selects RX0 yX0_settlePool yX0_settlePool, .instanceMethod yX0_settleTree, .selects RX0 yX0_settleTree yX0_settleTree, .static yX0_lowerBelow, .instanceMethod yX0_settleLives, .selects RX0 yX0_settleLives yX0_settleLives, .instanceMethod yX0_findLosersTo, .selects RX0 yX0_findLosersTo yX0_findLosersTo, .instanceMethod yX0_settleWalk, .selects RX0 yX0_settleWalk yX0_settleWalk, .instanceMethod yX0_settleFight, .selects RX0 yX0_settleFight yX0_settleFight, .instanceMethod yX0_firstStale, .selects RX0 yX0_firstStale yX0_firstStale, .instanceMethod yX0_stageOf, .selects RX0 yX0_stageOf yX0_stageOf, .static yX0_stepOf, .instanceMethod yX0_aheadOf, .selects RX0 yX0_aheadOf yX0_aheadOf, .static yX1_ofClass, .static yX1_ofFighter, .static yX1_ofFight, .static yX1_ofMat, .instanceMethod yX1_put, .selects RX1 yX1_put yX1_put, .instanceMethod yX1_isFull, .selects RX1 yX1_isFull yX1_isFull, .instanceMethod yX1_openEntry, .selects RX1 yX1_openEntry yX1_openEntry, .instanceMethod yX1_takeBack, .selects RX1 yX1_takeBack yX1_takeBack, .instanceMethod yX2_placeAll, .selects RX2 yX2_placeAll yX2_placeAll, .static yX2_placesFor]
def wKa3 : List Cond := [.instanceMethod yX2_placePool, .selects RX2 yX2_placePool yX2_placePool, .instanceMethod yX2_placeOne, .selects RX2 yX2_placeOne yX2_placeOne, .instanceMethod yX2_makeRow, .selects RX2 yX2_makeRow yX2_makeRow, .instanceMethod yX2_isSeed, .selects RX2 yX2_isSeed yX2_isSeed, .instanceMethod yX2_placeSeeds, .selects RX2 yX2_placeSeeds yX2_placeSeeds, .instanceMethod yX2_placeOthers, .selects RX2 yX2_placeOthers yX2_placeOthers, .instanceMethod yX2_largestClub, .selects RX2 yX2_largestClub yX2_largestClub, .instanceMethod yX2_placeClub, .selects RX2 yX2_placeClub yX2_placeClub, .instanceMethod yX2_bestPlace, .selects RX2 yX2_bestPlace yX2_bestPlace, .instanceMethod yX2_firstMeeting, .selects RX2 yX2_firstMeeting yX2_firstMeeting, .static yX2_meetingRound, .instanceMethod yX3_on, .selects RX3 yX3_on yX3_on, .instanceMethod yX3_isFree, .selects RX3 yX3_isFree yX3_isFree, .instanceMethod yX3_classOn, .selects RX3 yX3_classOn yX3_classOn, .instanceMethod yX3_waits, .selects RX3 yX3_waits yX3_waits, .instanceMethod yX3_goesOn, .selects RX3 yX3_goesOn yX3_goesOn, .instanceMethod yX3_signsOf, .selects RX3 yX3_signsOf yX3_signsOf, .instanceMethod yX3_openFights, .selects RX3 yX3_openFights yX3_openFights, .instanceMethod yX3_fighterOn, .selects RX3 yX3_fighterOn yX3_fighterOn, .instanceMethod yX3_isHeld, .selects RX3 yX3_isHeld yX3_isHeld, .instanceMethod yX3_start, .selects RX3 yX3_start yX3_start, .instanceMethod yX3_turnOver, .selects RX3 yX3_turnOver yX3_turnOver, .instanceMethod yX3_giveSign, .selects RX3 yX3_giveSign yX3_giveSign, .instanceMethod yX3_letPass, .selects RX3 yX3_letPass yX3_letPass, .instanceMethod yX3_ask, .selects RX3 yX3_ask yX3_ask, .instanceMethod yX3_holds, .selects RX3 yX3_holds yX3_holds, .instanceMethod yX3_push, .selects RX3 yX3_push yX3_push, .instanceMethod yX3_pop, .selects RX3 yX3_pop yX3_pop, .instanceMethod yX3_valueOf, .selects RX3 yX3_valueOf yX3_valueOf, .static yX3_workOn, .instanceMethod yX3_finish, .selects RX3 yX3_finish yX3_finish, .instanceMethod yX3_leave, .selects RX3 yX3_leave yX3_leave, .instanceMethod yX3_strikeFrom, .selects RX3 yX3_strikeFrom yX3_strikeFrom, .instanceMethod yX3_drop, .selects RX3 yX3_drop yX3_drop, .instanceMethod yX4_clear, .selects RX4 yX4_clear yX4_clear, .instanceMethod yX4_emit, .selects RX4 yX4_emit yX4_emit, .instanceMethod yX4_endLine, .selects RX4 yX4_endLine yX4_endLine, .instanceMethod yX4_startOf, .selects RX4 yX4_startOf yX4_startOf, .instanceMethod yX4_kindAt, .selects RX4 yX4_kindAt yX4_kindAt, .instanceMethod yX4_valueAt, .selects RX4 yX4_valueAt yX4_valueAt, .instanceMethod yX5_handOver, .selects RX5 yX5_handOver yX5_handOver, .instanceMethod yX5_readLaws, .selects RX5 yX5_readLaws yX5_readLaws, .instanceMethod yX5_fail, .selects RX5 yX5_fail yX5_fail, .instanceMethod yX5_take, .selects RX5 yX5_take yX5_take, .instanceMethod yX5_goIf, .selects RX5 yX5_goIf yX5_goIf, .instanceMethod yX5_takeHead, .selects RX5 yX5_takeHead yX5_takeHead, .instanceMethod yX5_takeSignOrLine, .selects RX5 yX5_takeSignOrLine yX5_takeSignOrLine, .instanceMethod yX5_goIfRoom, .selects RX5 yX5_goIfRoom yX5_goIfRoom, .instanceMethod yX5_takeSignName, .selects RX5 yX5_takeSignName yX5_takeSignName, .instanceMethod yX5_signOfToken, .selects RX5 yX5_signOfToken yX5_signOfToken, .instanceMethod yX5_takePoints, .selects RX5 yX5_takePoints yX5_takePoints, .instanceMethod yX5_takeCond, .selects RX5 yX5_takeCond yX5_takeCond, .instanceMethod yX5_takePart, .selects RX5 yX5_takePart yX5_takePart, .instanceMethod yX5_openThing, .selects RX5 yX5_openThing yX5_openThing, .instanceMethod yX5_takeTerm, .selects RX5 yX5_takeTerm yX5_takeTerm, .instanceMethod yX5_takeTermName, .selects RX5 yX5_takeTermName yX5_takeTermName, .instanceMethod yX5_emitTerm, .selects RX5 yX5_emitTerm yX5_emitTerm, .instanceMethod yX5_endComparison, .selects RX5 yX5_endComparison yX5_endComparison, .instanceMethod yX5_takeBehindTerm, .selects RX5 yX5_takeBehindTerm yX5_takeBehindTerm, .instanceMethod yX5_takeBehindCond, .selects RX5 yX5_takeBehindCond yX5_takeBehindCond, .instanceMethod yX5_hold, .selects RX5 yX5_hold yX5_hold, .instanceMethod yX5_emitBinders, .selects RX5 yX5_emitBinders yX5_emitBinders, .instanceMethod yX5_closeNots, .selects RX5 yX5_closeNots yX5_closeNots, .instanceMethod yX5_closeBracket, .selects RX5 yX5_closeBracket yX5_closeBracket, .instanceMethod yX6_tell, .selects RX6 yX6_tell yX6_tell, .instanceMethod yX6_planDay, .selects RX6 yX6_planDay yX6_planDay, .instanceMethod yX6_clear, .selects RX6 yX6_clear yX6_clear, .instanceMethod yX6_keep, .selects RX6 yX6_keep yX6_keep, .instanceMethod yX6_putOpenOnes, .selects RX6 yX6_putOpenOnes yX6_putOpenOnes, .instanceMethod yX6_put, .selects RX6 yX6_put yX6_put, .instanceMethod yX6_holdTill, .selects RX6 yX6_holdTill yX6_holdTill, .instanceMethod yX6_putInOrder, .selects RX6 yX6_putInOrder yX6_putInOrder, .instanceMethod yX6_putStageInOrder, .selects RX6 yX6_putStageInOrder yX6_putStageInOrder, .instanceMethod yX6_putFrom, .selects RX6 yX6_putFrom yX6_putFrom, .instanceMethod yX6_firstThatMay, .selects RX6 yX6_firstThatMay yX6_firstThatMay, .instanceMethod yX6_takeOutOfOrder, .selects RX6 yX6_takeOutOfOrder yX6_takeOutOfOrder]
def wKa4 : List Cond := [.instanceMethod yX6_soonestMat, .selects RX6 yX6_soonestMat yX6_soonestMat, .instanceMethod yX6_soonestFight, .selects RX6 yX6_soonestFight yX6_soonestFight, .instanceMethod yX6_findEarliest, .selects RX6 yX6_findEarliest yX6_findEarliest, .instanceMethod yX6_freeFrom, .selects RX6 yX6_freeFrom yX6_freeFrom, .instanceMethod yX6_behindFight, .selects RX6 yX6_behindFight yX6_behindFight, .instanceMethod yX7_ofTree, .selects RX7 yX7_ofTree yX7_ofTree, .instanceMethod yX7_ofPool, .selects RX7 yX7_ofPool yX7_ofPool, .instanceMethod yX7_member, .selects RX7 yX7_member yX7_member, .instanceMethod yX7_addUp, .selects RX7 yX7_addUp yX7_addUp, .instanceMethod yX7_aheadOf, .selects RX7 yX7_aheadOf yX7_aheadOf, .instanceMethod yX7_areAlike, .selects RX7 yX7_areAlike yX7_areAlike, .instanceMethod yX7_hasMore, .selects RX7 yX7_hasMore yX7_hasMore, .instanceMethod yX7_breaksTie, .selects RX7 yX7_breaksTie yX7_breaksTie, .instanceMethod yX7_beat, .selects RX7 yX7_beat yX7_beat, .instanceMethod yX8_people, .selects RX8 yX8_people yX8_people, .instanceMethod yX8_has, .selects RX8 yX8_has yX8_has, .instanceMethod yX8_classOf, .selects RX8 yX8_classOf yX8_classOf, .instanceMethod yX8_add, .selects RX8 yX8_add yX8_add, .instanceMethod yX8_putOnScales, .selects RX8 yX8_putOnScales yX8_putOnScales, .instanceMethod yX8_wasAnyAtScales, .selects RX8 yX8_wasAnyAtScales yX8_wasAnyAtScales, .instanceMethod yX8_isSeedOfAnother, .selects RX8 yX8_isSeedOfAnother yX8_isSeedOfAnother, .instanceMethod yX8_fightersOf, .selects RX8 yX8_fightersOf yX8_fightersOf, .instanceMethod yX8_weighedOf, .selects RX8 yX8_weighedOf yX8_weighedOf, .static yX8_isWeighed, .instanceMethod yX10_push, .selects RX10 yX10_push yX10_push, .instanceMethod yX10_rewind, .selects RX10 yX10_rewind yX10_rewind, .instanceMethod yX10_readToken, .selects RX10 yX10_readToken yX10_readToken, .instanceMethod yX10_readWord, .selects RX10 yX10_readWord yX10_readWord, .instanceMethod yX10_readNumber, .selects RX10 yX10_readNumber yX10_readNumber, .instanceMethod yX10_markOf, .selects RX10 yX10_markOf yX10_markOf, .instanceMethod yX10_takeEqual, .selects RX10 yX10_takeEqual yX10_takeEqual, .instanceMethod yX10_wordKind, .selects RX10 yX10_wordKind yX10_wordKind, .instanceMethod yX10_spells, .selects RX10 yX10_spells yX10_spells, .instanceMethod yX10_isWordAt, .selects RX10 yX10_isWordAt yX10_isWordAt, .instanceMethod yX10_tokenSize, .selects RX10 yX10_tokenSize yX10_tokenSize, .static yX10_isBlank, .static yX10_isLetter, .static yX10_isDigit, .instanceMethod yX11_feed, .selects RX11 yX11_feed yX11_feed, .instanceMethod yX11_end, .selects RX11 yX11_end yX11_end, .instanceMethod yX11_laws, .selects RX11 yX11_laws yX11_laws, .instanceMethod yX11_fault, .selects RX11 yX11_fault yX11_fault, .instanceMethod yX11_keepLaws, .selects RX11 yX11_keepLaws yX11_keepLaws, .instanceMethod yX11_lawsNow, .selects RX11 yX11_lawsNow yX11_lawsNow, .instanceMethod yX11_limit, .selects RX11 yX11_limit yX11_limit, .instanceMethod yX11_enter, .selects RX11 yX11_enter yX11_enter, .instanceMethod yX11_weigh, .selects RX11 yX11_weigh yX11_weigh, .instanceMethod yX11_seed, .selects RX11 yX11_seed yX11_seed, .instanceMethod yX11_draw, .selects RX11 yX11_draw yX11_draw, .instanceMethod yX11_fighter, .selects RX11 yX11_fighter yX11_fighter, .instanceMethod yX11_about, .selects RX11 yX11_about yX11_about, .instanceMethod yX11_fight, .selects RX11 yX11_fight yX11_fight, .instanceMethod yX11_now, .selects RX11 yX11_now yX11_now, .instanceMethod yX11_rest, .selects RX11 yX11_rest yX11_rest, .instanceMethod yX11_begin, .selects RX11 yX11_begin yX11_begin, .instanceMethod yX11_event, .selects RX11 yX11_event yX11_event, .instanceMethod yX11_tick, .selects RX11 yX11_tick yX11_tick, .instanceMethod yX11_decide, .selects RX11 yX11_decide yX11_decide, .instanceMethod yX11_mat, .selects RX11 yX11_mat yX11_mat, .instanceMethod yX11_signsOn, .selects RX11 yX11_signsOn yX11_signsOn, .instanceMethod yX11_strike, .selects RX11 yX11_strike yX11_strike, .instanceMethod yX11_medal, .selects RX11 yX11_medal yX11_medal, .instanceMethod yX11_plan, .selects RX11 yX11_plan yX11_plan, .instanceMethod yX11_planned, .selects RX11 yX11_planned yX11_planned, .instanceMethod yX11_undo, .selects RX11 yX11_undo yX11_undo, .instanceMethod yX11_count, .selects RX11 yX11_count yX11_count, .static yX11_isClass, .static yX11_isMat, .static yX11_isSide, .static yX11_isGrams, .instanceMethod yX9_get, .selects RX9 yX9_get yX9_get, .instanceMethod yX9_set, .selects RX9 yX9_set yX9_set, .instanceMethod yX9_fill, .selects RX9 yX9_fill yX9_fill, .instanceMethod yX9_makeRoomFor, .selects RX9 yX9_makeRoomFor yX9_makeRoomFor, .instanceMethod yX1_at, .selects RX1 yX1_at yX1_at, .instanceMethod yX1_lay, .selects RX1 yX1_lay yX1_lay, .initialized RX0, .initialized RX1, .initialized RX2, .initialized RX3, .initialized RX4, .initialized RX5]
def wKa5 : List Cond := [.initialized RX6, .initialized RX7, .initialized RX8, .initialized RX9, .initialized RX10, .initialized RX11, .static Lib.Math.max.name, .code Lib.Math.max.name Lib.Math.max.code 2 (some .int), .static Lib.Math.min.name, .code Lib.Math.min.name Lib.Math.min.code 2 (some .int), .initialized RJ9]
def wKc : List Cond := [.code yX0_slot cX0_slot 2 (some .int), .code yX0_kindOf cX0_kindOf 2 (some .int), .code yX0_sizeOf cX0_sizeOf 2 (some .int), .code yX0_isDrawn cX0_isDrawn 2 (some .boolean), .code yX0_onPlace cX0_onPlace 4 (some .int), .code yX0_fightsOf cX0_fightsOf 3 (some .int), .code yX0_stepsOf cX0_stepsOf 1 (some .int), .code yX0_has cX0_has 3 (some .boolean), .code yX0_whiteOf cX0_whiteOf 3 (some .int), .code yX0_blueOf cX0_blueOf 3 (some .int), .code yX0_winnerOf cX0_winnerOf 3 (some .int), .code yX0_stateOf cX0_stateOf 3 (some .int), .code yX0_loserOf cX0_loserOf 4 (some .int), .code yX0_howMany cX0_howMany 5 (some .int), .code yX0_settle cX0_settle 2 none, .code yX0_settlePool cX0_settlePool 8 none, .code yX0_settleTree cX0_settleTree 6 none, .code yX0_lowerBelow cX0_lowerBelow 2 (some .int), .code yX0_settleLives cX0_settleLives 9 none, .code yX0_findLosersTo cX0_findLosersTo 8 none, .code yX0_settleWalk cX0_settleWalk 5 none, .code yX0_settleFight cX0_settleFight 7 none, .code yX0_firstStale cX0_firstStale 5 (some .int), .code yX0_stageOf cX0_stageOf 6 (some .int), .code yX0_stepOf cX0_stepOf 4 (some .int), .code yX0_aheadOf cX0_aheadOf 6 (some .int), .code yX1_ofClass cX1_ofClass 2 (some .int), .code yX1_ofFighter cX1_ofFighter 2 (some .int), .code yX1_ofFight cX1_ofFight 3 (some .int), .code yX1_ofMat cX1_ofMat 2 (some .int), .code yX1_put cX1_put 4 none, .code yX1_isFull cX1_isFull 1 (some .boolean), .code yX1_openEntry cX1_openEntry 1 none, .code yX1_takeBack cX1_takeBack 3 none, .code yX2_placeAll cX2_placeAll 6 none, .code yX2_placesFor cX2_placesFor 1 (some .int), .code yX2_placePool cX2_placePool 4 none, .code yX2_placeOne cX2_placeOne 4 none, .code yX2_makeRow cX2_makeRow 6 none, .code yX2_isSeed cX2_isSeed 2 (some .boolean), .code yX2_placeSeeds cX2_placeSeeds 5 none, .code yX2_placeOthers cX2_placeOthers 5 none, .code yX2_largestClub cX2_largestClub 3 (some .int), .code yX2_placeClub cX2_placeClub 6 none, .code yX2_bestPlace cX2_bestPlace 9 (some .int), .code yX2_firstMeeting cX2_firstMeeting 8 (some .int), .code yX2_meetingRound cX2_meetingRound 4 (some .int), .code yX3_on cX3_on 3 (some .int), .code yX3_isFree cX3_isFree 2 (some .boolean), .code yX3_classOn cX3_classOn 2 (some .int), .code yX3_waits cX3_waits 2 (some .boolean), .code yX3_goesOn cX3_goesOn 2 (some .boolean), .code yX3_signsOf cX3_signsOf 4 (some .int), .code yX3_openFights cX3_openFights 3 (some .int), .code yX3_fighterOn cX3_fighterOn 4 (some .int), .code yX3_isHeld cX3_isHeld 3 (some .boolean), .code yX3_start cX3_start 6 none, .code yX3_turnOver cX3_turnOver 3 none, .code yX3_giveSign cX3_giveSign 6 none, .code yX3_letPass cX3_letPass 3 none, .code yX3_ask cX3_ask 5 (some .int), .code yX3_holds cX3_holds 9 (some .boolean), .code yX3_push cX3_push 2 none, .code yX3_pop cX3_pop 1 (some .int), .code yX3_valueOf cX3_valueOf 5 (some .int), .code yX3_workOn cX3_workOn 3 (some .int), .code yX3_finish cX3_finish 8 (some .int), .code yX3_leave cX3_leave 2 none, .code yX3_strikeFrom cX3_strikeFrom 6 (some .int), .code yX3_drop cX3_drop 3 none, .code yX4_clear cX4_clear 1 none, .code yX4_emit cX4_emit 3 none, .code yX4_endLine cX4_endLine 1 none, .code yX4_startOf cX4_startOf 2 (some .int), .code yX4_kindAt cX4_kindAt 2 (some .int), .code yX4_valueAt cX4_valueAt 2 (some .int), .code yX5_handOver cX5_handOver 2 (some (.object "JudoHall$Laws")), .code yX5_readLaws cX5_readLaws 2 (some .boolean), .code yX5_fail cX5_fail 2 none, .code yX5_take cX5_take 2 none, .code yX5_goIf cX5_goIf 3 none, .code yX5_takeHead cX5_takeHead 3 none, .code yX5_takeSignOrLine cX5_takeSignOrLine 2 none, .code yX5_goIfRoom cX5_goIfRoom 3 none, .code yX5_takeSignName cX5_takeSignName 2 none, .code yX5_signOfToken cX5_signOfToken 2 (some .int), .code yX5_takePoints cX5_takePoints 2 none, .code yX5_takeCond cX5_takeCond 2 none, .code yX5_takePart cX5_takePart 2 none, .code yX5_openThing cX5_openThing 2 none, .code yX5_takeTerm cX5_takeTerm 2 none, .code yX5_takeTermName cX5_takeTermName 2 none, .code yX5_emitTerm cX5_emitTerm 3 none, .code yX5_endComparison cX5_endComparison 1 none, .code yX5_takeBehindTerm cX5_takeBehindTerm 2 none, .code yX5_takeBehindCond cX5_takeBehindCond 2 none, .code yX5_hold cX5_hold 2 none, .code yX5_emitBinders cX5_emitBinders 3 none, .code yX5_closeNots cX5_closeNots 1 none, .code yX5_closeBracket cX5_closeBracket 1 none, .code yX6_tell cX6_tell 4 (some .int), .code yX6_planDay cX6_planDay 5 (some .int), .code yX6_clear cX6_clear 3 none, .code yX6_keep cX6_keep 3 none, .code yX6_putOpenOnes cX6_putOpenOnes 3 none, .code yX6_put cX6_put 6 none, .code yX6_holdTill cX6_holdTill 3 none, .code yX6_putInOrder cX6_putInOrder 3 none, .code yX6_putStageInOrder cX6_putStageInOrder 5 none, .code yX6_putFrom cX6_putFrom 7 none, .code yX6_firstThatMay cX6_firstThatMay 3 (some .int), .code yX6_takeOutOfOrder cX6_takeOutOfOrder 3 none, .code yX6_soonestMat cX6_soonestMat 4 (some .int), .code yX6_soonestFight cX6_soonestFight 3 (some .int), .code yX6_findEarliest cX6_findEarliest 6 none, .code yX6_freeFrom cX6_freeFrom 2 (some .int), .code yX6_behindFight cX6_behindFight 4 (some .int), .code yX7_ofTree cX7_ofTree 5 (some .int), .code yX7_ofPool cX7_ofPool 4 (some .int), .code yX7_member cX7_member 3 (some .int), .code yX7_addUp cX7_addUp 4 none, .code yX7_aheadOf cX7_aheadOf 7 (some .int), .code yX7_areAlike cX7_areAlike 3 (some .boolean), .code yX7_hasMore cX7_hasMore 3 (some .boolean), .code yX7_breaksTie cX7_breaksTie 7 (some .boolean), .code yX7_beat cX7_beat 5 (some .boolean), .code yX8_people cX8_people 1 (some .int), .code yX8_has cX8_has 2 (some .boolean), .code yX8_classOf cX8_classOf 2 (some .int), .code yX8_add cX8_add 4 (some .int), .code yX8_putOnScales cX8_putOnScales 5 (some .boolean), .code yX8_wasAnyAtScales cX8_wasAnyAtScales 3 (some .boolean), .code yX8_isSeedOfAnother cX8_isSeedOfAnother 5 (some .boolean), .code yX8_fightersOf cX8_fightersOf 4 (some .int), .code yX8_weighedOf cX8_weighedOf 4 (some .int), .code yX8_isWeighed cX8_isWeighed 3 (some .boolean), .code yX10_push cX10_push 3 none, .code yX10_rewind cX10_rewind 1 none, .code yX10_readToken cX10_readToken 2 none, .code yX10_readWord cX10_readWord 1 none, .code yX10_readNumber cX10_readNumber 1 none, .code yX10_markOf cX10_markOf 2 (some .int), .code yX10_takeEqual cX10_takeEqual 2 (some .boolean), .code yX10_wordKind cX10_wordKind 1 (some .int), .code yX10_spells cX10_spells 3 (some .boolean), .code yX10_isWordAt cX10_isWordAt 4 (some .boolean), .code yX10_tokenSize cX10_tokenSize 1 (some .int), .code yX10_isBlank cX10_isBlank 1 (some .boolean), .code yX10_isLetter cX10_isLetter 1 (some .boolean), .code yX10_isDigit cX10_isDigit 1 (some .boolean), .code yX11_feed cX11_feed 6 (some .int), .code yX11_end cX11_end 2 (some .int), .code yX11_laws cX11_laws 2 (some .int), .code yX11_fault cX11_fault 2 (some .int), .code yX11_keepLaws cX11_keepLaws 3 none, .code yX11_lawsNow cX11_lawsNow 2 (some (.object "JudoHall$Laws")), .code yX11_limit cX11_limit 4 (some .int), .code yX11_enter cX11_enter 3 (some .int), .code yX11_weigh cX11_weigh 3 (some .int), .code yX11_seed cX11_seed 4 (some .int), .code yX11_draw cX11_draw 3 (some .int), .code yX11_fighter cX11_fighter 3 (some .int), .code yX11_about cX11_about 3 (some .int), .code yX11_fight cX11_fight 6 (some .int), .code yX11_now cX11_now 2 (some .int), .code yX11_rest cX11_rest 3 (some .int), .code yX11_begin cX11_begin 5 (some .int), .code yX11_event cX11_event 5 (some .int), .code yX11_tick cX11_tick 4 (some .int), .code yX11_decide cX11_decide 4 (some .int), .code yX11_mat cX11_mat 3 (some .int), .code yX11_signsOn cX11_signsOn 5 (some .int), .code yX11_strike cX11_strike 3 (some .int), .code yX11_medal cX11_medal 3 (some .int), .code yX11_plan cX11_plan 3 (some .int), .code yX11_planned cX11_planned 4 (some .int), .code yX11_undo cX11_undo 2 (some .int), .code yX11_count cX11_count 2 (some .int), .code yX11_isClass cX11_isClass 1 (some .boolean), .code yX11_isMat cX11_isMat 1 (some .boolean), .code yX11_isSide cX11_isSide 1 (some .boolean), .code yX11_isGrams cX11_isGrams 1 (some .boolean)]
def wK : List Cond := wsX00 ++ (wsX10 ++ (wsX20 ++ (wsX30 ++ (wsX40 ++ (wsX50 ++ (wsX60 ++ (wsX70 ++ (wsX80 ++ (wsX90 ++ (wsX100 ++ (wsX110 ++ (wKa0 ++ (wKa1 ++ (wKa2 ++ (wKa3 ++ (wKa4 ++ (wKa5 ++ (wKc ++ (wq_c_copyOf ++ (wq_c_Row_roomx ++ (wq_c_Row_grow ++ (wq_c_Row_get ++ (wq_c_Row_set ++ (wq_c_Row_fill ++ (wq_c_Book_at ++ (wq_c_Book_lay ++ (wL ++ (wJ))))))))))))))))))))))))))))
theorem gd_wK : ∀ w ∈ wK, Gd w := List.forall_mem_append.mpr ⟨gd_wsX00, List.forall_mem_append.mpr ⟨gd_wsX10, List.forall_mem_append.mpr ⟨gd_wsX20, List.forall_mem_append.mpr ⟨gd_wsX30, List.forall_mem_append.mpr ⟨gd_wsX40, List.forall_mem_append.mpr ⟨gd_wsX50, List.forall_mem_append.mpr ⟨gd_wsX60, List.forall_mem_append.mpr ⟨gd_wsX70, List.forall_mem_append.mpr ⟨gd_wsX80, List.forall_mem_append.mpr ⟨gd_wsX90, List.forall_mem_append.mpr ⟨gd_wsX100, List.forall_mem_append.mpr ⟨gd_wsX110, List.forall_mem_append.mpr ⟨gdl wKa0 (by decide +kernel), List.forall_mem_append.mpr ⟨gdl wKa1 (by decide +kernel), List.forall_mem_append.mpr ⟨gdl wKa2 (by decide +kernel), List.forall_mem_append.mpr ⟨gdl wKa3 (by decide +kernel), List.forall_mem_append.mpr ⟨gdl wKa4 (by decide +kernel), List.forall_mem_append.mpr ⟨gdl wKa5 (by decide +kernel), List.forall_mem_append.mpr ⟨gdl wKc (by decide +kernel), List.forall_mem_append.mpr ⟨gd_c_copyOf, List.forall_mem_append.mpr ⟨gd_c_Row_roomx, List.forall_mem_append.mpr ⟨gd_c_Row_grow, List.forall_mem_append.mpr ⟨gd_c_Row_get, List.forall_mem_append.mpr ⟨gd_c_Row_set, List.forall_mem_append.mpr ⟨gd_c_Row_fill, List.forall_mem_append.mpr ⟨gd_c_Book_at, List.forall_mem_append.mpr ⟨gd_c_Book_lay, List.forall_mem_append.mpr ⟨gd_wL, gd_wJ⟩⟩⟩⟩⟩⟩⟩⟩⟩⟩⟩⟩⟩⟩⟩⟩⟩⟩⟩⟩⟩⟩⟩⟩⟩⟩⟩⟩
theorem in_wKa0 : ∀ w ∈ wKa0, w ∈ lw_tbl := inT2 wKa0 [(1, 35), (1, 38), (1, 40), (1, 43), (1, 44), (1, 46), (1, 49), (1, 50), (1, 53), (1, 56), (1, 61), (1, 65), (1, 68), (1, 69), (1, 72), (1, 73), (1, 74), (1, 75), (1, 76), (1, 77), (1, 92), (1, 94), (1, 97), (1, 98), (1, 99), (1, 100), (1, 102), (1, 103), (1, 105), (1, 107), (1, 108), (1, 123), (1, 125), (1, 128), (1, 129), (1, 130), (1, 131), (1, 133), (1, 136), (1, 137), (1, 138), (1, 139), (1, 142), (1, 145), (1, 148), (1, 152), (1, 155), (1, 156), (1, 157), (1, 159), (1, 181), (1, 182), (1, 183), (1, 184), (1, 185), (1, 186), (1, 187), (1, 188), (1, 189), (1, 191), (1, 193), (1, 194), (1, 195), (1, 196), (1, 226), (1, 228), (1, 231), (1, 232), (1, 236), (1, 238), (2, 1), (2, 2), (2, 3), (2, 4), (2, 5), (2, 6), (2, 14), (2, 16), (2, 19), (2, 20), (2, 21), (2, 22), (2, 23), (2, 24), (2, 25), (2, 26), (2, 27), (2, 41), (2, 43), (2, 46), (2, 47), (2, 48), (2, 49), (2, 50), (2, 51), (2, 52), (2, 62), (2, 64), (2, 67), (2, 68), (2, 69), (2, 70), (2, 71), (2, 72), (2, 73), (2, 83), (2, 85), (2, 88), (2, 89), (2, 90), (2, 91), (2, 92), (2, 93), (2, 94), (2, 95), (2, 96), (2, 97), (2, 98), (2, 99), (2, 100), (2, 101), (2, 102), (2, 103), (2, 104), (2, 134), (2, 135), (2, 136), (2, 138), (2, 162), (2, 163), (2, 164), (2, 165), (2, 166), (2, 167), (2, 168), (2, 169), (2, 170), (2, 171), (2, 172), (2, 200), (2, 204), (2, 216), (2, 220), (2, 224), (2, 228), (2, 229), (2, 233), (2, 237), (3, 1), (3, 5)] (by decide +kernel)
theorem in_wKa1 : ∀ w ∈ wKa1, w ∈ lw_tbl := inT2 wKa1 [(3, 9), (3, 13), (3, 16), (3, 19), (3, 23), (3, 28), (3, 32), (3, 42), (3, 92), (3, 95), (3, 99), (3, 103), (3, 107), (3, 111), (3, 113), (3, 117), (3, 121), (3, 125), (3, 129), (3, 133), (3, 134), (3, 138), (3, 139), (3, 143), (3, 147), (3, 148), (3, 152), (3, 156), (3, 160), (3, 164), (3, 168), (3, 172), (3, 176), (3, 180), (3, 184), (3, 188), (3, 192), (3, 196), (3, 200), (3, 204), (3, 208), (3, 212), (3, 216), (3, 220), (3, 224), (3, 225), (3, 229), (3, 233), (3, 234), (3, 238), (4, 10), (4, 70), (4, 74), (4, 75), (4, 79), (4, 89), (4, 93), (4, 106), (4, 109), (4, 112), (4, 113), (4, 117), (4, 121), (4, 122), (4, 123), (4, 127), (4, 131), (4, 132), (4, 136), (4, 139), (4, 144), (4, 145), (4, 149), (4, 154), (4, 158), (4, 159), (4, 163), (4, 168), (4, 172), (4, 177), (4, 181), (4, 184), (4, 188), (4, 191), (4, 192), (4, 193), (4, 197), (4, 198), (4, 199), (4, 203), (4, 204), (4, 208), (4, 209), (4, 210), (4, 214), (4, 218), (4, 222), (4, 226), (4, 230), (4, 234), (4, 238), (5, 2), (5, 5), (5, 6), (5, 10), (5, 14), (5, 18), (5, 22), (5, 25), (5, 28), (5, 29), (5, 30), (5, 34), (5, 38), (5, 41), (5, 45), (5, 46), (5, 50), (5, 53), (5, 57), (5, 58), (5, 62), (5, 66), (5, 78), (5, 82), (5, 83), (5, 84), (5, 88), (5, 89), (5, 93), (5, 101), (5, 106), (5, 107), (5, 108), (5, 109), (5, 110), (5, 123), (5, 126), (5, 127), (5, 131), (5, 135), (5, 136), (5, 137), (5, 141), (5, 142), (5, 143), (5, 144), (5, 152), (5, 155), (5, 159)] (by decide +kernel)
theorem in_wKa2 : ∀ w ∈ wKa2, w ∈ lw_tbl := inT2 wKa2 [(5, 163), (5, 167), (5, 168), (5, 172), (5, 176), (5, 180), (5, 181), (5, 182), (5, 186), (5, 190), (5, 191), (5, 195), (5, 196), (5, 199), (5, 203), (5, 207), (5, 211), (5, 215), (5, 223), (5, 224), (5, 232), (5, 236), (6, 1), (6, 5), (6, 10), (6, 14), (6, 18), (6, 19), (6, 27), (6, 31), (6, 32), (6, 33), (6, 37), (6, 38), (6, 39), (6, 40), (6, 41), (6, 42), (6, 43), (6, 44), (6, 48), (6, 49), (6, 53), (6, 57), (6, 61), (6, 65), (6, 69), (6, 70), (6, 74), (6, 82), (6, 86), (6, 90), (6, 91), (6, 92), (6, 93), (6, 94), (6, 98), (6, 99), (6, 103), (6, 104), (6, 105), (6, 109), (6, 110), (6, 111), (6, 112), (6, 116), (6, 120), (6, 121), (6, 122), (6, 126), (6, 129), (6, 133), (6, 137), (6, 141), (6, 145), (6, 146), (6, 150), (6, 154), (6, 158), (6, 162), (6, 163), (6, 167), (6, 168), (6, 176), (6, 184), (6, 188), (6, 189), (5, 26), (4, 118), (4, 119), (5, 11), (5, 12), (4, 114), (4, 115), (5, 94), (5, 95), (5, 67), (5, 68), (5, 51), (5, 102), (5, 103), (5, 59), (5, 60), (5, 63), (5, 64), (5, 42), (5, 43), (5, 90), (5, 91), (6, 66), (6, 67), (5, 85), (5, 86), (5, 7), (5, 8), (5, 16), (0, 45), (5, 32), (0, 47), (5, 39), (5, 48), (0, 49), (5, 55), (0, 50), (5, 36), (0, 48), (5, 20), (0, 46), (6, 20), (6, 21), (6, 123), (6, 124), (6, 127), (6, 138), (6, 139), (1, 66), (4, 137), (5, 23), (1, 70), (4, 71), (4, 72), (3, 217), (3, 218), (3, 221), (3, 222), (6, 185), (6, 186), (4, 185), (4, 186), (4, 189)] (by decide +kernel)
theorem in_wKa3 : ∀ w ∈ wKa3, w ∈ lw_tbl := inT2 wKa3 [(4, 195), (0, 35), (4, 201), (0, 36), (4, 206), (0, 37), (4, 224), (0, 40), (4, 212), (0, 38), (4, 216), (0, 39), (4, 228), (0, 41), (4, 232), (0, 42), (4, 236), (0, 43), (5, 0), (0, 44), (5, 3), (2, 226), (0, 1), (2, 221), (2, 222), (5, 216), (5, 217), (5, 233), (5, 234), (5, 156), (5, 157), (5, 164), (5, 165), (2, 217), (2, 218), (5, 133), (0, 51), (5, 128), (5, 129), (5, 138), (5, 139), (5, 145), (5, 146), (5, 160), (5, 161), (5, 225), (5, 226), (5, 169), (5, 170), (5, 174), (0, 52), (5, 193), (0, 54), (5, 188), (0, 53), (5, 205), (0, 55), (5, 197), (5, 208), (5, 209), (5, 213), (0, 56), (6, 11), (6, 12), (6, 16), (0, 58), (2, 238), (2, 239), (3, 130), (3, 131), (3, 213), (3, 214), (5, 177), (5, 178), (5, 183), (5, 184), (5, 200), (5, 201), (3, 226), (3, 227), (2, 234), (2, 235), (3, 123), (0, 11), (3, 109), (0, 8), (3, 119), (0, 10), (3, 115), (0, 9), (3, 141), (0, 14), (3, 145), (0, 15), (3, 150), (0, 16), (3, 154), (0, 17), (3, 166), (0, 18), (3, 170), (0, 19), (3, 174), (0, 20), (3, 178), (0, 21), (3, 186), (0, 23), (3, 194), (0, 25), (3, 190), (0, 24), (3, 127), (0, 12), (3, 198), (0, 26), (3, 202), (0, 27), (3, 182), (0, 22), (3, 206), (0, 28), (3, 136), (0, 13), (3, 210), (0, 29), (6, 177), (6, 178), (6, 83), (6, 84), (6, 88), (0, 66), (6, 170), (0, 80), (6, 96), (0, 67), (6, 101), (0, 68), (6, 107), (0, 69), (6, 114), (0, 70), (6, 118), (0, 71), (6, 148), (0, 75), (6, 152), (0, 76), (6, 156), (0, 77)] (by decide +kernel)
theorem in_wKa4 : ∀ w ∈ wKa4, w ∈ lw_tbl := inT2 wKa4 [(6, 160), (0, 78), (6, 165), (0, 79), (6, 131), (0, 72), (6, 135), (0, 73), (6, 143), (0, 74), (6, 75), (6, 76), (6, 28), (6, 29), (6, 46), (0, 60), (6, 35), (0, 59), (6, 51), (0, 61), (6, 55), (0, 62), (6, 72), (0, 65), (6, 59), (0, 63), (6, 63), (0, 64), (4, 128), (4, 129), (4, 155), (4, 156), (4, 133), (4, 134), (4, 146), (4, 147), (4, 160), (4, 161), (4, 124), (4, 125), (4, 169), (4, 170), (5, 79), (5, 80), (4, 178), (4, 179), (4, 182), (2, 201), (2, 202), (3, 2), (3, 3), (3, 6), (3, 7), (3, 21), (0, 2), (3, 97), (0, 5), (3, 101), (0, 6), (3, 105), (0, 7), (3, 25), (0, 3), (3, 30), (0, 4), (3, 157), (3, 158), (3, 161), (3, 162), (3, 14), (3, 17), (3, 93), (2, 197), (2, 198), (2, 209), (2, 210), (2, 213), (2, 214), (4, 99), (4, 100), (3, 231), (0, 30), (4, 91), (0, 34), (4, 103), (4, 104), (4, 141), (4, 142), (4, 151), (4, 152), (4, 165), (4, 166), (4, 174), (4, 175), (5, 71), (5, 72), (5, 75), (5, 76), (5, 98), (5, 99), (5, 112), (5, 113), (5, 116), (5, 117), (5, 120), (5, 121), (5, 149), (5, 150), (5, 220), (5, 221), (5, 229), (5, 230), (5, 238), (5, 239), (6, 3), (0, 57), (6, 7), (6, 8), (6, 24), (6, 25), (6, 79), (6, 80), (6, 173), (6, 174), (6, 181), (6, 182), (6, 191), (6, 192), (4, 107), (5, 124), (5, 153), (4, 110), (3, 10), (3, 11), (2, 205), (2, 206), (4, 219), (4, 220), (4, 76), (4, 77), (2, 230), (2, 231), (1, 63), (0, 0), (1, 11), (1, 2), (1, 10), (1, 12), (1, 8), (1, 7)] (by decide +kernel)
theorem in_wKa5 : ∀ w ∈ wKa5, w ∈ lw_tbl := inT2 wKa5 [(1, 14), (1, 13), (1, 9), (1, 3), (1, 6), (1, 1), (1, 51), (1, 52), (4, 63), (4, 64), (1, 4)] (by decide +kernel)
theorem ktX0_slot : Cond.code yX0_slot cX0_slot 2 (some .int) ∈ lw_tbl := cxq_mem2 5 27 (by decide +kernel)
theorem ktX0_kindOf : Cond.code yX0_kindOf cX0_kindOf 2 (some .int) ∈ lw_tbl := cxq_mem2 4 120 (by decide +kernel)
theorem ktX0_sizeOf : Cond.code yX0_sizeOf cX0_sizeOf 2 (some .int) ∈ lw_tbl := cxq_mem2 5 13 (by decide +kernel)
theorem ktX0_isDrawn : Cond.code yX0_isDrawn cX0_isDrawn 2 (some .boolean) ∈ lw_tbl := cxq_mem2 4 116 (by decide +kernel)
theorem ktX0_onPlace : Cond.code yX0_onPlace cX0_onPlace 4 (some .int) ∈ lw_tbl := cxq_mem2 5 96 (by decide +kernel)
theorem ktX0_fightsOf : Cond.code yX0_fightsOf cX0_fightsOf 3 (some .int) ∈ lw_tbl := cxq_mem2 5 69 (by decide +kernel)
theorem ktX0_stepsOf : Cond.code yX0_stepsOf cX0_stepsOf 1 (some .int) ∈ lw_tbl := cxq_mem2 5 52 (by decide +kernel)
theorem ktX0_has : Cond.code yX0_has cX0_has 3 (some .boolean) ∈ lw_tbl := cxq_mem2 5 104 (by decide +kernel)
theorem ktX0_whiteOf : Cond.code yX0_whiteOf cX0_whiteOf 3 (some .int) ∈ lw_tbl := cxq_mem2 5 61 (by decide +kernel)
theorem ktX0_blueOf : Cond.code yX0_blueOf cX0_blueOf 3 (some .int) ∈ lw_tbl := cxq_mem2 5 65 (by decide +kernel)
theorem ktX0_winnerOf : Cond.code yX0_winnerOf cX0_winnerOf 3 (some .int) ∈ lw_tbl := cxq_mem2 5 44 (by decide +kernel)
theorem ktX0_stateOf : Cond.code yX0_stateOf cX0_stateOf 3 (some .int) ∈ lw_tbl := cxq_mem2 5 92 (by decide +kernel)
theorem ktX0_loserOf : Cond.code yX0_loserOf cX0_loserOf 4 (some .int) ∈ lw_tbl := cxq_mem2 6 68 (by decide +kernel)
theorem ktX0_howMany : Cond.code yX0_howMany cX0_howMany 5 (some .int) ∈ lw_tbl := cxq_mem2 5 87 (by decide +kernel)
theorem ktX0_settle : Cond.code yX0_settle cX0_settle 2 none ∈ lw_tbl := cxq_mem2 5 9 (by decide +kernel)
theorem ktX0_settlePool : Cond.code yX0_settlePool cX0_settlePool 8 none ∈ lw_tbl := cxq_mem2 5 17 (by decide +kernel)
theorem ktX0_settleTree : Cond.code yX0_settleTree cX0_settleTree 6 none ∈ lw_tbl := cxq_mem2 5 33 (by decide +kernel)
theorem ktX0_lowerBelow : Cond.code yX0_lowerBelow cX0_lowerBelow 2 (some .int) ∈ lw_tbl := cxq_mem2 5 40 (by decide +kernel)
theorem ktX0_settleLives : Cond.code yX0_settleLives cX0_settleLives 9 none ∈ lw_tbl := cxq_mem2 5 49 (by decide +kernel)
theorem ktX0_findLosersTo : Cond.code yX0_findLosersTo cX0_findLosersTo 8 none ∈ lw_tbl := cxq_mem2 5 56 (by decide +kernel)
theorem ktX0_settleWalk : Cond.code yX0_settleWalk cX0_settleWalk 5 none ∈ lw_tbl := cxq_mem2 5 37 (by decide +kernel)
theorem ktX0_settleFight : Cond.code yX0_settleFight cX0_settleFight 7 none ∈ lw_tbl := cxq_mem2 5 21 (by decide +kernel)
theorem ktX0_firstStale : Cond.code yX0_firstStale cX0_firstStale 5 (some .int) ∈ lw_tbl := cxq_mem2 6 22 (by decide +kernel)
theorem ktX0_stageOf : Cond.code yX0_stageOf cX0_stageOf 6 (some .int) ∈ lw_tbl := cxq_mem2 6 125 (by decide +kernel)
theorem ktX0_stepOf : Cond.code yX0_stepOf cX0_stepOf 4 (some .int) ∈ lw_tbl := cxq_mem2 6 128 (by decide +kernel)
theorem ktX0_aheadOf : Cond.code yX0_aheadOf cX0_aheadOf 6 (some .int) ∈ lw_tbl := cxq_mem2 6 140 (by decide +kernel)
theorem ktX1_ofClass : Cond.code yX1_ofClass cX1_ofClass 2 (some .int) ∈ lw_tbl := cxq_mem2 1 67 (by decide +kernel)
theorem ktX1_ofFighter : Cond.code yX1_ofFighter cX1_ofFighter 2 (some .int) ∈ lw_tbl := cxq_mem2 4 138 (by decide +kernel)
theorem ktX1_ofFight : Cond.code yX1_ofFight cX1_ofFight 3 (some .int) ∈ lw_tbl := cxq_mem2 5 24 (by decide +kernel)
theorem ktX1_ofMat : Cond.code yX1_ofMat cX1_ofMat 2 (some .int) ∈ lw_tbl := cxq_mem2 1 71 (by decide +kernel)
theorem ktX1_put : Cond.code yX1_put cX1_put 4 none ∈ lw_tbl := cxq_mem2 4 73 (by decide +kernel)
theorem ktX1_isFull : Cond.code yX1_isFull cX1_isFull 1 (some .boolean) ∈ lw_tbl := cxq_mem2 3 219 (by decide +kernel)
theorem ktX1_openEntry : Cond.code yX1_openEntry cX1_openEntry 1 none ∈ lw_tbl := cxq_mem2 3 223 (by decide +kernel)
theorem ktX1_takeBack : Cond.code yX1_takeBack cX1_takeBack 3 none ∈ lw_tbl := cxq_mem2 6 187 (by decide +kernel)
theorem ktX2_placeAll : Cond.code yX2_placeAll cX2_placeAll 6 none ∈ lw_tbl := cxq_mem2 4 187 (by decide +kernel)
theorem ktX2_placesFor : Cond.code yX2_placesFor cX2_placesFor 1 (some .int) ∈ lw_tbl := cxq_mem2 4 190 (by decide +kernel)
theorem ktX2_placePool : Cond.code yX2_placePool cX2_placePool 4 none ∈ lw_tbl := cxq_mem2 4 196 (by decide +kernel)
theorem ktX2_placeOne : Cond.code yX2_placeOne cX2_placeOne 4 none ∈ lw_tbl := cxq_mem2 4 202 (by decide +kernel)
theorem ktX2_makeRow : Cond.code yX2_makeRow cX2_makeRow 6 none ∈ lw_tbl := cxq_mem2 4 207 (by decide +kernel)
theorem ktX2_isSeed : Cond.code yX2_isSeed cX2_isSeed 2 (some .boolean) ∈ lw_tbl := cxq_mem2 4 225 (by decide +kernel)
theorem ktX2_placeSeeds : Cond.code yX2_placeSeeds cX2_placeSeeds 5 none ∈ lw_tbl := cxq_mem2 4 213 (by decide +kernel)
theorem ktX2_placeOthers : Cond.code yX2_placeOthers cX2_placeOthers 5 none ∈ lw_tbl := cxq_mem2 4 217 (by decide +kernel)
theorem ktX2_largestClub : Cond.code yX2_largestClub cX2_largestClub 3 (some .int) ∈ lw_tbl := cxq_mem2 4 229 (by decide +kernel)
theorem ktX2_placeClub : Cond.code yX2_placeClub cX2_placeClub 6 none ∈ lw_tbl := cxq_mem2 4 233 (by decide +kernel)
theorem ktX2_bestPlace : Cond.code yX2_bestPlace cX2_bestPlace 9 (some .int) ∈ lw_tbl := cxq_mem2 4 237 (by decide +kernel)
theorem ktX2_firstMeeting : Cond.code yX2_firstMeeting cX2_firstMeeting 8 (some .int) ∈ lw_tbl := cxq_mem2 5 1 (by decide +kernel)
theorem ktX2_meetingRound : Cond.code yX2_meetingRound cX2_meetingRound 4 (some .int) ∈ lw_tbl := cxq_mem2 5 4 (by decide +kernel)
theorem ktX3_on : Cond.code yX3_on cX3_on 3 (some .int) ∈ lw_tbl := cxq_mem2 2 227 (by decide +kernel)
theorem ktX3_isFree : Cond.code yX3_isFree cX3_isFree 2 (some .boolean) ∈ lw_tbl := cxq_mem2 2 223 (by decide +kernel)
theorem ktX3_classOn : Cond.code yX3_classOn cX3_classOn 2 (some .int) ∈ lw_tbl := cxq_mem2 5 218 (by decide +kernel)
theorem ktX3_waits : Cond.code yX3_waits cX3_waits 2 (some .boolean) ∈ lw_tbl := cxq_mem2 5 235 (by decide +kernel)
theorem ktX3_goesOn : Cond.code yX3_goesOn cX3_goesOn 2 (some .boolean) ∈ lw_tbl := cxq_mem2 5 158 (by decide +kernel)
theorem ktX3_signsOf : Cond.code yX3_signsOf cX3_signsOf 4 (some .int) ∈ lw_tbl := cxq_mem2 5 166 (by decide +kernel)
theorem ktX3_openFights : Cond.code yX3_openFights cX3_openFights 3 (some .int) ∈ lw_tbl := cxq_mem2 2 219 (by decide +kernel)
theorem ktX3_fighterOn : Cond.code yX3_fighterOn cX3_fighterOn 4 (some .int) ∈ lw_tbl := cxq_mem2 5 134 (by decide +kernel)
theorem ktX3_isHeld : Cond.code yX3_isHeld cX3_isHeld 3 (some .boolean) ∈ lw_tbl := cxq_mem2 5 130 (by decide +kernel)
theorem ktX3_start : Cond.code yX3_start cX3_start 6 none ∈ lw_tbl := cxq_mem2 5 140 (by decide +kernel)
theorem ktX3_turnOver : Cond.code yX3_turnOver cX3_turnOver 3 none ∈ lw_tbl := cxq_mem2 5 147 (by decide +kernel)
theorem ktX3_giveSign : Cond.code yX3_giveSign cX3_giveSign 6 none ∈ lw_tbl := cxq_mem2 5 162 (by decide +kernel)
theorem ktX3_letPass : Cond.code yX3_letPass cX3_letPass 3 none ∈ lw_tbl := cxq_mem2 5 227 (by decide +kernel)
theorem ktX3_ask : Cond.code yX3_ask cX3_ask 5 (some .int) ∈ lw_tbl := cxq_mem2 5 171 (by decide +kernel)
theorem ktX3_holds : Cond.code yX3_holds cX3_holds 9 (some .boolean) ∈ lw_tbl := cxq_mem2 5 175 (by decide +kernel)
theorem ktX3_push : Cond.code yX3_push cX3_push 2 none ∈ lw_tbl := cxq_mem2 5 194 (by decide +kernel)
theorem ktX3_pop : Cond.code yX3_pop cX3_pop 1 (some .int) ∈ lw_tbl := cxq_mem2 5 189 (by decide +kernel)
theorem ktX3_valueOf : Cond.code yX3_valueOf cX3_valueOf 5 (some .int) ∈ lw_tbl := cxq_mem2 5 206 (by decide +kernel)
theorem ktX3_workOn : Cond.code yX3_workOn cX3_workOn 3 (some .int) ∈ lw_tbl := cxq_mem2 5 198 (by decide +kernel)
theorem ktX3_finish : Cond.code yX3_finish cX3_finish 8 (some .int) ∈ lw_tbl := cxq_mem2 5 210 (by decide +kernel)
theorem ktX3_leave : Cond.code yX3_leave cX3_leave 2 none ∈ lw_tbl := cxq_mem2 5 214 (by decide +kernel)
theorem ktX3_strikeFrom : Cond.code yX3_strikeFrom cX3_strikeFrom 6 (some .int) ∈ lw_tbl := cxq_mem2 6 13 (by decide +kernel)
theorem ktX3_drop : Cond.code yX3_drop cX3_drop 3 none ∈ lw_tbl := cxq_mem2 6 17 (by decide +kernel)
theorem ktX4_clear : Cond.code yX4_clear cX4_clear 1 none ∈ lw_tbl := cxq_mem2 3 0 (by decide +kernel)
theorem ktX4_emit : Cond.code yX4_emit cX4_emit 3 none ∈ lw_tbl := cxq_mem2 3 132 (by decide +kernel)
theorem ktX4_endLine : Cond.code yX4_endLine cX4_endLine 1 none ∈ lw_tbl := cxq_mem2 3 215 (by decide +kernel)
theorem ktX4_startOf : Cond.code yX4_startOf cX4_startOf 2 (some .int) ∈ lw_tbl := cxq_mem2 5 179 (by decide +kernel)
theorem ktX4_kindAt : Cond.code yX4_kindAt cX4_kindAt 2 (some .int) ∈ lw_tbl := cxq_mem2 5 185 (by decide +kernel)
theorem ktX4_valueAt : Cond.code yX4_valueAt cX4_valueAt 2 (some .int) ∈ lw_tbl := cxq_mem2 5 202 (by decide +kernel)
theorem ktX5_handOver : Cond.code yX5_handOver cX5_handOver 2 (some (.object "JudoHall$Laws")) ∈ lw_tbl := cxq_mem2 3 228 (by decide +kernel)
theorem ktX5_readLaws : Cond.code yX5_readLaws cX5_readLaws 2 (some .boolean) ∈ lw_tbl := cxq_mem2 2 236 (by decide +kernel)
theorem ktX5_fail : Cond.code yX5_fail cX5_fail 2 none ∈ lw_tbl := cxq_mem2 3 124 (by decide +kernel)
theorem ktX5_take : Cond.code yX5_take cX5_take 2 none ∈ lw_tbl := cxq_mem2 3 110 (by decide +kernel)
theorem ktX5_goIf : Cond.code yX5_goIf cX5_goIf 3 none ∈ lw_tbl := cxq_mem2 3 120 (by decide +kernel)
theorem ktX5_takeHead : Cond.code yX5_takeHead cX5_takeHead 3 none ∈ lw_tbl := cxq_mem2 3 116 (by decide +kernel)
theorem ktX5_takeSignOrLine : Cond.code yX5_takeSignOrLine cX5_takeSignOrLine 2 none ∈ lw_tbl := cxq_mem2 3 142 (by decide +kernel)
theorem ktX5_goIfRoom : Cond.code yX5_goIfRoom cX5_goIfRoom 3 none ∈ lw_tbl := cxq_mem2 3 146 (by decide +kernel)
theorem ktX5_takeSignName : Cond.code yX5_takeSignName cX5_takeSignName 2 none ∈ lw_tbl := cxq_mem2 3 151 (by decide +kernel)
theorem ktX5_signOfToken : Cond.code yX5_signOfToken cX5_signOfToken 2 (some .int) ∈ lw_tbl := cxq_mem2 3 155 (by decide +kernel)
theorem ktX5_takePoints : Cond.code yX5_takePoints cX5_takePoints 2 none ∈ lw_tbl := cxq_mem2 3 167 (by decide +kernel)
theorem ktX5_takeCond : Cond.code yX5_takeCond cX5_takeCond 2 none ∈ lw_tbl := cxq_mem2 3 171 (by decide +kernel)
theorem ktX5_takePart : Cond.code yX5_takePart cX5_takePart 2 none ∈ lw_tbl := cxq_mem2 3 175 (by decide +kernel)
theorem ktX5_openThing : Cond.code yX5_openThing cX5_openThing 2 none ∈ lw_tbl := cxq_mem2 3 179 (by decide +kernel)
theorem ktX5_takeTerm : Cond.code yX5_takeTerm cX5_takeTerm 2 none ∈ lw_tbl := cxq_mem2 3 187 (by decide +kernel)
theorem ktX5_takeTermName : Cond.code yX5_takeTermName cX5_takeTermName 2 none ∈ lw_tbl := cxq_mem2 3 195 (by decide +kernel)
theorem ktX5_emitTerm : Cond.code yX5_emitTerm cX5_emitTerm 3 none ∈ lw_tbl := cxq_mem2 3 191 (by decide +kernel)
theorem ktX5_endComparison : Cond.code yX5_endComparison cX5_endComparison 1 none ∈ lw_tbl := cxq_mem2 3 128 (by decide +kernel)
theorem ktX5_takeBehindTerm : Cond.code yX5_takeBehindTerm cX5_takeBehindTerm 2 none ∈ lw_tbl := cxq_mem2 3 199 (by decide +kernel)
theorem ktX5_takeBehindCond : Cond.code yX5_takeBehindCond cX5_takeBehindCond 2 none ∈ lw_tbl := cxq_mem2 3 203 (by decide +kernel)
theorem ktX5_hold : Cond.code yX5_hold cX5_hold 2 none ∈ lw_tbl := cxq_mem2 3 183 (by decide +kernel)
theorem ktX5_emitBinders : Cond.code yX5_emitBinders cX5_emitBinders 3 none ∈ lw_tbl := cxq_mem2 3 207 (by decide +kernel)
theorem ktX5_closeNots : Cond.code yX5_closeNots cX5_closeNots 1 none ∈ lw_tbl := cxq_mem2 3 137 (by decide +kernel)
theorem ktX5_closeBracket : Cond.code yX5_closeBracket cX5_closeBracket 1 none ∈ lw_tbl := cxq_mem2 3 211 (by decide +kernel)
theorem ktX6_tell : Cond.code yX6_tell cX6_tell 4 (some .int) ∈ lw_tbl := cxq_mem2 6 179 (by decide +kernel)
theorem ktX6_planDay : Cond.code yX6_planDay cX6_planDay 5 (some .int) ∈ lw_tbl := cxq_mem2 6 85 (by decide +kernel)
theorem ktX6_clear : Cond.code yX6_clear cX6_clear 3 none ∈ lw_tbl := cxq_mem2 6 89 (by decide +kernel)
theorem ktX6_keep : Cond.code yX6_keep cX6_keep 3 none ∈ lw_tbl := cxq_mem2 6 171 (by decide +kernel)
theorem ktX6_putOpenOnes : Cond.code yX6_putOpenOnes cX6_putOpenOnes 3 none ∈ lw_tbl := cxq_mem2 6 97 (by decide +kernel)
theorem ktX6_put : Cond.code yX6_put cX6_put 6 none ∈ lw_tbl := cxq_mem2 6 102 (by decide +kernel)
theorem ktX6_holdTill : Cond.code yX6_holdTill cX6_holdTill 3 none ∈ lw_tbl := cxq_mem2 6 108 (by decide +kernel)
theorem ktX6_putInOrder : Cond.code yX6_putInOrder cX6_putInOrder 3 none ∈ lw_tbl := cxq_mem2 6 115 (by decide +kernel)
theorem ktX6_putStageInOrder : Cond.code yX6_putStageInOrder cX6_putStageInOrder 5 none ∈ lw_tbl := cxq_mem2 6 119 (by decide +kernel)
theorem ktX6_putFrom : Cond.code yX6_putFrom cX6_putFrom 7 none ∈ lw_tbl := cxq_mem2 6 149 (by decide +kernel)
theorem ktX6_firstThatMay : Cond.code yX6_firstThatMay cX6_firstThatMay 3 (some .int) ∈ lw_tbl := cxq_mem2 6 153 (by decide +kernel)
theorem ktX6_takeOutOfOrder : Cond.code yX6_takeOutOfOrder cX6_takeOutOfOrder 3 none ∈ lw_tbl := cxq_mem2 6 157 (by decide +kernel)
theorem ktX6_soonestMat : Cond.code yX6_soonestMat cX6_soonestMat 4 (some .int) ∈ lw_tbl := cxq_mem2 6 161 (by decide +kernel)
theorem ktX6_soonestFight : Cond.code yX6_soonestFight cX6_soonestFight 3 (some .int) ∈ lw_tbl := cxq_mem2 6 166 (by decide +kernel)
theorem ktX6_findEarliest : Cond.code yX6_findEarliest cX6_findEarliest 6 none ∈ lw_tbl := cxq_mem2 6 132 (by decide +kernel)
theorem ktX6_freeFrom : Cond.code yX6_freeFrom cX6_freeFrom 2 (some .int) ∈ lw_tbl := cxq_mem2 6 136 (by decide +kernel)
theorem ktX6_behindFight : Cond.code yX6_behindFight cX6_behindFight 4 (some .int) ∈ lw_tbl := cxq_mem2 6 144 (by decide +kernel)
theorem ktX7_ofTree : Cond.code yX7_ofTree cX7_ofTree 5 (some .int) ∈ lw_tbl := cxq_mem2 6 77 (by decide +kernel)
theorem ktX7_ofPool : Cond.code yX7_ofPool cX7_ofPool 4 (some .int) ∈ lw_tbl := cxq_mem2 6 30 (by decide +kernel)
theorem ktX7_member : Cond.code yX7_member cX7_member 3 (some .int) ∈ lw_tbl := cxq_mem2 6 47 (by decide +kernel)
theorem ktX7_addUp : Cond.code yX7_addUp cX7_addUp 4 none ∈ lw_tbl := cxq_mem2 6 36 (by decide +kernel)
theorem ktX7_aheadOf : Cond.code yX7_aheadOf cX7_aheadOf 7 (some .int) ∈ lw_tbl := cxq_mem2 6 52 (by decide +kernel)
theorem ktX7_areAlike : Cond.code yX7_areAlike cX7_areAlike 3 (some .boolean) ∈ lw_tbl := cxq_mem2 6 56 (by decide +kernel)
theorem ktX7_hasMore : Cond.code yX7_hasMore cX7_hasMore 3 (some .boolean) ∈ lw_tbl := cxq_mem2 6 73 (by decide +kernel)
theorem ktX7_breaksTie : Cond.code yX7_breaksTie cX7_breaksTie 7 (some .boolean) ∈ lw_tbl := cxq_mem2 6 60 (by decide +kernel)
theorem ktX7_beat : Cond.code yX7_beat cX7_beat 5 (some .boolean) ∈ lw_tbl := cxq_mem2 6 64 (by decide +kernel)
theorem ktX8_people : Cond.code yX8_people cX8_people 1 (some .int) ∈ lw_tbl := cxq_mem2 4 130 (by decide +kernel)
theorem ktX8_has : Cond.code yX8_has cX8_has 2 (some .boolean) ∈ lw_tbl := cxq_mem2 4 157 (by decide +kernel)
theorem ktX8_classOf : Cond.code yX8_classOf cX8_classOf 2 (some .int) ∈ lw_tbl := cxq_mem2 4 135 (by decide +kernel)
theorem ktX8_add : Cond.code yX8_add cX8_add 4 (some .int) ∈ lw_tbl := cxq_mem2 4 148 (by decide +kernel)
theorem ktX8_putOnScales : Cond.code yX8_putOnScales cX8_putOnScales 5 (some .boolean) ∈ lw_tbl := cxq_mem2 4 162 (by decide +kernel)
theorem ktX8_wasAnyAtScales : Cond.code yX8_wasAnyAtScales cX8_wasAnyAtScales 3 (some .boolean) ∈ lw_tbl := cxq_mem2 4 126 (by decide +kernel)
theorem ktX8_isSeedOfAnother : Cond.code yX8_isSeedOfAnother cX8_isSeedOfAnother 5 (some .boolean) ∈ lw_tbl := cxq_mem2 4 171 (by decide +kernel)
theorem ktX8_fightersOf : Cond.code yX8_fightersOf cX8_fightersOf 4 (some .int) ∈ lw_tbl := cxq_mem2 5 81 (by decide +kernel)
theorem ktX8_weighedOf : Cond.code yX8_weighedOf cX8_weighedOf 4 (some .int) ∈ lw_tbl := cxq_mem2 4 180 (by decide +kernel)
theorem ktX8_isWeighed : Cond.code yX8_isWeighed cX8_isWeighed 3 (some .boolean) ∈ lw_tbl := cxq_mem2 4 183 (by decide +kernel)
theorem ktX10_push : Cond.code yX10_push cX10_push 3 none ∈ lw_tbl := cxq_mem2 2 203 (by decide +kernel)
theorem ktX10_rewind : Cond.code yX10_rewind cX10_rewind 1 none ∈ lw_tbl := cxq_mem2 3 4 (by decide +kernel)
theorem ktX10_readToken : Cond.code yX10_readToken cX10_readToken 2 none ∈ lw_tbl := cxq_mem2 3 8 (by decide +kernel)
theorem ktX10_readWord : Cond.code yX10_readWord cX10_readWord 1 none ∈ lw_tbl := cxq_mem2 3 22 (by decide +kernel)
theorem ktX10_readNumber : Cond.code yX10_readNumber cX10_readNumber 1 none ∈ lw_tbl := cxq_mem2 3 98 (by decide +kernel)
theorem ktX10_markOf : Cond.code yX10_markOf cX10_markOf 2 (some .int) ∈ lw_tbl := cxq_mem2 3 102 (by decide +kernel)
theorem ktX10_takeEqual : Cond.code yX10_takeEqual cX10_takeEqual 2 (some .boolean) ∈ lw_tbl := cxq_mem2 3 106 (by decide +kernel)
theorem ktX10_wordKind : Cond.code yX10_wordKind cX10_wordKind 1 (some .int) ∈ lw_tbl := cxq_mem2 3 26 (by decide +kernel)
theorem ktX10_spells : Cond.code yX10_spells cX10_spells 3 (some .boolean) ∈ lw_tbl := cxq_mem2 3 31 (by decide +kernel)
theorem ktX10_isWordAt : Cond.code yX10_isWordAt cX10_isWordAt 4 (some .boolean) ∈ lw_tbl := cxq_mem2 3 159 (by decide +kernel)
theorem ktX10_tokenSize : Cond.code yX10_tokenSize cX10_tokenSize 1 (some .int) ∈ lw_tbl := cxq_mem2 3 163 (by decide +kernel)
theorem ktX10_isBlank : Cond.code yX10_isBlank cX10_isBlank 1 (some .boolean) ∈ lw_tbl := cxq_mem2 3 15 (by decide +kernel)
theorem ktX10_isLetter : Cond.code yX10_isLetter cX10_isLetter 1 (some .boolean) ∈ lw_tbl := cxq_mem2 3 18 (by decide +kernel)
theorem ktX10_isDigit : Cond.code yX10_isDigit cX10_isDigit 1 (some .boolean) ∈ lw_tbl := cxq_mem2 3 94 (by decide +kernel)
theorem ktX11_feed : Cond.code yX11_feed cX11_feed 6 (some .int) ∈ lw_tbl := cxq_mem2 2 199 (by decide +kernel)
theorem ktX11_end : Cond.code yX11_end cX11_end 2 (some .int) ∈ lw_tbl := cxq_mem2 2 211 (by decide +kernel)
theorem ktX11_laws : Cond.code yX11_laws cX11_laws 2 (some .int) ∈ lw_tbl := cxq_mem2 2 215 (by decide +kernel)
theorem ktX11_fault : Cond.code yX11_fault cX11_fault 2 (some .int) ∈ lw_tbl := cxq_mem2 4 101 (by decide +kernel)
theorem ktX11_keepLaws : Cond.code yX11_keepLaws cX11_keepLaws 3 none ∈ lw_tbl := cxq_mem2 3 232 (by decide +kernel)
theorem ktX11_lawsNow : Cond.code yX11_lawsNow cX11_lawsNow 2 (some (.object "JudoHall$Laws")) ∈ lw_tbl := cxq_mem2 4 92 (by decide +kernel)
theorem ktX11_limit : Cond.code yX11_limit cX11_limit 4 (some .int) ∈ lw_tbl := cxq_mem2 4 105 (by decide +kernel)
theorem ktX11_enter : Cond.code yX11_enter cX11_enter 3 (some .int) ∈ lw_tbl := cxq_mem2 4 143 (by decide +kernel)
theorem ktX11_weigh : Cond.code yX11_weigh cX11_weigh 3 (some .int) ∈ lw_tbl := cxq_mem2 4 153 (by decide +kernel)
theorem ktX11_seed : Cond.code yX11_seed cX11_seed 4 (some .int) ∈ lw_tbl := cxq_mem2 4 167 (by decide +kernel)
theorem ktX11_draw : Cond.code yX11_draw cX11_draw 3 (some .int) ∈ lw_tbl := cxq_mem2 4 176 (by decide +kernel)
theorem ktX11_fighter : Cond.code yX11_fighter cX11_fighter 3 (some .int) ∈ lw_tbl := cxq_mem2 5 73 (by decide +kernel)
theorem ktX11_about : Cond.code yX11_about cX11_about 3 (some .int) ∈ lw_tbl := cxq_mem2 5 77 (by decide +kernel)
theorem ktX11_fight : Cond.code yX11_fight cX11_fight 6 (some .int) ∈ lw_tbl := cxq_mem2 5 100 (by decide +kernel)
theorem ktX11_now : Cond.code yX11_now cX11_now 2 (some .int) ∈ lw_tbl := cxq_mem2 5 114 (by decide +kernel)
theorem ktX11_rest : Cond.code yX11_rest cX11_rest 3 (some .int) ∈ lw_tbl := cxq_mem2 5 118 (by decide +kernel)
theorem ktX11_begin : Cond.code yX11_begin cX11_begin 5 (some .int) ∈ lw_tbl := cxq_mem2 5 122 (by decide +kernel)
theorem ktX11_event : Cond.code yX11_event cX11_event 5 (some .int) ∈ lw_tbl := cxq_mem2 5 151 (by decide +kernel)
theorem ktX11_tick : Cond.code yX11_tick cX11_tick 4 (some .int) ∈ lw_tbl := cxq_mem2 5 222 (by decide +kernel)
theorem ktX11_decide : Cond.code yX11_decide cX11_decide 4 (some .int) ∈ lw_tbl := cxq_mem2 5 231 (by decide +kernel)
theorem ktX11_mat : Cond.code yX11_mat cX11_mat 3 (some .int) ∈ lw_tbl := cxq_mem2 6 0 (by decide +kernel)
theorem ktX11_signsOn : Cond.code yX11_signsOn cX11_signsOn 5 (some .int) ∈ lw_tbl := cxq_mem2 6 4 (by decide +kernel)
theorem ktX11_strike : Cond.code yX11_strike cX11_strike 3 (some .int) ∈ lw_tbl := cxq_mem2 6 9 (by decide +kernel)
theorem ktX11_medal : Cond.code yX11_medal cX11_medal 3 (some .int) ∈ lw_tbl := cxq_mem2 6 26 (by decide +kernel)
theorem ktX11_plan : Cond.code yX11_plan cX11_plan 3 (some .int) ∈ lw_tbl := cxq_mem2 6 81 (by decide +kernel)
theorem ktX11_planned : Cond.code yX11_planned cX11_planned 4 (some .int) ∈ lw_tbl := cxq_mem2 6 175 (by decide +kernel)
theorem ktX11_undo : Cond.code yX11_undo cX11_undo 2 (some .int) ∈ lw_tbl := cxq_mem2 6 183 (by decide +kernel)
theorem ktX11_count : Cond.code yX11_count cX11_count 2 (some .int) ∈ lw_tbl := cxq_mem2 6 193 (by decide +kernel)
theorem ktX11_isClass : Cond.code yX11_isClass cX11_isClass 1 (some .boolean) ∈ lw_tbl := cxq_mem2 4 108 (by decide +kernel)
theorem ktX11_isMat : Cond.code yX11_isMat cX11_isMat 1 (some .boolean) ∈ lw_tbl := cxq_mem2 5 125 (by decide +kernel)
theorem ktX11_isSide : Cond.code yX11_isSide cX11_isSide 1 (some .boolean) ∈ lw_tbl := cxq_mem2 5 154 (by decide +kernel)
theorem ktX11_isGrams : Cond.code yX11_isGrams cX11_isGrams 1 (some .boolean) ∈ lw_tbl := cxq_mem2 4 111 (by decide +kernel)
set_option maxRecDepth 100000 in
theorem in_wKc : ∀ w ∈ wKc, w ∈ lw_tbl := List.forall_mem_cons.mpr ⟨ktX0_slot, List.forall_mem_cons.mpr ⟨ktX0_kindOf, List.forall_mem_cons.mpr ⟨ktX0_sizeOf, List.forall_mem_cons.mpr ⟨ktX0_isDrawn, List.forall_mem_cons.mpr ⟨ktX0_onPlace, List.forall_mem_cons.mpr ⟨ktX0_fightsOf, List.forall_mem_cons.mpr ⟨ktX0_stepsOf, List.forall_mem_cons.mpr ⟨ktX0_has, List.forall_mem_cons.mpr ⟨ktX0_whiteOf, List.forall_mem_cons.mpr ⟨ktX0_blueOf, List.forall_mem_cons.mpr ⟨ktX0_winnerOf, List.forall_mem_cons.mpr ⟨ktX0_stateOf, List.forall_mem_cons.mpr ⟨ktX0_loserOf, List.forall_mem_cons.mpr ⟨ktX0_howMany, List.forall_mem_cons.mpr ⟨ktX0_settle, List.forall_mem_cons.mpr ⟨ktX0_settlePool, List.forall_mem_cons.mpr ⟨ktX0_settleTree, List.forall_mem_cons.mpr ⟨ktX0_lowerBelow, List.forall_mem_cons.mpr ⟨ktX0_settleLives, List.forall_mem_cons.mpr ⟨ktX0_findLosersTo, List.forall_mem_cons.mpr ⟨ktX0_settleWalk, List.forall_mem_cons.mpr ⟨ktX0_settleFight, List.forall_mem_cons.mpr ⟨ktX0_firstStale, List.forall_mem_cons.mpr ⟨ktX0_stageOf, List.forall_mem_cons.mpr ⟨ktX0_stepOf, List.forall_mem_cons.mpr ⟨ktX0_aheadOf, List.forall_mem_cons.mpr ⟨ktX1_ofClass, List.forall_mem_cons.mpr ⟨ktX1_ofFighter, List.forall_mem_cons.mpr ⟨ktX1_ofFight, List.forall_mem_cons.mpr ⟨ktX1_ofMat, List.forall_mem_cons.mpr ⟨ktX1_put, List.forall_mem_cons.mpr ⟨ktX1_isFull, List.forall_mem_cons.mpr ⟨ktX1_openEntry, List.forall_mem_cons.mpr ⟨ktX1_takeBack, List.forall_mem_cons.mpr ⟨ktX2_placeAll, List.forall_mem_cons.mpr ⟨ktX2_placesFor, List.forall_mem_cons.mpr ⟨ktX2_placePool, List.forall_mem_cons.mpr ⟨ktX2_placeOne, List.forall_mem_cons.mpr ⟨ktX2_makeRow, List.forall_mem_cons.mpr ⟨ktX2_isSeed, List.forall_mem_cons.mpr ⟨ktX2_placeSeeds, List.forall_mem_cons.mpr ⟨ktX2_placeOthers, List.forall_mem_cons.mpr ⟨ktX2_largestClub, List.forall_mem_cons.mpr ⟨ktX2_placeClub, List.forall_mem_cons.mpr ⟨ktX2_bestPlace, List.forall_mem_cons.mpr ⟨ktX2_firstMeeting, List.forall_mem_cons.mpr ⟨ktX2_meetingRound, List.forall_mem_cons.mpr ⟨ktX3_on, List.forall_mem_cons.mpr ⟨ktX3_isFree, List.forall_mem_cons.mpr ⟨ktX3_classOn, List.forall_mem_cons.mpr ⟨ktX3_waits, List.forall_mem_cons.mpr ⟨ktX3_goesOn, List.forall_mem_cons.mpr ⟨ktX3_signsOf, List.forall_mem_cons.mpr ⟨ktX3_openFights, List.forall_mem_cons.mpr ⟨ktX3_fighterOn, List.forall_mem_cons.mpr ⟨ktX3_isHeld, List.forall_mem_cons.mpr ⟨ktX3_start, List.forall_mem_cons.mpr ⟨ktX3_turnOver, List.forall_mem_cons.mpr ⟨ktX3_giveSign, List.forall_mem_cons.mpr ⟨ktX3_letPass, List.forall_mem_cons.mpr ⟨ktX3_ask, List.forall_mem_cons.mpr ⟨ktX3_holds, List.forall_mem_cons.mpr ⟨ktX3_push, List.forall_mem_cons.mpr ⟨ktX3_pop, List.forall_mem_cons.mpr ⟨ktX3_valueOf, List.forall_mem_cons.mpr ⟨ktX3_workOn, List.forall_mem_cons.mpr ⟨ktX3_finish, List.forall_mem_cons.mpr ⟨ktX3_leave, List.forall_mem_cons.mpr ⟨ktX3_strikeFrom, List.forall_mem_cons.mpr ⟨ktX3_drop, List.forall_mem_cons.mpr ⟨ktX4_clear, List.forall_mem_cons.mpr ⟨ktX4_emit, List.forall_mem_cons.mpr ⟨ktX4_endLine, List.forall_mem_cons.mpr ⟨ktX4_startOf, List.forall_mem_cons.mpr ⟨ktX4_kindAt, List.forall_mem_cons.mpr ⟨ktX4_valueAt, List.forall_mem_cons.mpr ⟨ktX5_handOver, List.forall_mem_cons.mpr ⟨ktX5_readLaws, List.forall_mem_cons.mpr ⟨ktX5_fail, List.forall_mem_cons.mpr ⟨ktX5_take, List.forall_mem_cons.mpr ⟨ktX5_goIf, List.forall_mem_cons.mpr ⟨ktX5_takeHead, List.forall_mem_cons.mpr ⟨ktX5_takeSignOrLine, List.forall_mem_cons.mpr ⟨ktX5_goIfRoom, List.forall_mem_cons.mpr ⟨ktX5_takeSignName, List.forall_mem_cons.mpr ⟨ktX5_signOfToken, List.forall_mem_cons.mpr ⟨ktX5_takePoints, List.forall_mem_cons.mpr ⟨ktX5_takeCond, List.forall_mem_cons.mpr ⟨ktX5_takePart, List.forall_mem_cons.mpr ⟨ktX5_openThing, List.forall_mem_cons.mpr ⟨ktX5_takeTerm, List.forall_mem_cons.mpr ⟨ktX5_takeTermName, List.forall_mem_cons.mpr ⟨ktX5_emitTerm, List.forall_mem_cons.mpr ⟨ktX5_endComparison, List.forall_mem_cons.mpr ⟨ktX5_takeBehindTerm, List.forall_mem_cons.mpr ⟨ktX5_takeBehindCond, List.forall_mem_cons.mpr ⟨ktX5_hold, List.forall_mem_cons.mpr ⟨ktX5_emitBinders, List.forall_mem_cons.mpr ⟨ktX5_closeNots, List.forall_mem_cons.mpr ⟨ktX5_closeBracket, List.forall_mem_cons.mpr ⟨ktX6_tell, List.forall_mem_cons.mpr ⟨ktX6_planDay, List.forall_mem_cons.mpr ⟨ktX6_clear, List.forall_mem_cons.mpr ⟨ktX6_keep, List.forall_mem_cons.mpr ⟨ktX6_putOpenOnes, List.forall_mem_cons.mpr ⟨ktX6_put, List.forall_mem_cons.mpr ⟨ktX6_holdTill, List.forall_mem_cons.mpr ⟨ktX6_putInOrder, List.forall_mem_cons.mpr ⟨ktX6_putStageInOrder, List.forall_mem_cons.mpr ⟨ktX6_putFrom, List.forall_mem_cons.mpr ⟨ktX6_firstThatMay, List.forall_mem_cons.mpr ⟨ktX6_takeOutOfOrder, List.forall_mem_cons.mpr ⟨ktX6_soonestMat, List.forall_mem_cons.mpr ⟨ktX6_soonestFight, List.forall_mem_cons.mpr ⟨ktX6_findEarliest, List.forall_mem_cons.mpr ⟨ktX6_freeFrom, List.forall_mem_cons.mpr ⟨ktX6_behindFight, List.forall_mem_cons.mpr ⟨ktX7_ofTree, List.forall_mem_cons.mpr ⟨ktX7_ofPool, List.forall_mem_cons.mpr ⟨ktX7_member, List.forall_mem_cons.mpr ⟨ktX7_addUp, List.forall_mem_cons.mpr ⟨ktX7_aheadOf, List.forall_mem_cons.mpr ⟨ktX7_areAlike, List.forall_mem_cons.mpr ⟨ktX7_hasMore, List.forall_mem_cons.mpr ⟨ktX7_breaksTie, List.forall_mem_cons.mpr ⟨ktX7_beat, List.forall_mem_cons.mpr ⟨ktX8_people, List.forall_mem_cons.mpr ⟨ktX8_has, List.forall_mem_cons.mpr ⟨ktX8_classOf, List.forall_mem_cons.mpr ⟨ktX8_add, List.forall_mem_cons.mpr ⟨ktX8_putOnScales, List.forall_mem_cons.mpr ⟨ktX8_wasAnyAtScales, List.forall_mem_cons.mpr ⟨ktX8_isSeedOfAnother, List.forall_mem_cons.mpr ⟨ktX8_fightersOf, List.forall_mem_cons.mpr ⟨ktX8_weighedOf, List.forall_mem_cons.mpr ⟨ktX8_isWeighed, List.forall_mem_cons.mpr ⟨ktX10_push, List.forall_mem_cons.mpr ⟨ktX10_rewind, List.forall_mem_cons.mpr ⟨ktX10_readToken, List.forall_mem_cons.mpr ⟨ktX10_readWord, List.forall_mem_cons.mpr ⟨ktX10_readNumber, List.forall_mem_cons.mpr ⟨ktX10_markOf, List.forall_mem_cons.mpr ⟨ktX10_takeEqual, List.forall_mem_cons.mpr ⟨ktX10_wordKind, List.forall_mem_cons.mpr ⟨ktX10_spells, List.forall_mem_cons.mpr ⟨ktX10_isWordAt, List.forall_mem_cons.mpr ⟨ktX10_tokenSize, List.forall_mem_cons.mpr ⟨ktX10_isBlank, List.forall_mem_cons.mpr ⟨ktX10_isLetter, List.forall_mem_cons.mpr ⟨ktX10_isDigit, List.forall_mem_cons.mpr ⟨ktX11_feed, List.forall_mem_cons.mpr ⟨ktX11_end, List.forall_mem_cons.mpr ⟨ktX11_laws, List.forall_mem_cons.mpr ⟨ktX11_fault, List.forall_mem_cons.mpr ⟨ktX11_keepLaws, List.forall_mem_cons.mpr ⟨ktX11_lawsNow, List.forall_mem_cons.mpr ⟨ktX11_limit, List.forall_mem_cons.mpr ⟨ktX11_enter, List.forall_mem_cons.mpr ⟨ktX11_weigh, List.forall_mem_cons.mpr ⟨ktX11_seed, List.forall_mem_cons.mpr ⟨ktX11_draw, List.forall_mem_cons.mpr ⟨ktX11_fighter, List.forall_mem_cons.mpr ⟨ktX11_about, List.forall_mem_cons.mpr ⟨ktX11_fight, List.forall_mem_cons.mpr ⟨ktX11_now, List.forall_mem_cons.mpr ⟨ktX11_rest, List.forall_mem_cons.mpr ⟨ktX11_begin, List.forall_mem_cons.mpr ⟨ktX11_event, List.forall_mem_cons.mpr ⟨ktX11_tick, List.forall_mem_cons.mpr ⟨ktX11_decide, List.forall_mem_cons.mpr ⟨ktX11_mat, List.forall_mem_cons.mpr ⟨ktX11_signsOn, List.forall_mem_cons.mpr ⟨ktX11_strike, List.forall_mem_cons.mpr ⟨ktX11_medal, List.forall_mem_cons.mpr ⟨ktX11_plan, List.forall_mem_cons.mpr ⟨ktX11_planned, List.forall_mem_cons.mpr ⟨ktX11_undo, List.forall_mem_cons.mpr ⟨ktX11_count, List.forall_mem_cons.mpr ⟨ktX11_isClass, List.forall_mem_cons.mpr ⟨ktX11_isMat, List.forall_mem_cons.mpr ⟨ktX11_isSide, List.forall_mem_cons.mpr ⟨ktX11_isGrams, (fun _ h => absurd h List.not_mem_nil)⟩⟩⟩⟩⟩⟩⟩⟩⟩⟩⟩⟩⟩⟩⟩⟩⟩⟩⟩⟩⟩⟩⟩⟩⟩⟩⟩⟩⟩⟩⟩⟩⟩⟩⟩⟩⟩⟩⟩⟩⟩⟩⟩⟩⟩⟩⟩⟩⟩⟩⟩⟩⟩⟩⟩⟩⟩⟩⟩⟩⟩⟩⟩⟩⟩⟩⟩⟩⟩⟩⟩⟩⟩⟩⟩⟩⟩⟩⟩⟩⟩⟩⟩⟩⟩⟩⟩⟩⟩⟩⟩⟩⟩⟩⟩⟩⟩⟩⟩⟩⟩⟩⟩⟩⟩⟩⟩⟩⟩⟩⟩⟩⟩⟩⟩⟩⟩⟩⟩⟩⟩⟩⟩⟩⟩⟩⟩⟩⟩⟩⟩⟩⟩⟩⟩⟩⟩⟩⟩⟩⟩⟩⟩⟩⟩⟩⟩⟩⟩⟩⟩⟩⟩⟩⟩⟩⟩⟩⟩⟩⟩⟩⟩⟩⟩⟩⟩⟩⟩⟩⟩⟩⟩⟩⟩⟩⟩⟩⟩⟩⟩⟩
theorem in_wK : ∀ w ∈ wK, w ∈ lw_tbl := List.forall_mem_append.mpr ⟨in_wsX00, List.forall_mem_append.mpr ⟨in_wsX10, List.forall_mem_append.mpr ⟨in_wsX20, List.forall_mem_append.mpr ⟨in_wsX30, List.forall_mem_append.mpr ⟨in_wsX40, List.forall_mem_append.mpr ⟨in_wsX50, List.forall_mem_append.mpr ⟨in_wsX60, List.forall_mem_append.mpr ⟨in_wsX70, List.forall_mem_append.mpr ⟨in_wsX80, List.forall_mem_append.mpr ⟨in_wsX90, List.forall_mem_append.mpr ⟨in_wsX100, List.forall_mem_append.mpr ⟨in_wsX110, List.forall_mem_append.mpr ⟨in_wKa0, List.forall_mem_append.mpr ⟨in_wKa1, List.forall_mem_append.mpr ⟨in_wKa2, List.forall_mem_append.mpr ⟨in_wKa3, List.forall_mem_append.mpr ⟨in_wKa4, List.forall_mem_append.mpr ⟨in_wKa5, List.forall_mem_append.mpr ⟨in_wKc, List.forall_mem_append.mpr ⟨in_c_copyOf, List.forall_mem_append.mpr ⟨in_c_Row_roomx, List.forall_mem_append.mpr ⟨in_c_Row_grow, List.forall_mem_append.mpr ⟨in_c_Row_get, List.forall_mem_append.mpr ⟨in_c_Row_set, List.forall_mem_append.mpr ⟨in_c_Row_fill, List.forall_mem_append.mpr ⟨in_c_Book_at, List.forall_mem_append.mpr ⟨in_c_Book_lay, List.forall_mem_append.mpr ⟨in_wL, in_wJ⟩⟩⟩⟩⟩⟩⟩⟩⟩⟩⟩⟩⟩⟩⟩⟩⟩⟩⟩⟩⟩⟩⟩⟩⟩⟩⟩⟩
theorem wKin_X0 : ∀ w ∈ u_ws RX0 TX0 6, w ∈ wK := fun _ h => (List.mem_append_left _ h)
theorem wKin_X1 : ∀ w ∈ u_ws RX1 TX1 6, w ∈ wK := fun _ h => (List.mem_append_right _ (List.mem_append_left _ h))
theorem wKin_X2 : ∀ w ∈ u_ws RX2 TX2 3, w ∈ wK := fun _ h => (List.mem_append_right _ (List.mem_append_right _ (List.mem_append_left _ h)))
theorem wKin_X3 : ∀ w ∈ u_ws RX3 TX3 4, w ∈ wK := fun _ h => (List.mem_append_right _ (List.mem_append_right _ (List.mem_append_right _ (List.mem_append_left _ h))))
theorem wKin_X4 : ∀ w ∈ u_ws RX4 TX4 9, w ∈ wK := fun _ h => (List.mem_append_right _ (List.mem_append_right _ (List.mem_append_right _ (List.mem_append_right _ (List.mem_append_left _ h)))))
theorem wKin_X5 : ∀ w ∈ u_ws RX5 TX5 14, w ∈ wK := fun _ h => (List.mem_append_right _ (List.mem_append_right _ (List.mem_append_right _ (List.mem_append_right _ (List.mem_append_right _ (List.mem_append_left _ h))))))
theorem wKin_X6 : ∀ w ∈ u_ws RX6 TX6 14, w ∈ wK := fun _ h => (List.mem_append_right _ (List.mem_append_right _ (List.mem_append_right _ (List.mem_append_right _ (List.mem_append_right _ (List.mem_append_right _ (List.mem_append_left _ h)))))))
theorem wKin_X7 : ∀ w ∈ u_ws RX7 TX7 4, w ∈ wK := fun _ h => (List.mem_append_right _ (List.mem_append_right _ (List.mem_append_right _ (List.mem_append_right _ (List.mem_append_right _ (List.mem_append_right _ (List.mem_append_right _ (List.mem_append_left _ h))))))))
theorem wKin_X8 : ∀ w ∈ u_ws RX8 TX8 1, w ∈ wK := fun _ h => (List.mem_append_right _ (List.mem_append_right _ (List.mem_append_right _ (List.mem_append_right _ (List.mem_append_right _ (List.mem_append_right _ (List.mem_append_right _ (List.mem_append_right _ (List.mem_append_left _ h)))))))))
theorem wKin_X10 : ∀ w ∈ u_ws RX10 TX10 6, w ∈ wK := fun _ h => (List.mem_append_right _ (List.mem_append_right _ (List.mem_append_right _ (List.mem_append_right _ (List.mem_append_right _ (List.mem_append_right _ (List.mem_append_right _ (List.mem_append_right _ (List.mem_append_right _ (List.mem_append_right _ (List.mem_append_left _ h)))))))))))
theorem wKin_X11 : ∀ w ∈ u_ws RX11 TX11 11, w ∈ wK := fun _ h => (List.mem_append_right _ (List.mem_append_right _ (List.mem_append_right _ (List.mem_append_right _ (List.mem_append_right _ (List.mem_append_right _ (List.mem_append_right _ (List.mem_append_right _ (List.mem_append_right _ (List.mem_append_right _ (List.mem_append_right _ (List.mem_append_left _ h))))))))))))
theorem wKa0_in : ∀ w ∈ wKa0, w ∈ wK := fun _ h => (List.mem_append_right _ (List.mem_append_right _ (List.mem_append_right _ (List.mem_append_right _ (List.mem_append_right _ (List.mem_append_right _ (List.mem_append_right _ (List.mem_append_right _ (List.mem_append_right _ (List.mem_append_right _ (List.mem_append_right _ (List.mem_append_right _ (List.mem_append_left _ h)))))))))))))
theorem wKa1_in : ∀ w ∈ wKa1, w ∈ wK := fun _ h => (List.mem_append_right _ (List.mem_append_right _ (List.mem_append_right _ (List.mem_append_right _ (List.mem_append_right _ (List.mem_append_right _ (List.mem_append_right _ (List.mem_append_right _ (List.mem_append_right _ (List.mem_append_right _ (List.mem_append_right _ (List.mem_append_right _ (List.mem_append_right _ (List.mem_append_left _ h))))))))))))))
theorem wKa2_in : ∀ w ∈ wKa2, w ∈ wK := fun _ h => (List.mem_append_right _ (List.mem_append_right _ (List.mem_append_right _ (List.mem_append_right _ (List.mem_append_right _ (List.mem_append_right _ (List.mem_append_right _ (List.mem_append_right _ (List.mem_append_right _ (List.mem_append_right _ (List.mem_append_right _ (List.mem_append_right _ (List.mem_append_right _ (List.mem_append_right _ (List.mem_append_left _ h)))))))))))))))
theorem wKa3_in : ∀ w ∈ wKa3, w ∈ wK := fun _ h => (List.mem_append_right _ (List.mem_append_right _ (List.mem_append_right _ (List.mem_append_right _ (List.mem_append_right _ (List.mem_append_right _ (List.mem_append_right _ (List.mem_append_right _ (List.mem_append_right _ (List.mem_append_right _ (List.mem_append_right _ (List.mem_append_right _ (List.mem_append_right _ (List.mem_append_right _ (List.mem_append_right _ (List.mem_append_left _ h))))))))))))))))
theorem wKa4_in : ∀ w ∈ wKa4, w ∈ wK := fun _ h => (List.mem_append_right _ (List.mem_append_right _ (List.mem_append_right _ (List.mem_append_right _ (List.mem_append_right _ (List.mem_append_right _ (List.mem_append_right _ (List.mem_append_right _ (List.mem_append_right _ (List.mem_append_right _ (List.mem_append_right _ (List.mem_append_right _ (List.mem_append_right _ (List.mem_append_right _ (List.mem_append_right _ (List.mem_append_right _ (List.mem_append_left _ h)))))))))))))))))
theorem wKa5_in : ∀ w ∈ wKa5, w ∈ wK := fun _ h => (List.mem_append_right _ (List.mem_append_right _ (List.mem_append_right _ (List.mem_append_right _ (List.mem_append_right _ (List.mem_append_right _ (List.mem_append_right _ (List.mem_append_right _ (List.mem_append_right _ (List.mem_append_right _ (List.mem_append_right _ (List.mem_append_right _ (List.mem_append_right _ (List.mem_append_right _ (List.mem_append_right _ (List.mem_append_right _ (List.mem_append_right _ (List.mem_append_left _ h))))))))))))))))))
theorem wKc_in : ∀ w ∈ wKc, w ∈ wK := fun _ h => (List.mem_append_right _ (List.mem_append_right _ (List.mem_append_right _ (List.mem_append_right _ (List.mem_append_right _ (List.mem_append_right _ (List.mem_append_right _ (List.mem_append_right _ (List.mem_append_right _ (List.mem_append_right _ (List.mem_append_right _ (List.mem_append_right _ (List.mem_append_right _ (List.mem_append_right _ (List.mem_append_right _ (List.mem_append_right _ (List.mem_append_right _ (List.mem_append_right _ (List.mem_append_left _ h)))))))))))))))))))
theorem wLK : ∀ w ∈ wL, w ∈ wK := fun _ h => (List.mem_append_right _ (List.mem_append_right _ (List.mem_append_right _ (List.mem_append_right _ (List.mem_append_right _ (List.mem_append_right _ (List.mem_append_right _ (List.mem_append_right _ (List.mem_append_right _ (List.mem_append_right _ (List.mem_append_right _ (List.mem_append_right _ (List.mem_append_right _ (List.mem_append_right _ (List.mem_append_right _ (List.mem_append_right _ (List.mem_append_right _ (List.mem_append_right _ (List.mem_append_right _ (List.mem_append_right _ (List.mem_append_right _ (List.mem_append_right _ (List.mem_append_right _ (List.mem_append_right _ (List.mem_append_right _ (List.mem_append_right _ (List.mem_append_right _ (List.mem_append_left _ h))))))))))))))))))))))))))))
theorem wJK : ∀ w ∈ wJ, w ∈ wK := fun _ h => (List.mem_append_right _ (List.mem_append_right _ (List.mem_append_right _ (List.mem_append_right _ (List.mem_append_right _ (List.mem_append_right _ (List.mem_append_right _ (List.mem_append_right _ (List.mem_append_right _ (List.mem_append_right _ (List.mem_append_right _ (List.mem_append_right _ (List.mem_append_right _ (List.mem_append_right _ (List.mem_append_right _ (List.mem_append_right _ (List.mem_append_right _ (List.mem_append_right _ (List.mem_append_right _ (List.mem_append_right _ (List.mem_append_right _ (List.mem_append_right _ (List.mem_append_right _ (List.mem_append_right _ (List.mem_append_right _ (List.mem_append_right _ (List.mem_append_right _ (List.mem_append_right _ h))))))))))))))))))))))))))))
theorem gl_c_Row_roomx : ∀ w ∈ wq_c_Row_roomx, w ∈ wK ∧ Gd w := fun _ h => ⟨(List.mem_append_right _ (List.mem_append_right _ (List.mem_append_right _ (List.mem_append_right _ (List.mem_append_right _ (List.mem_append_right _ (List.mem_append_right _ (List.mem_append_right _ (List.mem_append_right _ (List.mem_append_right _ (List.mem_append_right _ (List.mem_append_right _ (List.mem_append_right _ (List.mem_append_right _ (List.mem_append_right _ (List.mem_append_right _ (List.mem_append_right _ (List.mem_append_right _ (List.mem_append_right _ (List.mem_append_right _ (List.mem_append_left _ h))))))))))))))))))))), gd_c_Row_roomx _ h⟩
theorem gl_c_Row_grow : ∀ w ∈ wq_c_Row_grow, w ∈ wK ∧ Gd w := fun _ h => ⟨(List.mem_append_right _ (List.mem_append_right _ (List.mem_append_right _ (List.mem_append_right _ (List.mem_append_right _ (List.mem_append_right _ (List.mem_append_right _ (List.mem_append_right _ (List.mem_append_right _ (List.mem_append_right _ (List.mem_append_right _ (List.mem_append_right _ (List.mem_append_right _ (List.mem_append_right _ (List.mem_append_right _ (List.mem_append_right _ (List.mem_append_right _ (List.mem_append_right _ (List.mem_append_right _ (List.mem_append_right _ (List.mem_append_right _ (List.mem_append_left _ h)))))))))))))))))))))), gd_c_Row_grow _ h⟩
theorem gl_c_Row_get : ∀ w ∈ wq_c_Row_get, w ∈ wK ∧ Gd w := fun _ h => ⟨(List.mem_append_right _ (List.mem_append_right _ (List.mem_append_right _ (List.mem_append_right _ (List.mem_append_right _ (List.mem_append_right _ (List.mem_append_right _ (List.mem_append_right _ (List.mem_append_right _ (List.mem_append_right _ (List.mem_append_right _ (List.mem_append_right _ (List.mem_append_right _ (List.mem_append_right _ (List.mem_append_right _ (List.mem_append_right _ (List.mem_append_right _ (List.mem_append_right _ (List.mem_append_right _ (List.mem_append_right _ (List.mem_append_right _ (List.mem_append_right _ (List.mem_append_left _ h))))))))))))))))))))))), gd_c_Row_get _ h⟩
theorem gl_c_Row_set : ∀ w ∈ wq_c_Row_set, w ∈ wK ∧ Gd w := fun _ h => ⟨(List.mem_append_right _ (List.mem_append_right _ (List.mem_append_right _ (List.mem_append_right _ (List.mem_append_right _ (List.mem_append_right _ (List.mem_append_right _ (List.mem_append_right _ (List.mem_append_right _ (List.mem_append_right _ (List.mem_append_right _ (List.mem_append_right _ (List.mem_append_right _ (List.mem_append_right _ (List.mem_append_right _ (List.mem_append_right _ (List.mem_append_right _ (List.mem_append_right _ (List.mem_append_right _ (List.mem_append_right _ (List.mem_append_right _ (List.mem_append_right _ (List.mem_append_right _ (List.mem_append_left _ h)))))))))))))))))))))))), gd_c_Row_set _ h⟩
theorem gl_c_Row_fill : ∀ w ∈ wq_c_Row_fill, w ∈ wK ∧ Gd w := fun _ h => ⟨(List.mem_append_right _ (List.mem_append_right _ (List.mem_append_right _ (List.mem_append_right _ (List.mem_append_right _ (List.mem_append_right _ (List.mem_append_right _ (List.mem_append_right _ (List.mem_append_right _ (List.mem_append_right _ (List.mem_append_right _ (List.mem_append_right _ (List.mem_append_right _ (List.mem_append_right _ (List.mem_append_right _ (List.mem_append_right _ (List.mem_append_right _ (List.mem_append_right _ (List.mem_append_right _ (List.mem_append_right _ (List.mem_append_right _ (List.mem_append_right _ (List.mem_append_right _ (List.mem_append_right _ (List.mem_append_left _ h))))))))))))))))))))))))), gd_c_Row_fill _ h⟩
theorem gl_c_Book_at : ∀ w ∈ wq_c_Book_at, w ∈ wK ∧ Gd w := fun _ h => ⟨(List.mem_append_right _ (List.mem_append_right _ (List.mem_append_right _ (List.mem_append_right _ (List.mem_append_right _ (List.mem_append_right _ (List.mem_append_right _ (List.mem_append_right _ (List.mem_append_right _ (List.mem_append_right _ (List.mem_append_right _ (List.mem_append_right _ (List.mem_append_right _ (List.mem_append_right _ (List.mem_append_right _ (List.mem_append_right _ (List.mem_append_right _ (List.mem_append_right _ (List.mem_append_right _ (List.mem_append_right _ (List.mem_append_right _ (List.mem_append_right _ (List.mem_append_right _ (List.mem_append_right _ (List.mem_append_right _ (List.mem_append_left _ h)))))))))))))))))))))))))), gd_c_Book_at _ h⟩
theorem gl_c_Book_lay : ∀ w ∈ wq_c_Book_lay, w ∈ wK ∧ Gd w := fun _ h => ⟨(List.mem_append_right _ (List.mem_append_right _ (List.mem_append_right _ (List.mem_append_right _ (List.mem_append_right _ (List.mem_append_right _ (List.mem_append_right _ (List.mem_append_right _ (List.mem_append_right _ (List.mem_append_right _ (List.mem_append_right _ (List.mem_append_right _ (List.mem_append_right _ (List.mem_append_right _ (List.mem_append_right _ (List.mem_append_right _ (List.mem_append_right _ (List.mem_append_right _ (List.mem_append_right _ (List.mem_append_right _ (List.mem_append_right _ (List.mem_append_right _ (List.mem_append_right _ (List.mem_append_right _ (List.mem_append_right _ (List.mem_append_right _ (List.mem_append_left _ h))))))))))))))))))))))))))), gd_c_Book_lay _ h⟩
theorem wka10 : Cond.methodLink RX1 32 yX1_lay ∈ wK := wKa0_in _ (List.mem_of_getElem? (i := 10) (by decide +kernel))
theorem wka15 : Cond.fieldLink RX1 22 "JudoHall$Book" "changed" "LJudoHall$Row;" ∈ wK := wKa0_in _ (List.mem_of_getElem? (i := 15) (by decide +kernel))
theorem wka16 : Cond.fieldLink RX1 26 "JudoHall$Book" "before" "LJudoHall$Row;" ∈ wK := wKa0_in _ (List.mem_of_getElem? (i := 16) (by decide +kernel))
theorem wka17 : Cond.fieldLink RX1 29 "JudoHall$Book" "starts" "LJudoHall$Row;" ∈ wK := wKa0_in _ (List.mem_of_getElem? (i := 17) (by decide +kernel))
theorem wka18 : Cond.fieldLink RX1 50 "JudoHall$Book" "changes" "I" ∈ wK := wKa0_in _ (List.mem_of_getElem? (i := 18) (by decide +kernel))
theorem wka19 : Cond.fieldLink RX1 61 "JudoHall$Book" "entries" "I" ∈ wK := wKa0_in _ (List.mem_of_getElem? (i := 19) (by decide +kernel))
theorem wka25 : Cond.fieldLink RX10 14 "JudoHall$Tape" "bytes" "LJudoHall$Row;" ∈ wK := wKa0_in _ (List.mem_of_getElem? (i := 25) (by decide +kernel))
theorem wka26 : Cond.fieldLink RX10 18 "JudoHall$Tape" "length" "I" ∈ wK := wKa0_in _ (List.mem_of_getElem? (i := 26) (by decide +kernel))
theorem wka27 : Cond.fieldLink RX10 25 "JudoHall$Tape" "next" "I" ∈ wK := wKa0_in _ (List.mem_of_getElem? (i := 27) (by decide +kernel))
theorem wka28 : Cond.fieldLink RX10 39 "JudoHall$Tape" "kind" "I" ∈ wK := wKa0_in _ (List.mem_of_getElem? (i := 28) (by decide +kernel))
theorem wka29 : Cond.fieldLink RX10 36 "JudoHall$Tape" "from" "I" ∈ wK := wKa0_in _ (List.mem_of_getElem? (i := 29) (by decide +kernel))
theorem wka30 : Cond.fieldLink RX10 61 "JudoHall$Tape" "value" "I" ∈ wK := wKa0_in _ (List.mem_of_getElem? (i := 30) (by decide +kernel))
theorem wka36 : Cond.classLink RX5 17 RX4 ∈ wK := wKa0_in _ (List.mem_of_getElem? (i := 36) (by decide +kernel))
theorem wka41 : Cond.fieldLink RX4 24 "JudoHall$Laws" "time" "I" ∈ wK := wKa0_in _ (List.mem_of_getElem? (i := 41) (by decide +kernel))
theorem wka42 : Cond.fieldLink RX4 28 "JudoHall$Laws" "golden" "I" ∈ wK := wKa0_in _ (List.mem_of_getElem? (i := 42) (by decide +kernel))
theorem wka43 : Cond.fieldLink RX4 31 "JudoHall$Laws" "signs" "I" ∈ wK := wKa0_in _ (List.mem_of_getElem? (i := 43) (by decide +kernel))
theorem wka44 : Cond.fieldLink RX4 34 "JudoHall$Laws" "lines" "I" ∈ wK := wKa0_in _ (List.mem_of_getElem? (i := 44) (by decide +kernel))
theorem wka45 : Cond.fieldLink RX4 37 "JudoHall$Laws" "parts" "I" ∈ wK := wKa0_in _ (List.mem_of_getElem? (i := 45) (by decide +kernel))
theorem wka46 : Cond.fieldLink RX4 40 "JudoHall$Laws" "size" "I" ∈ wK := wKa0_in _ (List.mem_of_getElem? (i := 46) (by decide +kernel))
theorem wka47 : Cond.fieldLink RX4 14 "JudoHall$Laws" "code" "LJudoHall$Row;" ∈ wK := wKa0_in _ (List.mem_of_getElem? (i := 47) (by decide +kernel))
theorem wka48 : Cond.fieldLink RX4 18 "JudoHall$Laws" "ends" "LJudoHall$Row;" ∈ wK := wKa0_in _ (List.mem_of_getElem? (i := 48) (by decide +kernel))
theorem wka50 : Cond.fieldLink RX5 9 "JudoHall$Parser" "tape" "LJudoHall$Tape;" ∈ wK := wKa0_in _ (List.mem_of_getElem? (i := 50) (by decide +kernel))
theorem wka51 : Cond.fieldLink RX5 22 "JudoHall$Parser" "nameFrom" "LJudoHall$Row;" ∈ wK := wKa0_in _ (List.mem_of_getElem? (i := 51) (by decide +kernel))
theorem wka52 : Cond.fieldLink RX5 26 "JudoHall$Parser" "nameSize" "LJudoHall$Row;" ∈ wK := wKa0_in _ (List.mem_of_getElem? (i := 52) (by decide +kernel))
theorem wka53 : Cond.fieldLink RX5 29 "JudoHall$Parser" "works" "LJudoHall$Row;" ∈ wK := wKa0_in _ (List.mem_of_getElem? (i := 53) (by decide +kernel))
theorem wka54 : Cond.fieldLink RX5 33 "JudoHall$Parser" "draft" "LJudoHall$Laws;" ∈ wK := wKa0_in _ (List.mem_of_getElem? (i := 54) (by decide +kernel))
theorem wka55 : Cond.fieldLink RX5 55 "JudoHall$Parser" "held" "I" ∈ wK := wKa0_in _ (List.mem_of_getElem? (i := 55) (by decide +kernel))
theorem wka56 : Cond.fieldLink RX5 58 "JudoHall$Parser" "open" "I" ∈ wK := wKa0_in _ (List.mem_of_getElem? (i := 56) (by decide +kernel))
theorem wka57 : Cond.fieldLink RX5 61 "JudoHall$Parser" "brackets" "I" ∈ wK := wKa0_in _ (List.mem_of_getElem? (i := 57) (by decide +kernel))
theorem wka58 : Cond.fieldLink RX5 37 "JudoHall$Parser" "place" "I" ∈ wK := wKa0_in _ (List.mem_of_getElem? (i := 58) (by decide +kernel))
theorem wka59 : Cond.fieldLink RX5 49 "JudoHall$Parser" "fault" "I" ∈ wK := wKa0_in _ (List.mem_of_getElem? (i := 59) (by decide +kernel))
theorem wka60 : Cond.fieldLink RX5 52 "JudoHall$Parser" "where" "I" ∈ wK := wKa0_in _ (List.mem_of_getElem? (i := 60) (by decide +kernel))
theorem wka61 : Cond.fieldLink RX5 181 "JudoHall$Parser" "whose" "I" ∈ wK := wKa0_in _ (List.mem_of_getElem? (i := 61) (by decide +kernel))
theorem wka62 : Cond.fieldLink RX5 160 "JudoHall$Parser" "sum" "I" ∈ wK := wKa0_in _ (List.mem_of_getElem? (i := 62) (by decide +kernel))
theorem wka63 : Cond.fieldLink RX5 84 "JudoHall$Parser" "comparison" "I" ∈ wK := wKa0_in _ (List.mem_of_getElem? (i := 63) (by decide +kernel))
theorem wka67 : Cond.fieldLink RX8 9 "JudoHall$Roll" "book" "LJudoHall$Book;" ∈ wK := wKa0_in _ (List.mem_of_getElem? (i := 67) (by decide +kernel))
theorem wka73 : Cond.fieldLink RX2 9 "JudoHall$Drawer" "book" "LJudoHall$Book;" ∈ wK := wKa0_in _ (List.mem_of_getElem? (i := 73) (by decide +kernel))
theorem wka74 : Cond.fieldLink RX2 20 "JudoHall$Drawer" "row" "LJudoHall$Row;" ∈ wK := wKa0_in _ (List.mem_of_getElem? (i := 74) (by decide +kernel))
theorem wka75 : Cond.fieldLink RX2 24 "JudoHall$Drawer" "others" "LJudoHall$Row;" ∈ wK := wKa0_in _ (List.mem_of_getElem? (i := 75) (by decide +kernel))
theorem wka81 : Cond.fieldLink RX0 11 "JudoHall$Board" "book" "LJudoHall$Book;" ∈ wK := wKa0_in _ (List.mem_of_getElem? (i := 81) (by decide +kernel))
theorem wka82 : Cond.fieldLink RX0 20 "JudoHall$Board" "white" "LJudoHall$Row;" ∈ wK := wKa0_in _ (List.mem_of_getElem? (i := 82) (by decide +kernel))
theorem wka83 : Cond.fieldLink RX0 24 "JudoHall$Board" "blue" "LJudoHall$Row;" ∈ wK := wKa0_in _ (List.mem_of_getElem? (i := 83) (by decide +kernel))
theorem wka84 : Cond.fieldLink RX0 27 "JudoHall$Board" "winner" "LJudoHall$Row;" ∈ wK := wKa0_in _ (List.mem_of_getElem? (i := 84) (by decide +kernel))
theorem wka85 : Cond.fieldLink RX0 30 "JudoHall$Board" "state" "LJudoHall$Row;" ∈ wK := wKa0_in _ (List.mem_of_getElem? (i := 85) (by decide +kernel))
theorem wka86 : Cond.fieldLink RX0 33 "JudoHall$Board" "lost" "LJudoHall$Row;" ∈ wK := wKa0_in _ (List.mem_of_getElem? (i := 86) (by decide +kernel))
theorem wka92 : Cond.fieldLink RX3 9 "JudoHall$Floor" "book" "LJudoHall$Book;" ∈ wK := wKa0_in _ (List.mem_of_getElem? (i := 92) (by decide +kernel))
theorem wka93 : Cond.fieldLink RX3 15 "JudoHall$Floor" "board" "LJudoHall$Board;" ∈ wK := wKa0_in _ (List.mem_of_getElem? (i := 93) (by decide +kernel))
theorem wka94 : Cond.fieldLink RX3 24 "JudoHall$Floor" "stack" "LJudoHall$Row;" ∈ wK := wKa0_in _ (List.mem_of_getElem? (i := 94) (by decide +kernel))
theorem wka95 : Cond.fieldLink RX3 97 "JudoHall$Floor" "top" "I" ∈ wK := wKa0_in _ (List.mem_of_getElem? (i := 95) (by decide +kernel))
theorem wka101 : Cond.fieldLink RX7 9 "JudoHall$Podium" "book" "LJudoHall$Book;" ∈ wK := wKa0_in _ (List.mem_of_getElem? (i := 101) (by decide +kernel))
theorem wka102 : Cond.fieldLink RX7 15 "JudoHall$Podium" "board" "LJudoHall$Board;" ∈ wK := wKa0_in _ (List.mem_of_getElem? (i := 102) (by decide +kernel))
theorem wka103 : Cond.fieldLink RX7 24 "JudoHall$Podium" "wins" "LJudoHall$Row;" ∈ wK := wKa0_in _ (List.mem_of_getElem? (i := 103) (by decide +kernel))
theorem wka104 : Cond.fieldLink RX7 28 "JudoHall$Podium" "sums" "LJudoHall$Row;" ∈ wK := wKa0_in _ (List.mem_of_getElem? (i := 104) (by decide +kernel))
theorem wka110 : Cond.fieldLink RX6 9 "JudoHall$Planner" "book" "LJudoHall$Book;" ∈ wK := wKa0_in _ (List.mem_of_getElem? (i := 110) (by decide +kernel))
theorem wka111 : Cond.fieldLink RX6 15 "JudoHall$Planner" "board" "LJudoHall$Board;" ∈ wK := wKa0_in _ (List.mem_of_getElem? (i := 111) (by decide +kernel))
theorem wka112 : Cond.fieldLink RX6 26 "JudoHall$Planner" "order" "LJudoHall$Row;" ∈ wK := wKa0_in _ (List.mem_of_getElem? (i := 112) (by decide +kernel))
theorem wka113 : Cond.fieldLink RX6 30 "JudoHall$Planner" "ends" "LJudoHall$Row;" ∈ wK := wKa0_in _ (List.mem_of_getElem? (i := 113) (by decide +kernel))
theorem wka114 : Cond.fieldLink RX6 33 "JudoHall$Planner" "matFree" "LJudoHall$Row;" ∈ wK := wKa0_in _ (List.mem_of_getElem? (i := 114) (by decide +kernel))
theorem wka115 : Cond.fieldLink RX6 36 "JudoHall$Planner" "fighterFree" "LJudoHall$Row;" ∈ wK := wKa0_in _ (List.mem_of_getElem? (i := 115) (by decide +kernel))
theorem wka116 : Cond.fieldLink RX6 39 "JudoHall$Planner" "earliest" "LJudoHall$Row;" ∈ wK := wKa0_in _ (List.mem_of_getElem? (i := 116) (by decide +kernel))
theorem wka117 : Cond.fieldLink RX6 42 "JudoHall$Planner" "mats" "LJudoHall$Row;" ∈ wK := wKa0_in _ (List.mem_of_getElem? (i := 117) (by decide +kernel))
theorem wka118 : Cond.fieldLink RX6 45 "JudoHall$Planner" "begins" "LJudoHall$Row;" ∈ wK := wKa0_in _ (List.mem_of_getElem? (i := 118) (by decide +kernel))
theorem wka119 : Cond.fieldLink RX6 48 "JudoHall$Planner" "newMats" "LJudoHall$Row;" ∈ wK := wKa0_in _ (List.mem_of_getElem? (i := 119) (by decide +kernel))
theorem wka120 : Cond.fieldLink RX6 51 "JudoHall$Planner" "newBegins" "LJudoHall$Row;" ∈ wK := wKa0_in _ (List.mem_of_getElem? (i := 120) (by decide +kernel))
theorem wka121 : Cond.fieldLink RX6 84 "JudoHall$Planner" "ordered" "I" ∈ wK := wKa0_in _ (List.mem_of_getElem? (i := 121) (by decide +kernel))
theorem wka122 : Cond.fieldLink RX6 62 "JudoHall$Planner" "length" "I" ∈ wK := wKa0_in _ (List.mem_of_getElem? (i := 122) (by decide +kernel))
theorem wka123 : Cond.fieldLink RX6 102 "JudoHall$Planner" "lastEnd" "I" ∈ wK := wKa0_in _ (List.mem_of_getElem? (i := 123) (by decide +kernel))
theorem wka124 : Cond.classLink RX11 78 RX4 ∈ wK := wKa0_in _ (List.mem_of_getElem? (i := 124) (by decide +kernel))
theorem wka128 : Cond.fieldLink RX11 10 "JudoHall" "book" "LJudoHall$Book;" ∈ wK := wKa0_in _ (List.mem_of_getElem? (i := 128) (by decide +kernel))
theorem wka129 : Cond.fieldLink RX11 19 "JudoHall" "tape" "LJudoHall$Tape;" ∈ wK := wKa0_in _ (List.mem_of_getElem? (i := 129) (by decide +kernel))
theorem wka130 : Cond.fieldLink RX11 28 "JudoHall" "parser" "LJudoHall$Parser;" ∈ wK := wKa0_in _ (List.mem_of_getElem? (i := 130) (by decide +kernel))
theorem wka131 : Cond.fieldLink RX11 37 "JudoHall" "roll" "LJudoHall$Roll;" ∈ wK := wKa0_in _ (List.mem_of_getElem? (i := 131) (by decide +kernel))
theorem wka132 : Cond.fieldLink RX11 44 "JudoHall" "drawer" "LJudoHall$Drawer;" ∈ wK := wKa0_in _ (List.mem_of_getElem? (i := 132) (by decide +kernel))
theorem wka133 : Cond.fieldLink RX11 51 "JudoHall" "board" "LJudoHall$Board;" ∈ wK := wKa0_in _ (List.mem_of_getElem? (i := 133) (by decide +kernel))
theorem wka134 : Cond.fieldLink RX11 60 "JudoHall" "floor" "LJudoHall$Floor;" ∈ wK := wKa0_in _ (List.mem_of_getElem? (i := 134) (by decide +kernel))
theorem wka135 : Cond.fieldLink RX11 67 "JudoHall" "podium" "LJudoHall$Podium;" ∈ wK := wKa0_in _ (List.mem_of_getElem? (i := 135) (by decide +kernel))
theorem wka136 : Cond.fieldLink RX11 74 "JudoHall" "planner" "LJudoHall$Planner;" ∈ wK := wKa0_in _ (List.mem_of_getElem? (i := 136) (by decide +kernel))
theorem wka137 : Cond.fieldLink RX11 81 "JudoHall" "noLaws" "LJudoHall$Laws;" ∈ wK := wKa0_in _ (List.mem_of_getElem? (i := 137) (by decide +kernel))
theorem wka138 : Cond.fieldLink RX11 88 "JudoHall" "told" "Ljava/util/ArrayList;" ∈ wK := wKa0_in _ (List.mem_of_getElem? (i := 138) (by decide +kernel))
theorem wka139 : Cond.methodLink RX11 96 yX10_push ∈ wK := wKa0_in _ (List.mem_of_getElem? (i := 139) (by decide +kernel))
theorem wka140 : Cond.methodLink RX10 22 yX9_set ∈ wK := wKa0_in _ (List.mem_of_getElem? (i := 140) (by decide +kernel))
theorem wka141 : Cond.methodLink RX11 100 yX3_openFights ∈ wK := wKa0_in _ (List.mem_of_getElem? (i := 141) (by decide +kernel))
theorem wka142 : Cond.methodLink RX3 41 yX3_isFree ∈ wK := wKa0_in _ (List.mem_of_getElem? (i := 142) (by decide +kernel))
theorem wka143 : Cond.methodLink RX3 38 yX3_on ∈ wK := wKa0_in _ (List.mem_of_getElem? (i := 143) (by decide +kernel))
theorem wka144 : Cond.methodLink RX3 28 yX1_ofMat ∈ wK := wKa0_in _ (List.mem_of_getElem? (i := 144) (by decide +kernel))
theorem wka145 : Cond.methodLink RX3 34 yX1_at ∈ wK := wKa0_in _ (List.mem_of_getElem? (i := 145) (by decide +kernel))
theorem wka146 : Cond.methodLink RX11 104 yX5_readLaws ∈ wK := wKa0_in _ (List.mem_of_getElem? (i := 146) (by decide +kernel))
theorem wka147 : Cond.methodLink RX5 41 yX4_clear ∈ wK := wKa0_in _ (List.mem_of_getElem? (i := 147) (by decide +kernel))
theorem wka148 : Cond.methodLink RX5 44 yX10_rewind ∈ wK := wKa0_in _ (List.mem_of_getElem? (i := 148) (by decide +kernel))
theorem wka149 : Cond.methodLink RX5 64 yX10_readToken ∈ wK := wKa0_in _ (List.mem_of_getElem? (i := 149) (by decide +kernel))
theorem wka150 : Cond.methodLink RX10 28 yX9_get ∈ wK := wKa1_in _ (List.mem_of_getElem? (i := 0) (by decide +kernel))
theorem wka151 : Cond.methodLink RX10 32 yX10_isBlank ∈ wK := wKa1_in _ (List.mem_of_getElem? (i := 1) (by decide +kernel))
theorem wka152 : Cond.methodLink RX10 42 yX10_isLetter ∈ wK := wKa1_in _ (List.mem_of_getElem? (i := 2) (by decide +kernel))
theorem wka153 : Cond.methodLink RX10 45 yX10_readWord ∈ wK := wKa1_in _ (List.mem_of_getElem? (i := 3) (by decide +kernel))
theorem wka154 : Cond.methodLink RX10 57 yX10_wordKind ∈ wK := wKa1_in _ (List.mem_of_getElem? (i := 4) (by decide +kernel))
theorem wka155 : Cond.methodLink RX10 70 yX10_spells ∈ wK := wKa1_in _ (List.mem_of_getElem? (i := 5) (by decide +kernel))
theorem wka156 : Cond.methodLink RX10 98 yJ0_length_8abf5 ∈ wK := wKa1_in _ (List.mem_of_getElem? (i := 6) (by decide +kernel))
theorem wka157 : Cond.methodLink RX10 102 yJ0_charAt_5068e ∈ wK := wKa1_in _ (List.mem_of_getElem? (i := 7) (by decide +kernel))
theorem wka158 : Cond.methodLink RX10 48 yX10_isDigit ∈ wK := wKa1_in _ (List.mem_of_getElem? (i := 8) (by decide +kernel))
theorem wka159 : Cond.methodLink RX10 51 yX10_readNumber ∈ wK := wKa1_in _ (List.mem_of_getElem? (i := 9) (by decide +kernel))
theorem wka160 : Cond.methodLink RX10 54 yX10_markOf ∈ wK := wKa1_in _ (List.mem_of_getElem? (i := 10) (by decide +kernel))
theorem wka161 : Cond.methodLink RX10 64 yX10_takeEqual ∈ wK := wKa1_in _ (List.mem_of_getElem? (i := 11) (by decide +kernel))
theorem wka162 : Cond.methodLink RX5 70 yX5_take ∈ wK := wKa1_in _ (List.mem_of_getElem? (i := 12) (by decide +kernel))
theorem wka163 : Cond.fieldLink RX5 77 "JudoHall$Parser" "HEAD" "[I" ∈ wK := wKa1_in _ (List.mem_of_getElem? (i := 13) (by decide +kernel))
theorem wka164 : Cond.methodLink RX5 81 yX5_takeHead ∈ wK := wKa1_in _ (List.mem_of_getElem? (i := 14) (by decide +kernel))
theorem wka165 : Cond.methodLink RX5 96 yX5_goIf ∈ wK := wKa1_in _ (List.mem_of_getElem? (i := 15) (by decide +kernel))
theorem wka166 : Cond.methodLink RX5 118 yX5_fail ∈ wK := wKa1_in _ (List.mem_of_getElem? (i := 16) (by decide +kernel))
theorem wka167 : Cond.methodLink RX5 87 yX5_endComparison ∈ wK := wKa1_in _ (List.mem_of_getElem? (i := 17) (by decide +kernel))
theorem wka168 : Cond.methodLink RX5 169 yX4_emit ∈ wK := wKa1_in _ (List.mem_of_getElem? (i := 18) (by decide +kernel))
theorem wka169 : Cond.methodLink RX4 43 yX9_set ∈ wK := wKa1_in _ (List.mem_of_getElem? (i := 19) (by decide +kernel))
theorem wka170 : Cond.methodLink RX5 172 yX5_closeNots ∈ wK := wKa1_in _ (List.mem_of_getElem? (i := 20) (by decide +kernel))
theorem wka171 : Cond.methodLink RX5 152 yX9_get ∈ wK := wKa1_in _ (List.mem_of_getElem? (i := 21) (by decide +kernel))
theorem wka172 : Cond.methodLink RX5 90 yX5_takeSignOrLine ∈ wK := wKa1_in _ (List.mem_of_getElem? (i := 22) (by decide +kernel))
theorem wka173 : Cond.methodLink RX5 133 yX5_goIfRoom ∈ wK := wKa1_in _ (List.mem_of_getElem? (i := 23) (by decide +kernel))
theorem wka174 : Cond.methodLink RX5 142 yX9_set ∈ wK := wKa1_in _ (List.mem_of_getElem? (i := 24) (by decide +kernel))
theorem wka175 : Cond.methodLink RX5 93 yX5_takeSignName ∈ wK := wKa1_in _ (List.mem_of_getElem? (i := 25) (by decide +kernel))
theorem wka176 : Cond.methodLink RX5 145 yX5_signOfToken ∈ wK := wKa1_in _ (List.mem_of_getElem? (i := 26) (by decide +kernel))
theorem wka177 : Cond.methodLink RX5 156 yX10_isWordAt ∈ wK := wKa1_in _ (List.mem_of_getElem? (i := 27) (by decide +kernel))
theorem wka178 : Cond.methodLink RX5 149 yX10_tokenSize ∈ wK := wKa1_in _ (List.mem_of_getElem? (i := 28) (by decide +kernel))
theorem wka179 : Cond.methodLink RX5 100 yX5_takePoints ∈ wK := wKa1_in _ (List.mem_of_getElem? (i := 29) (by decide +kernel))
theorem wka180 : Cond.methodLink RX5 103 yX5_takeCond ∈ wK := wKa1_in _ (List.mem_of_getElem? (i := 30) (by decide +kernel))
theorem wka181 : Cond.methodLink RX5 163 yX5_takePart ∈ wK := wKa1_in _ (List.mem_of_getElem? (i := 31) (by decide +kernel))
theorem wka182 : Cond.methodLink RX5 166 yX5_openThing ∈ wK := wKa1_in _ (List.mem_of_getElem? (i := 32) (by decide +kernel))
theorem wka183 : Cond.methodLink RX5 178 yX5_hold ∈ wK := wKa1_in _ (List.mem_of_getElem? (i := 33) (by decide +kernel))
theorem wka184 : Cond.methodLink RX5 106 yX5_takeTerm ∈ wK := wKa1_in _ (List.mem_of_getElem? (i := 34) (by decide +kernel))
theorem wka185 : Cond.methodLink RX5 184 yX5_emitTerm ∈ wK := wKa1_in _ (List.mem_of_getElem? (i := 35) (by decide +kernel))
theorem wka186 : Cond.methodLink RX5 109 yX5_takeTermName ∈ wK := wKa1_in _ (List.mem_of_getElem? (i := 36) (by decide +kernel))
theorem wka187 : Cond.methodLink RX5 112 yX5_takeBehindTerm ∈ wK := wKa1_in _ (List.mem_of_getElem? (i := 37) (by decide +kernel))
theorem wka188 : Cond.methodLink RX5 115 yX5_takeBehindCond ∈ wK := wKa1_in _ (List.mem_of_getElem? (i := 38) (by decide +kernel))
theorem wka189 : Cond.methodLink RX5 187 yX5_emitBinders ∈ wK := wKa1_in _ (List.mem_of_getElem? (i := 39) (by decide +kernel))
theorem wka190 : Cond.methodLink RX5 190 yX5_closeBracket ∈ wK := wKa1_in _ (List.mem_of_getElem? (i := 40) (by decide +kernel))
theorem wka191 : Cond.methodLink RX5 193 yX4_endLine ∈ wK := wKa1_in _ (List.mem_of_getElem? (i := 41) (by decide +kernel))
theorem wka192 : Cond.methodLink RX11 108 yX1_isFull ∈ wK := wKa1_in _ (List.mem_of_getElem? (i := 42) (by decide +kernel))
theorem wka193 : Cond.methodLink RX11 111 yX1_openEntry ∈ wK := wKa1_in _ (List.mem_of_getElem? (i := 43) (by decide +kernel))
theorem wka194 : Cond.methodLink RX1 58 yX9_set ∈ wK := wKa1_in _ (List.mem_of_getElem? (i := 44) (by decide +kernel))
theorem wka195 : Cond.methodLink RX11 114 yX5_handOver ∈ wK := wKa1_in _ (List.mem_of_getElem? (i := 45) (by decide +kernel))
theorem wka196 : Cond.methodLink RX11 118 yX11_keepLaws ∈ wK := wKa1_in _ (List.mem_of_getElem? (i := 46) (by decide +kernel))
theorem wka197 : Cond.methodLink RX11 134 yX1_at ∈ wK := wKa1_in _ (List.mem_of_getElem? (i := 47) (by decide +kernel))
theorem wka198 : Cond.methodLink RX11 138 yJx4a65c_size_8abf5 ∈ wK := wKa1_in _ (List.mem_of_getElem? (i := 48) (by decide +kernel))
theorem wka199 : Cond.methodLink RX11 141 yJx4a65c_set_bcc79 ∈ wK := wKa1_in _ (List.mem_of_getElem? (i := 49) (by decide +kernel))
theorem wka200 : Cond.methodLink RX11 145 yJx4a65c_add_9ea2d ∈ wK := wKa1_in _ (List.mem_of_getElem? (i := 50) (by decide +kernel))
theorem wka201 : Cond.methodLink RX11 149 yX1_put ∈ wK := wKa1_in _ (List.mem_of_getElem? (i := 51) (by decide +kernel))
theorem wka202 : Cond.methodLink RX1 46 yX1_at ∈ wK := wKa1_in _ (List.mem_of_getElem? (i := 52) (by decide +kernel))
theorem wka203 : Cond.methodLink RX1 54 yX9_makeRoomFor ∈ wK := wKa1_in _ (List.mem_of_getElem? (i := 53) (by decide +kernel))
theorem wka205 : Cond.methodLink RX11 122 yX11_lawsNow ∈ wK := wKa1_in _ (List.mem_of_getElem? (i := 55) (by decide +kernel))
theorem wka206 : Cond.methodLink RX11 153 yJx4a65c_get_915e3 ∈ wK := wKa1_in _ (List.mem_of_getElem? (i := 56) (by decide +kernel))
theorem wka207 : Cond.methodLink RX11 157 yX11_isClass ∈ wK := wKa1_in _ (List.mem_of_getElem? (i := 57) (by decide +kernel))
theorem wka208 : Cond.methodLink RX11 161 yX11_isGrams ∈ wK := wKa1_in _ (List.mem_of_getElem? (i := 58) (by decide +kernel))
theorem wka209 : Cond.constant RX11 323 (200000) ∈ wK := wKa1_in _ (List.mem_of_getElem? (i := 59) (by decide +kernel))
theorem wka210 : Cond.methodLink RX11 164 yX0_isDrawn ∈ wK := wKa1_in _ (List.mem_of_getElem? (i := 60) (by decide +kernel))
theorem wka211 : Cond.methodLink RX0 46 yX0_kindOf ∈ wK := wKa1_in _ (List.mem_of_getElem? (i := 61) (by decide +kernel))
theorem wka212 : Cond.methodLink RX0 38 yX1_ofClass ∈ wK := wKa1_in _ (List.mem_of_getElem? (i := 62) (by decide +kernel))
theorem wka213 : Cond.methodLink RX0 42 yX1_at ∈ wK := wKa1_in _ (List.mem_of_getElem? (i := 63) (by decide +kernel))
theorem wka214 : Cond.methodLink RX11 167 yX8_wasAnyAtScales ∈ wK := wKa1_in _ (List.mem_of_getElem? (i := 64) (by decide +kernel))
theorem wka215 : Cond.methodLink RX8 21 yX8_people ∈ wK := wKa1_in _ (List.mem_of_getElem? (i := 65) (by decide +kernel))
theorem wka216 : Cond.methodLink RX8 17 yX1_at ∈ wK := wKa1_in _ (List.mem_of_getElem? (i := 66) (by decide +kernel))
theorem wka217 : Cond.methodLink RX8 33 yX8_classOf ∈ wK := wKa1_in _ (List.mem_of_getElem? (i := 67) (by decide +kernel))
theorem wka218 : Cond.methodLink RX8 25 yX1_ofFighter ∈ wK := wKa1_in _ (List.mem_of_getElem? (i := 68) (by decide +kernel))
theorem wka219 : Cond.methodLink RX11 170 yX1_ofClass ∈ wK := wKa1_in _ (List.mem_of_getElem? (i := 69) (by decide +kernel))
theorem wka220 : Cond.methodLink RX11 174 yX8_people ∈ wK := wKa1_in _ (List.mem_of_getElem? (i := 70) (by decide +kernel))
theorem wka221 : Cond.methodLink RX11 177 yX8_add ∈ wK := wKa1_in _ (List.mem_of_getElem? (i := 71) (by decide +kernel))
theorem wka222 : Cond.methodLink RX8 29 yX1_put ∈ wK := wKa1_in _ (List.mem_of_getElem? (i := 72) (by decide +kernel))
theorem wka223 : Cond.methodLink RX11 179 yX8_has ∈ wK := wKa1_in _ (List.mem_of_getElem? (i := 73) (by decide +kernel))
theorem wka224 : Cond.methodLink RX11 182 yX8_classOf ∈ wK := wKa1_in _ (List.mem_of_getElem? (i := 74) (by decide +kernel))
theorem wka225 : Cond.methodLink RX11 185 yX8_putOnScales ∈ wK := wKa1_in _ (List.mem_of_getElem? (i := 75) (by decide +kernel))
theorem wka226 : Cond.methodLink RX8 36 yX1_ofClass ∈ wK := wKa1_in _ (List.mem_of_getElem? (i := 76) (by decide +kernel))
theorem wka227 : Cond.methodLink RX11 189 yX8_isSeedOfAnother ∈ wK := wKa1_in _ (List.mem_of_getElem? (i := 77) (by decide +kernel))
theorem wka228 : Cond.methodLink RX11 192 yX1_ofFighter ∈ wK := wKa1_in _ (List.mem_of_getElem? (i := 78) (by decide +kernel))
theorem wka229 : Cond.methodLink RX11 195 yX8_weighedOf ∈ wK := wKa1_in _ (List.mem_of_getElem? (i := 79) (by decide +kernel))
theorem wka230 : Cond.methodLink RX8 39 yX8_isWeighed ∈ wK := wKa1_in _ (List.mem_of_getElem? (i := 80) (by decide +kernel))
theorem wka231 : Cond.methodLink RX11 198 yX2_placeAll ∈ wK := wKa1_in _ (List.mem_of_getElem? (i := 81) (by decide +kernel))
theorem wka232 : Cond.methodLink RX2 27 yX2_placesFor ∈ wK := wKa1_in _ (List.mem_of_getElem? (i := 82) (by decide +kernel))
theorem wka233 : Cond.methodLink RX2 33 yX1_ofClass ∈ wK := wKa1_in _ (List.mem_of_getElem? (i := 83) (by decide +kernel))
theorem wka234 : Cond.methodLink RX2 39 yX1_put ∈ wK := wKa1_in _ (List.mem_of_getElem? (i := 84) (by decide +kernel))
theorem wka235 : Cond.methodLink RX2 42 yX2_placePool ∈ wK := wKa1_in _ (List.mem_of_getElem? (i := 85) (by decide +kernel))
theorem wka236 : Cond.methodLink RX2 55 yX1_at ∈ wK := wKa1_in _ (List.mem_of_getElem? (i := 86) (by decide +kernel))
theorem wka237 : Cond.methodLink RX2 58 yX8_isWeighed ∈ wK := wKa1_in _ (List.mem_of_getElem? (i := 87) (by decide +kernel))
theorem wka238 : Cond.methodLink RX2 64 yX2_placeOne ∈ wK := wKa1_in _ (List.mem_of_getElem? (i := 88) (by decide +kernel))
theorem wka239 : Cond.methodLink RX2 68 yX1_ofFighter ∈ wK := wKa1_in _ (List.mem_of_getElem? (i := 89) (by decide +kernel))
theorem wka240 : Cond.methodLink RX2 46 yX2_makeRow ∈ wK := wKa1_in _ (List.mem_of_getElem? (i := 90) (by decide +kernel))
theorem wka241 : Cond.methodLink RX2 71 yX9_set ∈ wK := wKa1_in _ (List.mem_of_getElem? (i := 91) (by decide +kernel))
theorem wka242 : Cond.methodLink RX2 74 yX9_get ∈ wK := wKa1_in _ (List.mem_of_getElem? (i := 92) (by decide +kernel))
theorem wka243 : Cond.methodLink RX2 49 yX2_placeSeeds ∈ wK := wKa1_in _ (List.mem_of_getElem? (i := 93) (by decide +kernel))
theorem wka244 : Cond.methodLink RX2 52 yX2_placeOthers ∈ wK := wKa1_in _ (List.mem_of_getElem? (i := 94) (by decide +kernel))
theorem wka245 : Cond.methodLink RX2 77 yX9_fill ∈ wK := wKa1_in _ (List.mem_of_getElem? (i := 95) (by decide +kernel))
theorem wka246 : Cond.methodLink RX2 80 yX2_isSeed ∈ wK := wKa1_in _ (List.mem_of_getElem? (i := 96) (by decide +kernel))
theorem wka247 : Cond.methodLink RX2 84 yX2_largestClub ∈ wK := wKa1_in _ (List.mem_of_getElem? (i := 97) (by decide +kernel))
theorem wka248 : Cond.methodLink RX2 88 yX2_placeClub ∈ wK := wKa1_in _ (List.mem_of_getElem? (i := 98) (by decide +kernel))
theorem wka249 : Cond.methodLink RX2 91 yX2_bestPlace ∈ wK := wKa1_in _ (List.mem_of_getElem? (i := 99) (by decide +kernel))
theorem wka250 : Cond.methodLink RX2 95 yX2_firstMeeting ∈ wK := wKa1_in _ (List.mem_of_getElem? (i := 100) (by decide +kernel))
theorem wka251 : Cond.methodLink RX2 98 yX2_meetingRound ∈ wK := wKa1_in _ (List.mem_of_getElem? (i := 101) (by decide +kernel))
theorem wka252 : Cond.methodLink RX2 101 Lib.Math.min.name ∈ wK := wKa1_in _ (List.mem_of_getElem? (i := 102) (by decide +kernel))
theorem wka253 : Cond.methodLink RX11 201 yX0_settle ∈ wK := wKa1_in _ (List.mem_of_getElem? (i := 103) (by decide +kernel))
theorem wka254 : Cond.methodLink RX0 49 yX0_sizeOf ∈ wK := wKa1_in _ (List.mem_of_getElem? (i := 104) (by decide +kernel))
theorem wka255 : Cond.methodLink RX0 80 yX0_settlePool ∈ wK := wKa1_in _ (List.mem_of_getElem? (i := 105) (by decide +kernel))
theorem wka256 : Cond.methodLink RX0 90 yX0_settleFight ∈ wK := wKa1_in _ (List.mem_of_getElem? (i := 106) (by decide +kernel))
theorem wka257 : Cond.methodLink RX0 110 yX1_ofFight ∈ wK := wKa1_in _ (List.mem_of_getElem? (i := 107) (by decide +kernel))
theorem wka258 : Cond.methodLink RX1 43 yX0_slot ∈ wK := wKa1_in _ (List.mem_of_getElem? (i := 108) (by decide +kernel))
theorem wka259 : Cond.methodLink RX0 62 yX0_slot ∈ wK := wKa1_in _ (List.mem_of_getElem? (i := 109) (by decide +kernel))
theorem wka260 : Cond.methodLink RX0 107 yX9_set ∈ wK := wKa1_in _ (List.mem_of_getElem? (i := 110) (by decide +kernel))
theorem wka261 : Cond.methodLink RX0 83 yX0_settleTree ∈ wK := wKa1_in _ (List.mem_of_getElem? (i := 111) (by decide +kernel))
theorem wka262 : Cond.methodLink RX0 94 yX0_settleWalk ∈ wK := wKa1_in _ (List.mem_of_getElem? (i := 112) (by decide +kernel))
theorem wka263 : Cond.methodLink RX0 97 yX0_lowerBelow ∈ wK := wKa1_in _ (List.mem_of_getElem? (i := 113) (by decide +kernel))
theorem wka264 : Cond.methodLink RX0 68 yX0_winnerOf ∈ wK := wKa1_in _ (List.mem_of_getElem? (i := 114) (by decide +kernel))
theorem wka265 : Cond.methodLink RX0 65 yX9_get ∈ wK := wKa1_in _ (List.mem_of_getElem? (i := 115) (by decide +kernel))
theorem wka266 : Cond.methodLink RX0 86 yX0_settleLives ∈ wK := wKa1_in _ (List.mem_of_getElem? (i := 116) (by decide +kernel))
theorem wka267 : Cond.methodLink RX0 52 yX0_stepsOf ∈ wK := wKa1_in _ (List.mem_of_getElem? (i := 117) (by decide +kernel))
theorem wka268 : Cond.methodLink RX0 100 yX0_findLosersTo ∈ wK := wKa1_in _ (List.mem_of_getElem? (i := 118) (by decide +kernel))
theorem wka269 : Cond.methodLink RX0 103 yX9_fill ∈ wK := wKa1_in _ (List.mem_of_getElem? (i := 119) (by decide +kernel))
theorem wka270 : Cond.methodLink RX0 71 yX0_whiteOf ∈ wK := wKa1_in _ (List.mem_of_getElem? (i := 120) (by decide +kernel))
theorem wka271 : Cond.methodLink RX0 74 yX0_blueOf ∈ wK := wKa1_in _ (List.mem_of_getElem? (i := 121) (by decide +kernel))
theorem wka272 : Cond.methodLink RX11 204 yX0_fightsOf ∈ wK := wKa1_in _ (List.mem_of_getElem? (i := 122) (by decide +kernel))
theorem wka273 : Cond.methodLink RX11 207 yX8_fightersOf ∈ wK := wKa1_in _ (List.mem_of_getElem? (i := 123) (by decide +kernel))
theorem wka274 : Cond.methodLink RX11 210 yX0_kindOf ∈ wK := wKa1_in _ (List.mem_of_getElem? (i := 124) (by decide +kernel))
theorem wka275 : Cond.methodLink RX11 213 yX0_sizeOf ∈ wK := wKa1_in _ (List.mem_of_getElem? (i := 125) (by decide +kernel))
theorem wka276 : Cond.methodLink RX11 216 yX0_howMany ∈ wK := wKa1_in _ (List.mem_of_getElem? (i := 126) (by decide +kernel))
theorem wka277 : Cond.methodLink RX0 59 yX0_fightsOf ∈ wK := wKa1_in _ (List.mem_of_getElem? (i := 127) (by decide +kernel))
theorem wka278 : Cond.methodLink RX0 77 yX0_stateOf ∈ wK := wKa1_in _ (List.mem_of_getElem? (i := 128) (by decide +kernel))
theorem wka279 : Cond.methodLink RX11 219 yX0_onPlace ∈ wK := wKa1_in _ (List.mem_of_getElem? (i := 129) (by decide +kernel))
theorem wka280 : Cond.methodLink RX11 222 yX0_has ∈ wK := wKa1_in _ (List.mem_of_getElem? (i := 130) (by decide +kernel))
theorem wka281 : Cond.methodLink RX11 224 yX0_stateOf ∈ wK := wKa1_in _ (List.mem_of_getElem? (i := 131) (by decide +kernel))
theorem wka282 : Cond.methodLink RX11 227 yX0_whiteOf ∈ wK := wKa1_in _ (List.mem_of_getElem? (i := 132) (by decide +kernel))
theorem wka283 : Cond.methodLink RX11 230 yX0_blueOf ∈ wK := wKa1_in _ (List.mem_of_getElem? (i := 133) (by decide +kernel))
theorem wka284 : Cond.methodLink RX11 233 yX0_winnerOf ∈ wK := wKa1_in _ (List.mem_of_getElem? (i := 134) (by decide +kernel))
theorem wka285 : Cond.methodLink RX11 236 yX1_ofFight ∈ wK := wKa1_in _ (List.mem_of_getElem? (i := 135) (by decide +kernel))
theorem wka286 : Cond.methodLink RX11 240 yX11_isMat ∈ wK := wKa1_in _ (List.mem_of_getElem? (i := 136) (by decide +kernel))
theorem wka287 : Cond.methodLink RX11 243 yX3_isFree ∈ wK := wKa1_in _ (List.mem_of_getElem? (i := 137) (by decide +kernel))
theorem wka288 : Cond.methodLink RX11 246 yX3_isHeld ∈ wK := wKa1_in _ (List.mem_of_getElem? (i := 138) (by decide +kernel))
theorem wka289 : Cond.methodLink RX3 51 yX3_fighterOn ∈ wK := wKa1_in _ (List.mem_of_getElem? (i := 139) (by decide +kernel))
theorem wka290 : Cond.methodLink RX3 47 yX1_ofFight ∈ wK := wKa1_in _ (List.mem_of_getElem? (i := 140) (by decide +kernel))
theorem wka291 : Cond.methodLink RX3 54 yX1_ofFighter ∈ wK := wKa1_in _ (List.mem_of_getElem? (i := 141) (by decide +kernel))
theorem wka292 : Cond.methodLink RX11 252 yX3_start ∈ wK := wKa1_in _ (List.mem_of_getElem? (i := 142) (by decide +kernel))
theorem wka293 : Cond.methodLink RX3 59 yX1_put ∈ wK := wKa1_in _ (List.mem_of_getElem? (i := 143) (by decide +kernel))
theorem wka294 : Cond.methodLink RX3 62 yX0_whiteOf ∈ wK := wKa1_in _ (List.mem_of_getElem? (i := 144) (by decide +kernel))
theorem wka295 : Cond.methodLink RX3 65 yX0_blueOf ∈ wK := wKa1_in _ (List.mem_of_getElem? (i := 145) (by decide +kernel))
theorem wka296 : Cond.methodLink RX11 256 yX3_turnOver ∈ wK := wKa1_in _ (List.mem_of_getElem? (i := 146) (by decide +kernel))
theorem wka297 : Cond.methodLink RX11 260 yX11_isSide ∈ wK := wKa1_in _ (List.mem_of_getElem? (i := 147) (by decide +kernel))
theorem wka298 : Cond.methodLink RX11 266 yX3_goesOn ∈ wK := wKa1_in _ (List.mem_of_getElem? (i := 148) (by decide +kernel))
theorem wka299 : Cond.methodLink RX11 269 yX3_giveSign ∈ wK := wKa1_in _ (List.mem_of_getElem? (i := 149) (by decide +kernel))
theorem wka300 : Cond.methodLink RX3 72 yX3_signsOf ∈ wK := wKa2_in _ (List.mem_of_getElem? (i := 0) (by decide +kernel))
theorem wka301 : Cond.methodLink RX3 75 Lib.Math.min.name ∈ wK := wKa2_in _ (List.mem_of_getElem? (i := 1) (by decide +kernel))
theorem wka302 : Cond.methodLink RX11 273 yX3_ask ∈ wK := wKa2_in _ (List.mem_of_getElem? (i := 2) (by decide +kernel))
theorem wka303 : Cond.methodLink RX3 83 yX3_holds ∈ wK := wKa2_in _ (List.mem_of_getElem? (i := 3) (by decide +kernel))
theorem wka304 : Cond.methodLink RX3 100 yX4_startOf ∈ wK := wKa2_in _ (List.mem_of_getElem? (i := 4) (by decide +kernel))
theorem wka305 : Cond.methodLink RX4 46 yX9_get ∈ wK := wKa2_in _ (List.mem_of_getElem? (i := 5) (by decide +kernel))
theorem wka306 : Cond.methodLink RX3 90 yX9_get ∈ wK := wKa2_in _ (List.mem_of_getElem? (i := 6) (by decide +kernel))
theorem wka307 : Cond.methodLink RX3 106 yX4_kindAt ∈ wK := wKa2_in _ (List.mem_of_getElem? (i := 7) (by decide +kernel))
theorem wka308 : Cond.methodLink RX3 111 yX3_pop ∈ wK := wKa2_in _ (List.mem_of_getElem? (i := 8) (by decide +kernel))
theorem wka309 : Cond.methodLink RX3 131 Lib.Math.max.name ∈ wK := wKa2_in _ (List.mem_of_getElem? (i := 9) (by decide +kernel))
theorem wka310 : Cond.methodLink RX3 115 yX3_push ∈ wK := wKa2_in _ (List.mem_of_getElem? (i := 10) (by decide +kernel))
theorem wka311 : Cond.methodLink RX3 128 yX9_set ∈ wK := wKa2_in _ (List.mem_of_getElem? (i := 11) (by decide +kernel))
theorem wka312 : Cond.methodLink RX3 119 yX3_workOn ∈ wK := wKa2_in _ (List.mem_of_getElem? (i := 12) (by decide +kernel))
theorem wka313 : Cond.methodLink RX3 122 yX4_valueAt ∈ wK := wKa2_in _ (List.mem_of_getElem? (i := 13) (by decide +kernel))
theorem wka314 : Cond.methodLink RX3 125 yX3_valueOf ∈ wK := wKa2_in _ (List.mem_of_getElem? (i := 14) (by decide +kernel))
theorem wka315 : Cond.methodLink RX3 93 yX3_finish ∈ wK := wKa2_in _ (List.mem_of_getElem? (i := 15) (by decide +kernel))
theorem wka316 : Cond.methodLink RX3 134 yX3_leave ∈ wK := wKa2_in _ (List.mem_of_getElem? (i := 16) (by decide +kernel))
theorem wka317 : Cond.methodLink RX11 277 yX3_classOn ∈ wK := wKa2_in _ (List.mem_of_getElem? (i := 17) (by decide +kernel))
theorem wka318 : Cond.methodLink RX11 280 yX1_ofMat ∈ wK := wKa2_in _ (List.mem_of_getElem? (i := 18) (by decide +kernel))
theorem wka319 : Cond.methodLink RX11 283 yX3_letPass ∈ wK := wKa2_in _ (List.mem_of_getElem? (i := 19) (by decide +kernel))
theorem wka320 : Cond.methodLink RX11 286 yX3_waits ∈ wK := wKa2_in _ (List.mem_of_getElem? (i := 20) (by decide +kernel))
theorem wka321 : Cond.methodLink RX11 289 yX3_finish ∈ wK := wKa2_in _ (List.mem_of_getElem? (i := 21) (by decide +kernel))
theorem wka322 : Cond.methodLink RX11 293 yX11_signsOn ∈ wK := wKa2_in _ (List.mem_of_getElem? (i := 22) (by decide +kernel))
theorem wka323 : Cond.methodLink RX11 296 yX3_signsOf ∈ wK := wKa2_in _ (List.mem_of_getElem? (i := 23) (by decide +kernel))
theorem wka324 : Cond.methodLink RX11 299 yX3_strikeFrom ∈ wK := wKa2_in _ (List.mem_of_getElem? (i := 24) (by decide +kernel))
theorem wka325 : Cond.methodLink RX3 137 yX3_drop ∈ wK := wKa2_in _ (List.mem_of_getElem? (i := 25) (by decide +kernel))
theorem wka326 : Cond.methodLink RX3 140 yX0_settle ∈ wK := wKa2_in _ (List.mem_of_getElem? (i := 26) (by decide +kernel))
theorem wka327 : Cond.methodLink RX3 143 yX0_firstStale ∈ wK := wKa2_in _ (List.mem_of_getElem? (i := 27) (by decide +kernel))
theorem wka328 : Cond.methodLink RX11 302 yX7_ofPool ∈ wK := wKa2_in _ (List.mem_of_getElem? (i := 28) (by decide +kernel))
theorem wka329 : Cond.methodLink RX7 47 yX0_howMany ∈ wK := wKa2_in _ (List.mem_of_getElem? (i := 29) (by decide +kernel))
theorem wka330 : Cond.methodLink RX7 37 yX0_fightsOf ∈ wK := wKa2_in _ (List.mem_of_getElem? (i := 30) (by decide +kernel))
theorem wka331 : Cond.methodLink RX7 50 yX7_addUp ∈ wK := wKa2_in _ (List.mem_of_getElem? (i := 31) (by decide +kernel))
theorem wka332 : Cond.methodLink RX7 68 yX9_fill ∈ wK := wKa2_in _ (List.mem_of_getElem? (i := 32) (by decide +kernel))
theorem wka333 : Cond.methodLink RX7 40 yX0_winnerOf ∈ wK := wKa2_in _ (List.mem_of_getElem? (i := 33) (by decide +kernel))
theorem wka334 : Cond.methodLink RX7 71 yX9_get ∈ wK := wKa2_in _ (List.mem_of_getElem? (i := 34) (by decide +kernel))
theorem wka335 : Cond.methodLink RX7 74 yX9_set ∈ wK := wKa2_in _ (List.mem_of_getElem? (i := 35) (by decide +kernel))
theorem wka336 : Cond.methodLink RX7 77 yX1_ofFight ∈ wK := wKa2_in _ (List.mem_of_getElem? (i := 36) (by decide +kernel))
theorem wka337 : Cond.methodLink RX7 65 yX1_at ∈ wK := wKa2_in _ (List.mem_of_getElem? (i := 37) (by decide +kernel))
theorem wka338 : Cond.methodLink RX7 31 yX0_sizeOf ∈ wK := wKa2_in _ (List.mem_of_getElem? (i := 38) (by decide +kernel))
theorem wka339 : Cond.methodLink RX7 54 yX7_member ∈ wK := wKa2_in _ (List.mem_of_getElem? (i := 39) (by decide +kernel))
theorem wka340 : Cond.methodLink RX7 62 yX1_ofClass ∈ wK := wKa2_in _ (List.mem_of_getElem? (i := 40) (by decide +kernel))
theorem wka341 : Cond.methodLink RX7 57 yX7_aheadOf ∈ wK := wKa2_in _ (List.mem_of_getElem? (i := 41) (by decide +kernel))
theorem wka342 : Cond.methodLink RX7 81 yX7_areAlike ∈ wK := wKa2_in _ (List.mem_of_getElem? (i := 42) (by decide +kernel))
theorem wka343 : Cond.methodLink RX7 85 yX7_breaksTie ∈ wK := wKa2_in _ (List.mem_of_getElem? (i := 43) (by decide +kernel))
theorem wka344 : Cond.methodLink RX7 92 yX7_beat ∈ wK := wKa2_in _ (List.mem_of_getElem? (i := 44) (by decide +kernel))
theorem wka345 : Cond.methodLink RX7 44 yX0_loserOf ∈ wK := wKa2_in _ (List.mem_of_getElem? (i := 45) (by decide +kernel))
theorem wka346 : Cond.methodLink RX7 96 yX1_ofFighter ∈ wK := wKa2_in _ (List.mem_of_getElem? (i := 46) (by decide +kernel))
theorem wka347 : Cond.methodLink RX7 89 yX7_hasMore ∈ wK := wKa2_in _ (List.mem_of_getElem? (i := 47) (by decide +kernel))
theorem wka348 : Cond.methodLink RX11 305 yX7_ofTree ∈ wK := wKa2_in _ (List.mem_of_getElem? (i := 48) (by decide +kernel))
theorem wka349 : Cond.methodLink RX11 308 yX6_planDay ∈ wK := wKa2_in _ (List.mem_of_getElem? (i := 49) (by decide +kernel))
theorem wka350 : Cond.methodLink RX6 66 yX6_clear ∈ wK := wKa2_in _ (List.mem_of_getElem? (i := 50) (by decide +kernel))
theorem wka351 : Cond.methodLink RX6 109 yX9_fill ∈ wK := wKa2_in _ (List.mem_of_getElem? (i := 51) (by decide +kernel))
theorem wka352 : Cond.methodLink RX6 81 yX1_at ∈ wK := wKa2_in _ (List.mem_of_getElem? (i := 52) (by decide +kernel))
theorem wka353 : Cond.methodLink RX6 112 yX1_ofFighter ∈ wK := wKa2_in _ (List.mem_of_getElem? (i := 53) (by decide +kernel))
theorem wka354 : Cond.methodLink RX6 115 yX9_set ∈ wK := wKa2_in _ (List.mem_of_getElem? (i := 54) (by decide +kernel))
theorem wka355 : Cond.methodLink RX6 69 yX6_putOpenOnes ∈ wK := wKa2_in _ (List.mem_of_getElem? (i := 55) (by decide +kernel))
theorem wka356 : Cond.methodLink RX6 118 yX1_ofMat ∈ wK := wKa2_in _ (List.mem_of_getElem? (i := 56) (by decide +kernel))
theorem wka357 : Cond.methodLink RX6 121 yX6_put ∈ wK := wKa2_in _ (List.mem_of_getElem? (i := 57) (by decide +kernel))
theorem wka358 : Cond.methodLink RX6 54 yX0_slot ∈ wK := wKa2_in _ (List.mem_of_getElem? (i := 58) (by decide +kernel))
theorem wka359 : Cond.methodLink RX6 125 yX0_whiteOf ∈ wK := wKa2_in _ (List.mem_of_getElem? (i := 59) (by decide +kernel))
theorem wka360 : Cond.methodLink RX6 128 yX6_holdTill ∈ wK := wKa2_in _ (List.mem_of_getElem? (i := 60) (by decide +kernel))
theorem wka361 : Cond.methodLink RX6 58 yX9_get ∈ wK := wKa2_in _ (List.mem_of_getElem? (i := 61) (by decide +kernel))
theorem wka362 : Cond.methodLink RX6 97 Lib.Math.max.name ∈ wK := wKa2_in _ (List.mem_of_getElem? (i := 62) (by decide +kernel))
theorem wka363 : Cond.methodLink RX6 131 yX0_blueOf ∈ wK := wKa2_in _ (List.mem_of_getElem? (i := 63) (by decide +kernel))
theorem wka364 : Cond.methodLink RX6 72 yX6_putInOrder ∈ wK := wKa2_in _ (List.mem_of_getElem? (i := 64) (by decide +kernel))
theorem wka365 : Cond.methodLink RX6 134 yX6_putStageInOrder ∈ wK := wKa2_in _ (List.mem_of_getElem? (i := 65) (by decide +kernel))
theorem wka366 : Cond.methodLink RX6 137 yX0_fightsOf ∈ wK := wKa2_in _ (List.mem_of_getElem? (i := 66) (by decide +kernel))
theorem wka367 : Cond.methodLink RX6 140 yX0_stateOf ∈ wK := wKa2_in _ (List.mem_of_getElem? (i := 67) (by decide +kernel))
theorem wka368 : Cond.methodLink RX6 143 yX0_stageOf ∈ wK := wKa2_in _ (List.mem_of_getElem? (i := 68) (by decide +kernel))
theorem wka369 : Cond.methodLink RX0 114 yX0_stepOf ∈ wK := wKa2_in _ (List.mem_of_getElem? (i := 69) (by decide +kernel))
theorem wka370 : Cond.methodLink RX6 75 yX6_findEarliest ∈ wK := wKa2_in _ (List.mem_of_getElem? (i := 70) (by decide +kernel))
theorem wka371 : Cond.methodLink RX6 156 yX6_freeFrom ∈ wK := wKa2_in _ (List.mem_of_getElem? (i := 71) (by decide +kernel))
theorem wka372 : Cond.methodLink RX6 159 yX0_aheadOf ∈ wK := wKa2_in _ (List.mem_of_getElem? (i := 72) (by decide +kernel))
theorem wka373 : Cond.methodLink RX6 163 yX6_behindFight ∈ wK := wKa2_in _ (List.mem_of_getElem? (i := 73) (by decide +kernel))
theorem wka374 : Cond.constant RX6 152 (1000000) ∈ wK := wKa2_in _ (List.mem_of_getElem? (i := 74) (by decide +kernel))
theorem wka375 : Cond.methodLink RX6 87 yX6_putFrom ∈ wK := wKa2_in _ (List.mem_of_getElem? (i := 75) (by decide +kernel))
theorem wka376 : Cond.methodLink RX6 146 yX6_firstThatMay ∈ wK := wKa2_in _ (List.mem_of_getElem? (i := 76) (by decide +kernel))
theorem wka377 : Cond.methodLink RX6 149 yX6_takeOutOfOrder ∈ wK := wKa2_in _ (List.mem_of_getElem? (i := 77) (by decide +kernel))
theorem wka378 : Cond.methodLink RX6 90 yX6_soonestMat ∈ wK := wKa2_in _ (List.mem_of_getElem? (i := 78) (by decide +kernel))
theorem wka379 : Cond.methodLink RX6 153 Lib.Math.min.name ∈ wK := wKa2_in _ (List.mem_of_getElem? (i := 79) (by decide +kernel))
theorem wka380 : Cond.methodLink RX6 93 yX6_soonestFight ∈ wK := wKa2_in _ (List.mem_of_getElem? (i := 80) (by decide +kernel))
theorem wka381 : Cond.constant RX6 105 (100000) ∈ wK := wKa2_in _ (List.mem_of_getElem? (i := 81) (by decide +kernel))
theorem wka382 : Cond.methodLink RX6 106 yX6_keep ∈ wK := wKa2_in _ (List.mem_of_getElem? (i := 82) (by decide +kernel))
theorem wka383 : Cond.methodLink RX11 311 yX6_tell ∈ wK := wKa2_in _ (List.mem_of_getElem? (i := 83) (by decide +kernel))
theorem wka384 : Cond.methodLink RX11 317 yX1_takeBack ∈ wK := wKa2_in _ (List.mem_of_getElem? (i := 84) (by decide +kernel))
theorem wka385 : Cond.methodLink RX1 64 yX9_get ∈ wK := wKa2_in _ (List.mem_of_getElem? (i := 85) (by decide +kernel))
theorem wka386 : Cond.methodLink RX1 67 Lib.Math.max.name ∈ wK := wKa2_in _ (List.mem_of_getElem? (i := 86) (by decide +kernel))
theorem wka387 : Cond.static yX0_slot ∈ wK := wKa2_in _ (List.mem_of_getElem? (i := 87) (by decide +kernel))
theorem wka388 : Cond.instanceMethod yX0_kindOf ∈ wK := wKa2_in _ (List.mem_of_getElem? (i := 88) (by decide +kernel))
theorem wka389 : Cond.selects RX0 yX0_kindOf yX0_kindOf ∈ wK := wKa2_in _ (List.mem_of_getElem? (i := 89) (by decide +kernel))
theorem wka390 : Cond.instanceMethod yX0_sizeOf ∈ wK := wKa2_in _ (List.mem_of_getElem? (i := 90) (by decide +kernel))
theorem wka391 : Cond.selects RX0 yX0_sizeOf yX0_sizeOf ∈ wK := wKa2_in _ (List.mem_of_getElem? (i := 91) (by decide +kernel))
theorem wka392 : Cond.instanceMethod yX0_isDrawn ∈ wK := wKa2_in _ (List.mem_of_getElem? (i := 92) (by decide +kernel))
theorem wka393 : Cond.selects RX0 yX0_isDrawn yX0_isDrawn ∈ wK := wKa2_in _ (List.mem_of_getElem? (i := 93) (by decide +kernel))
theorem wka394 : Cond.instanceMethod yX0_onPlace ∈ wK := wKa2_in _ (List.mem_of_getElem? (i := 94) (by decide +kernel))
theorem wka395 : Cond.selects RX0 yX0_onPlace yX0_onPlace ∈ wK := wKa2_in _ (List.mem_of_getElem? (i := 95) (by decide +kernel))
theorem wka396 : Cond.instanceMethod yX0_fightsOf ∈ wK := wKa2_in _ (List.mem_of_getElem? (i := 96) (by decide +kernel))
theorem wka397 : Cond.selects RX0 yX0_fightsOf yX0_fightsOf ∈ wK := wKa2_in _ (List.mem_of_getElem? (i := 97) (by decide +kernel))
theorem wka398 : Cond.static yX0_stepsOf ∈ wK := wKa2_in _ (List.mem_of_getElem? (i := 98) (by decide +kernel))
theorem wka399 : Cond.instanceMethod yX0_has ∈ wK := wKa2_in _ (List.mem_of_getElem? (i := 99) (by decide +kernel))
theorem wka400 : Cond.selects RX0 yX0_has yX0_has ∈ wK := wKa2_in _ (List.mem_of_getElem? (i := 100) (by decide +kernel))
theorem wka401 : Cond.instanceMethod yX0_whiteOf ∈ wK := wKa2_in _ (List.mem_of_getElem? (i := 101) (by decide +kernel))
theorem wka402 : Cond.selects RX0 yX0_whiteOf yX0_whiteOf ∈ wK := wKa2_in _ (List.mem_of_getElem? (i := 102) (by decide +kernel))
theorem wka403 : Cond.instanceMethod yX0_blueOf ∈ wK := wKa2_in _ (List.mem_of_getElem? (i := 103) (by decide +kernel))
theorem wka404 : Cond.selects RX0 yX0_blueOf yX0_blueOf ∈ wK := wKa2_in _ (List.mem_of_getElem? (i := 104) (by decide +kernel))
theorem wka405 : Cond.instanceMethod yX0_winnerOf ∈ wK := wKa2_in _ (List.mem_of_getElem? (i := 105) (by decide +kernel))
theorem wka406 : Cond.selects RX0 yX0_winnerOf yX0_winnerOf ∈ wK := wKa2_in _ (List.mem_of_getElem? (i := 106) (by decide +kernel))
theorem wka407 : Cond.instanceMethod yX0_stateOf ∈ wK := wKa2_in _ (List.mem_of_getElem? (i := 107) (by decide +kernel))
theorem wka408 : Cond.selects RX0 yX0_stateOf yX0_stateOf ∈ wK := wKa2_in _ (List.mem_of_getElem? (i := 108) (by decide +kernel))
theorem wka409 : Cond.instanceMethod yX0_loserOf ∈ wK := wKa2_in _ (List.mem_of_getElem? (i := 109) (by decide +kernel))
theorem wka410 : Cond.selects RX0 yX0_loserOf yX0_loserOf ∈ wK := wKa2_in _ (List.mem_of_getElem? (i := 110) (by decide +kernel))
theorem wka411 : Cond.instanceMethod yX0_howMany ∈ wK := wKa2_in _ (List.mem_of_getElem? (i := 111) (by decide +kernel))
theorem wka412 : Cond.selects RX0 yX0_howMany yX0_howMany ∈ wK := wKa2_in _ (List.mem_of_getElem? (i := 112) (by decide +kernel))
theorem wka413 : Cond.instanceMethod yX0_settle ∈ wK := wKa2_in _ (List.mem_of_getElem? (i := 113) (by decide +kernel))
theorem wka414 : Cond.selects RX0 yX0_settle yX0_settle ∈ wK := wKa2_in _ (List.mem_of_getElem? (i := 114) (by decide +kernel))
theorem wka415 : Cond.instanceMethod yX0_settlePool ∈ wK := wKa2_in _ (List.mem_of_getElem? (i := 115) (by decide +kernel))
theorem wka416 : Cond.selects RX0 yX0_settlePool yX0_settlePool ∈ wK := wKa2_in _ (List.mem_of_getElem? (i := 116) (by decide +kernel))
theorem wka417 : Cond.instanceMethod yX0_settleTree ∈ wK := wKa2_in _ (List.mem_of_getElem? (i := 117) (by decide +kernel))
theorem wka418 : Cond.selects RX0 yX0_settleTree yX0_settleTree ∈ wK := wKa2_in _ (List.mem_of_getElem? (i := 118) (by decide +kernel))
theorem wka419 : Cond.static yX0_lowerBelow ∈ wK := wKa2_in _ (List.mem_of_getElem? (i := 119) (by decide +kernel))
theorem wka420 : Cond.instanceMethod yX0_settleLives ∈ wK := wKa2_in _ (List.mem_of_getElem? (i := 120) (by decide +kernel))
theorem wka421 : Cond.selects RX0 yX0_settleLives yX0_settleLives ∈ wK := wKa2_in _ (List.mem_of_getElem? (i := 121) (by decide +kernel))
theorem wka422 : Cond.instanceMethod yX0_findLosersTo ∈ wK := wKa2_in _ (List.mem_of_getElem? (i := 122) (by decide +kernel))
theorem wka423 : Cond.selects RX0 yX0_findLosersTo yX0_findLosersTo ∈ wK := wKa2_in _ (List.mem_of_getElem? (i := 123) (by decide +kernel))
theorem wka424 : Cond.instanceMethod yX0_settleWalk ∈ wK := wKa2_in _ (List.mem_of_getElem? (i := 124) (by decide +kernel))
theorem wka425 : Cond.selects RX0 yX0_settleWalk yX0_settleWalk ∈ wK := wKa2_in _ (List.mem_of_getElem? (i := 125) (by decide +kernel))
theorem wka426 : Cond.instanceMethod yX0_settleFight ∈ wK := wKa2_in _ (List.mem_of_getElem? (i := 126) (by decide +kernel))
theorem wka427 : Cond.selects RX0 yX0_settleFight yX0_settleFight ∈ wK := wKa2_in _ (List.mem_of_getElem? (i := 127) (by decide +kernel))
theorem wka428 : Cond.instanceMethod yX0_firstStale ∈ wK := wKa2_in _ (List.mem_of_getElem? (i := 128) (by decide +kernel))
theorem wka429 : Cond.selects RX0 yX0_firstStale yX0_firstStale ∈ wK := wKa2_in _ (List.mem_of_getElem? (i := 129) (by decide +kernel))
theorem wka430 : Cond.instanceMethod yX0_stageOf ∈ wK := wKa2_in _ (List.mem_of_getElem? (i := 130) (by decide +kernel))
theorem wka431 : Cond.selects RX0 yX0_stageOf yX0_stageOf ∈ wK := wKa2_in _ (List.mem_of_getElem? (i := 131) (by decide +kernel))
theorem wka432 : Cond.static yX0_stepOf ∈ wK := wKa2_in _ (List.mem_of_getElem? (i := 132) (by decide +kernel))
theorem wka433 : Cond.instanceMethod yX0_aheadOf ∈ wK := wKa2_in _ (List.mem_of_getElem? (i := 133) (by decide +kernel))
theorem wka434 : Cond.selects RX0 yX0_aheadOf yX0_aheadOf ∈ wK := wKa2_in _ (List.mem_of_getElem? (i := 134) (by decide +kernel))
theorem wka435 : Cond.static yX1_ofClass ∈ wK := wKa2_in _ (List.mem_of_getElem? (i := 135) (by decide +kernel))
theorem wka436 : Cond.static yX1_ofFighter ∈ wK := wKa2_in _ (List.mem_of_getElem? (i := 136) (by decide +kernel))
theorem wka437 : Cond.static yX1_ofFight ∈ wK := wKa2_in _ (List.mem_of_getElem? (i := 137) (by decide +kernel))
theorem wka438 : Cond.static yX1_ofMat ∈ wK := wKa2_in _ (List.mem_of_getElem? (i := 138) (by decide +kernel))
theorem wka439 : Cond.instanceMethod yX1_put ∈ wK := wKa2_in _ (List.mem_of_getElem? (i := 139) (by decide +kernel))
theorem wka440 : Cond.selects RX1 yX1_put yX1_put ∈ wK := wKa2_in _ (List.mem_of_getElem? (i := 140) (by decide +kernel))
theorem wka441 : Cond.instanceMethod yX1_isFull ∈ wK := wKa2_in _ (List.mem_of_getElem? (i := 141) (by decide +kernel))
theorem wka442 : Cond.selects RX1 yX1_isFull yX1_isFull ∈ wK := wKa2_in _ (List.mem_of_getElem? (i := 142) (by decide +kernel))
theorem wka443 : Cond.instanceMethod yX1_openEntry ∈ wK := wKa2_in _ (List.mem_of_getElem? (i := 143) (by decide +kernel))
theorem wka444 : Cond.selects RX1 yX1_openEntry yX1_openEntry ∈ wK := wKa2_in _ (List.mem_of_getElem? (i := 144) (by decide +kernel))
theorem wka445 : Cond.instanceMethod yX1_takeBack ∈ wK := wKa2_in _ (List.mem_of_getElem? (i := 145) (by decide +kernel))
theorem wka446 : Cond.selects RX1 yX1_takeBack yX1_takeBack ∈ wK := wKa2_in _ (List.mem_of_getElem? (i := 146) (by decide +kernel))
theorem wka447 : Cond.instanceMethod yX2_placeAll ∈ wK := wKa2_in _ (List.mem_of_getElem? (i := 147) (by decide +kernel))
theorem wka448 : Cond.selects RX2 yX2_placeAll yX2_placeAll ∈ wK := wKa2_in _ (List.mem_of_getElem? (i := 148) (by decide +kernel))
theorem wka449 : Cond.static yX2_placesFor ∈ wK := wKa2_in _ (List.mem_of_getElem? (i := 149) (by decide +kernel))
theorem wka450 : Cond.instanceMethod yX2_placePool ∈ wK := wKa3_in _ (List.mem_of_getElem? (i := 0) (by decide +kernel))
theorem wka451 : Cond.selects RX2 yX2_placePool yX2_placePool ∈ wK := wKa3_in _ (List.mem_of_getElem? (i := 1) (by decide +kernel))
theorem wka452 : Cond.instanceMethod yX2_placeOne ∈ wK := wKa3_in _ (List.mem_of_getElem? (i := 2) (by decide +kernel))
theorem wka453 : Cond.selects RX2 yX2_placeOne yX2_placeOne ∈ wK := wKa3_in _ (List.mem_of_getElem? (i := 3) (by decide +kernel))
theorem wka454 : Cond.instanceMethod yX2_makeRow ∈ wK := wKa3_in _ (List.mem_of_getElem? (i := 4) (by decide +kernel))
theorem wka455 : Cond.selects RX2 yX2_makeRow yX2_makeRow ∈ wK := wKa3_in _ (List.mem_of_getElem? (i := 5) (by decide +kernel))
theorem wka456 : Cond.instanceMethod yX2_isSeed ∈ wK := wKa3_in _ (List.mem_of_getElem? (i := 6) (by decide +kernel))
theorem wka457 : Cond.selects RX2 yX2_isSeed yX2_isSeed ∈ wK := wKa3_in _ (List.mem_of_getElem? (i := 7) (by decide +kernel))
theorem wka458 : Cond.instanceMethod yX2_placeSeeds ∈ wK := wKa3_in _ (List.mem_of_getElem? (i := 8) (by decide +kernel))
theorem wka459 : Cond.selects RX2 yX2_placeSeeds yX2_placeSeeds ∈ wK := wKa3_in _ (List.mem_of_getElem? (i := 9) (by decide +kernel))
theorem wka460 : Cond.instanceMethod yX2_placeOthers ∈ wK := wKa3_in _ (List.mem_of_getElem? (i := 10) (by decide +kernel))
theorem wka461 : Cond.selects RX2 yX2_placeOthers yX2_placeOthers ∈ wK := wKa3_in _ (List.mem_of_getElem? (i := 11) (by decide +kernel))
theorem wka462 : Cond.instanceMethod yX2_largestClub ∈ wK := wKa3_in _ (List.mem_of_getElem? (i := 12) (by decide +kernel))
theorem wka463 : Cond.selects RX2 yX2_largestClub yX2_largestClub ∈ wK := wKa3_in _ (List.mem_of_getElem? (i := 13) (by decide +kernel))
theorem wka464 : Cond.instanceMethod yX2_placeClub ∈ wK := wKa3_in _ (List.mem_of_getElem? (i := 14) (by decide +kernel))
theorem wka465 : Cond.selects RX2 yX2_placeClub yX2_placeClub ∈ wK := wKa3_in _ (List.mem_of_getElem? (i := 15) (by decide +kernel))
theorem wka466 : Cond.instanceMethod yX2_bestPlace ∈ wK := wKa3_in _ (List.mem_of_getElem? (i := 16) (by decide +kernel))
theorem wka467 : Cond.selects RX2 yX2_bestPlace yX2_bestPlace ∈ wK := wKa3_in _ (List.mem_of_getElem? (i := 17) (by decide +kernel))
theorem wka468 : Cond.instanceMethod yX2_firstMeeting ∈ wK := wKa3_in _ (List.mem_of_getElem? (i := 18) (by decide +kernel))
theorem wka469 : Cond.selects RX2 yX2_firstMeeting yX2_firstMeeting ∈ wK := wKa3_in _ (List.mem_of_getElem? (i := 19) (by decide +kernel))
theorem wka470 : Cond.static yX2_meetingRound ∈ wK := wKa3_in _ (List.mem_of_getElem? (i := 20) (by decide +kernel))
theorem wka471 : Cond.instanceMethod yX3_on ∈ wK := wKa3_in _ (List.mem_of_getElem? (i := 21) (by decide +kernel))
theorem wka472 : Cond.selects RX3 yX3_on yX3_on ∈ wK := wKa3_in _ (List.mem_of_getElem? (i := 22) (by decide +kernel))
theorem wka473 : Cond.instanceMethod yX3_isFree ∈ wK := wKa3_in _ (List.mem_of_getElem? (i := 23) (by decide +kernel))
theorem wka474 : Cond.selects RX3 yX3_isFree yX3_isFree ∈ wK := wKa3_in _ (List.mem_of_getElem? (i := 24) (by decide +kernel))
theorem wka475 : Cond.instanceMethod yX3_classOn ∈ wK := wKa3_in _ (List.mem_of_getElem? (i := 25) (by decide +kernel))
theorem wka476 : Cond.selects RX3 yX3_classOn yX3_classOn ∈ wK := wKa3_in _ (List.mem_of_getElem? (i := 26) (by decide +kernel))
theorem wka477 : Cond.instanceMethod yX3_waits ∈ wK := wKa3_in _ (List.mem_of_getElem? (i := 27) (by decide +kernel))
theorem wka478 : Cond.selects RX3 yX3_waits yX3_waits ∈ wK := wKa3_in _ (List.mem_of_getElem? (i := 28) (by decide +kernel))
theorem wka479 : Cond.instanceMethod yX3_goesOn ∈ wK := wKa3_in _ (List.mem_of_getElem? (i := 29) (by decide +kernel))
theorem wka480 : Cond.selects RX3 yX3_goesOn yX3_goesOn ∈ wK := wKa3_in _ (List.mem_of_getElem? (i := 30) (by decide +kernel))
theorem wka481 : Cond.instanceMethod yX3_signsOf ∈ wK := wKa3_in _ (List.mem_of_getElem? (i := 31) (by decide +kernel))
theorem wka482 : Cond.selects RX3 yX3_signsOf yX3_signsOf ∈ wK := wKa3_in _ (List.mem_of_getElem? (i := 32) (by decide +kernel))
theorem wka483 : Cond.instanceMethod yX3_openFights ∈ wK := wKa3_in _ (List.mem_of_getElem? (i := 33) (by decide +kernel))
theorem wka484 : Cond.selects RX3 yX3_openFights yX3_openFights ∈ wK := wKa3_in _ (List.mem_of_getElem? (i := 34) (by decide +kernel))
theorem wka485 : Cond.instanceMethod yX3_fighterOn ∈ wK := wKa3_in _ (List.mem_of_getElem? (i := 35) (by decide +kernel))
theorem wka486 : Cond.selects RX3 yX3_fighterOn yX3_fighterOn ∈ wK := wKa3_in _ (List.mem_of_getElem? (i := 36) (by decide +kernel))
theorem wka487 : Cond.instanceMethod yX3_isHeld ∈ wK := wKa3_in _ (List.mem_of_getElem? (i := 37) (by decide +kernel))
theorem wka488 : Cond.selects RX3 yX3_isHeld yX3_isHeld ∈ wK := wKa3_in _ (List.mem_of_getElem? (i := 38) (by decide +kernel))
theorem wka489 : Cond.instanceMethod yX3_start ∈ wK := wKa3_in _ (List.mem_of_getElem? (i := 39) (by decide +kernel))
theorem wka490 : Cond.selects RX3 yX3_start yX3_start ∈ wK := wKa3_in _ (List.mem_of_getElem? (i := 40) (by decide +kernel))
theorem wka491 : Cond.instanceMethod yX3_turnOver ∈ wK := wKa3_in _ (List.mem_of_getElem? (i := 41) (by decide +kernel))
theorem wka492 : Cond.selects RX3 yX3_turnOver yX3_turnOver ∈ wK := wKa3_in _ (List.mem_of_getElem? (i := 42) (by decide +kernel))
theorem wka493 : Cond.instanceMethod yX3_giveSign ∈ wK := wKa3_in _ (List.mem_of_getElem? (i := 43) (by decide +kernel))
theorem wka494 : Cond.selects RX3 yX3_giveSign yX3_giveSign ∈ wK := wKa3_in _ (List.mem_of_getElem? (i := 44) (by decide +kernel))
theorem wka495 : Cond.instanceMethod yX3_letPass ∈ wK := wKa3_in _ (List.mem_of_getElem? (i := 45) (by decide +kernel))
theorem wka496 : Cond.selects RX3 yX3_letPass yX3_letPass ∈ wK := wKa3_in _ (List.mem_of_getElem? (i := 46) (by decide +kernel))
theorem wka497 : Cond.instanceMethod yX3_ask ∈ wK := wKa3_in _ (List.mem_of_getElem? (i := 47) (by decide +kernel))
theorem wka498 : Cond.selects RX3 yX3_ask yX3_ask ∈ wK := wKa3_in _ (List.mem_of_getElem? (i := 48) (by decide +kernel))
theorem wka499 : Cond.instanceMethod yX3_holds ∈ wK := wKa3_in _ (List.mem_of_getElem? (i := 49) (by decide +kernel))
theorem wka500 : Cond.selects RX3 yX3_holds yX3_holds ∈ wK := wKa3_in _ (List.mem_of_getElem? (i := 50) (by decide +kernel))
theorem wka501 : Cond.instanceMethod yX3_push ∈ wK := wKa3_in _ (List.mem_of_getElem? (i := 51) (by decide +kernel))
theorem wka502 : Cond.selects RX3 yX3_push yX3_push ∈ wK := wKa3_in _ (List.mem_of_getElem? (i := 52) (by decide +kernel))
theorem wka503 : Cond.instanceMethod yX3_pop ∈ wK := wKa3_in _ (List.mem_of_getElem? (i := 53) (by decide +kernel))
theorem wka504 : Cond.selects RX3 yX3_pop yX3_pop ∈ wK := wKa3_in _ (List.mem_of_getElem? (i := 54) (by decide +kernel))
theorem wka505 : Cond.instanceMethod yX3_valueOf ∈ wK := wKa3_in _ (List.mem_of_getElem? (i := 55) (by decide +kernel))
theorem wka506 : Cond.selects RX3 yX3_valueOf yX3_valueOf ∈ wK := wKa3_in _ (List.mem_of_getElem? (i := 56) (by decide +kernel))
theorem wka507 : Cond.static yX3_workOn ∈ wK := wKa3_in _ (List.mem_of_getElem? (i := 57) (by decide +kernel))
theorem wka508 : Cond.instanceMethod yX3_finish ∈ wK := wKa3_in _ (List.mem_of_getElem? (i := 58) (by decide +kernel))
theorem wka509 : Cond.selects RX3 yX3_finish yX3_finish ∈ wK := wKa3_in _ (List.mem_of_getElem? (i := 59) (by decide +kernel))
theorem wka510 : Cond.instanceMethod yX3_leave ∈ wK := wKa3_in _ (List.mem_of_getElem? (i := 60) (by decide +kernel))
theorem wka511 : Cond.selects RX3 yX3_leave yX3_leave ∈ wK := wKa3_in _ (List.mem_of_getElem? (i := 61) (by decide +kernel))
theorem wka512 : Cond.instanceMethod yX3_strikeFrom ∈ wK := wKa3_in _ (List.mem_of_getElem? (i := 62) (by decide +kernel))
theorem wka513 : Cond.selects RX3 yX3_strikeFrom yX3_strikeFrom ∈ wK := wKa3_in _ (List.mem_of_getElem? (i := 63) (by decide +kernel))
theorem wka514 : Cond.instanceMethod yX3_drop ∈ wK := wKa3_in _ (List.mem_of_getElem? (i := 64) (by decide +kernel))
theorem wka515 : Cond.selects RX3 yX3_drop yX3_drop ∈ wK := wKa3_in _ (List.mem_of_getElem? (i := 65) (by decide +kernel))
theorem wka516 : Cond.instanceMethod yX4_clear ∈ wK := wKa3_in _ (List.mem_of_getElem? (i := 66) (by decide +kernel))
theorem wka517 : Cond.selects RX4 yX4_clear yX4_clear ∈ wK := wKa3_in _ (List.mem_of_getElem? (i := 67) (by decide +kernel))
theorem wka518 : Cond.instanceMethod yX4_emit ∈ wK := wKa3_in _ (List.mem_of_getElem? (i := 68) (by decide +kernel))
theorem wka519 : Cond.selects RX4 yX4_emit yX4_emit ∈ wK := wKa3_in _ (List.mem_of_getElem? (i := 69) (by decide +kernel))
theorem wka520 : Cond.instanceMethod yX4_endLine ∈ wK := wKa3_in _ (List.mem_of_getElem? (i := 70) (by decide +kernel))
theorem wka521 : Cond.selects RX4 yX4_endLine yX4_endLine ∈ wK := wKa3_in _ (List.mem_of_getElem? (i := 71) (by decide +kernel))
theorem wka522 : Cond.instanceMethod yX4_startOf ∈ wK := wKa3_in _ (List.mem_of_getElem? (i := 72) (by decide +kernel))
theorem wka523 : Cond.selects RX4 yX4_startOf yX4_startOf ∈ wK := wKa3_in _ (List.mem_of_getElem? (i := 73) (by decide +kernel))
theorem wka524 : Cond.instanceMethod yX4_kindAt ∈ wK := wKa3_in _ (List.mem_of_getElem? (i := 74) (by decide +kernel))
theorem wka525 : Cond.selects RX4 yX4_kindAt yX4_kindAt ∈ wK := wKa3_in _ (List.mem_of_getElem? (i := 75) (by decide +kernel))
theorem wka526 : Cond.instanceMethod yX4_valueAt ∈ wK := wKa3_in _ (List.mem_of_getElem? (i := 76) (by decide +kernel))
theorem wka527 : Cond.selects RX4 yX4_valueAt yX4_valueAt ∈ wK := wKa3_in _ (List.mem_of_getElem? (i := 77) (by decide +kernel))
theorem wka528 : Cond.instanceMethod yX5_handOver ∈ wK := wKa3_in _ (List.mem_of_getElem? (i := 78) (by decide +kernel))
theorem wka529 : Cond.selects RX5 yX5_handOver yX5_handOver ∈ wK := wKa3_in _ (List.mem_of_getElem? (i := 79) (by decide +kernel))
theorem wka530 : Cond.instanceMethod yX5_readLaws ∈ wK := wKa3_in _ (List.mem_of_getElem? (i := 80) (by decide +kernel))
theorem wka531 : Cond.selects RX5 yX5_readLaws yX5_readLaws ∈ wK := wKa3_in _ (List.mem_of_getElem? (i := 81) (by decide +kernel))
theorem wka532 : Cond.instanceMethod yX5_fail ∈ wK := wKa3_in _ (List.mem_of_getElem? (i := 82) (by decide +kernel))
theorem wka533 : Cond.selects RX5 yX5_fail yX5_fail ∈ wK := wKa3_in _ (List.mem_of_getElem? (i := 83) (by decide +kernel))
theorem wka534 : Cond.instanceMethod yX5_take ∈ wK := wKa3_in _ (List.mem_of_getElem? (i := 84) (by decide +kernel))
theorem wka535 : Cond.selects RX5 yX5_take yX5_take ∈ wK := wKa3_in _ (List.mem_of_getElem? (i := 85) (by decide +kernel))
theorem wka536 : Cond.instanceMethod yX5_goIf ∈ wK := wKa3_in _ (List.mem_of_getElem? (i := 86) (by decide +kernel))
theorem wka537 : Cond.selects RX5 yX5_goIf yX5_goIf ∈ wK := wKa3_in _ (List.mem_of_getElem? (i := 87) (by decide +kernel))
theorem wka538 : Cond.instanceMethod yX5_takeHead ∈ wK := wKa3_in _ (List.mem_of_getElem? (i := 88) (by decide +kernel))
theorem wka539 : Cond.selects RX5 yX5_takeHead yX5_takeHead ∈ wK := wKa3_in _ (List.mem_of_getElem? (i := 89) (by decide +kernel))
theorem wka540 : Cond.instanceMethod yX5_takeSignOrLine ∈ wK := wKa3_in _ (List.mem_of_getElem? (i := 90) (by decide +kernel))
theorem wka541 : Cond.selects RX5 yX5_takeSignOrLine yX5_takeSignOrLine ∈ wK := wKa3_in _ (List.mem_of_getElem? (i := 91) (by decide +kernel))
theorem wka542 : Cond.instanceMethod yX5_goIfRoom ∈ wK := wKa3_in _ (List.mem_of_getElem? (i := 92) (by decide +kernel))
theorem wka543 : Cond.selects RX5 yX5_goIfRoom yX5_goIfRoom ∈ wK := wKa3_in _ (List.mem_of_getElem? (i := 93) (by decide +kernel))
theorem wka544 : Cond.instanceMethod yX5_takeSignName ∈ wK := wKa3_in _ (List.mem_of_getElem? (i := 94) (by decide +kernel))
theorem wka545 : Cond.selects RX5 yX5_takeSignName yX5_takeSignName ∈ wK := wKa3_in _ (List.mem_of_getElem? (i := 95) (by decide +kernel))
theorem wka546 : Cond.instanceMethod yX5_signOfToken ∈ wK := wKa3_in _ (List.mem_of_getElem? (i := 96) (by decide +kernel))
theorem wka547 : Cond.selects RX5 yX5_signOfToken yX5_signOfToken ∈ wK := wKa3_in _ (List.mem_of_getElem? (i := 97) (by decide +kernel))
theorem wka548 : Cond.instanceMethod yX5_takePoints ∈ wK := wKa3_in _ (List.mem_of_getElem? (i := 98) (by decide +kernel))
theorem wka549 : Cond.selects RX5 yX5_takePoints yX5_takePoints ∈ wK := wKa3_in _ (List.mem_of_getElem? (i := 99) (by decide +kernel))
theorem wka550 : Cond.instanceMethod yX5_takeCond ∈ wK := wKa3_in _ (List.mem_of_getElem? (i := 100) (by decide +kernel))
theorem wka551 : Cond.selects RX5 yX5_takeCond yX5_takeCond ∈ wK := wKa3_in _ (List.mem_of_getElem? (i := 101) (by decide +kernel))
theorem wka552 : Cond.instanceMethod yX5_takePart ∈ wK := wKa3_in _ (List.mem_of_getElem? (i := 102) (by decide +kernel))
theorem wka553 : Cond.selects RX5 yX5_takePart yX5_takePart ∈ wK := wKa3_in _ (List.mem_of_getElem? (i := 103) (by decide +kernel))
theorem wka554 : Cond.instanceMethod yX5_openThing ∈ wK := wKa3_in _ (List.mem_of_getElem? (i := 104) (by decide +kernel))
theorem wka555 : Cond.selects RX5 yX5_openThing yX5_openThing ∈ wK := wKa3_in _ (List.mem_of_getElem? (i := 105) (by decide +kernel))
theorem wka556 : Cond.instanceMethod yX5_takeTerm ∈ wK := wKa3_in _ (List.mem_of_getElem? (i := 106) (by decide +kernel))
theorem wka557 : Cond.selects RX5 yX5_takeTerm yX5_takeTerm ∈ wK := wKa3_in _ (List.mem_of_getElem? (i := 107) (by decide +kernel))
theorem wka558 : Cond.instanceMethod yX5_takeTermName ∈ wK := wKa3_in _ (List.mem_of_getElem? (i := 108) (by decide +kernel))
theorem wka559 : Cond.selects RX5 yX5_takeTermName yX5_takeTermName ∈ wK := wKa3_in _ (List.mem_of_getElem? (i := 109) (by decide +kernel))
theorem wka560 : Cond.instanceMethod yX5_emitTerm ∈ wK := wKa3_in _ (List.mem_of_getElem? (i := 110) (by decide +kernel))
theorem wka561 : Cond.selects RX5 yX5_emitTerm yX5_emitTerm ∈ wK := wKa3_in _ (List.mem_of_getElem? (i := 111) (by decide +kernel))
theorem wka562 : Cond.instanceMethod yX5_endComparison ∈ wK := wKa3_in _ (List.mem_of_getElem? (i := 112) (by decide +kernel))
theorem wka563 : Cond.selects RX5 yX5_endComparison yX5_endComparison ∈ wK := wKa3_in _ (List.mem_of_getElem? (i := 113) (by decide +kernel))
theorem wka564 : Cond.instanceMethod yX5_takeBehindTerm ∈ wK := wKa3_in _ (List.mem_of_getElem? (i := 114) (by decide +kernel))
theorem wka565 : Cond.selects RX5 yX5_takeBehindTerm yX5_takeBehindTerm ∈ wK := wKa3_in _ (List.mem_of_getElem? (i := 115) (by decide +kernel))
theorem wka566 : Cond.instanceMethod yX5_takeBehindCond ∈ wK := wKa3_in _ (List.mem_of_getElem? (i := 116) (by decide +kernel))
theorem wka567 : Cond.selects RX5 yX5_takeBehindCond yX5_takeBehindCond ∈ wK := wKa3_in _ (List.mem_of_getElem? (i := 117) (by decide +kernel))
theorem wka568 : Cond.instanceMethod yX5_hold ∈ wK := wKa3_in _ (List.mem_of_getElem? (i := 118) (by decide +kernel))
theorem wka569 : Cond.selects RX5 yX5_hold yX5_hold ∈ wK := wKa3_in _ (List.mem_of_getElem? (i := 119) (by decide +kernel))
theorem wka570 : Cond.instanceMethod yX5_emitBinders ∈ wK := wKa3_in _ (List.mem_of_getElem? (i := 120) (by decide +kernel))
theorem wka571 : Cond.selects RX5 yX5_emitBinders yX5_emitBinders ∈ wK := wKa3_in _ (List.mem_of_getElem? (i := 121) (by decide +kernel))
theorem wka572 : Cond.instanceMethod yX5_closeNots ∈ wK := wKa3_in _ (List.mem_of_getElem? (i := 122) (by decide +kernel))
theorem wka573 : Cond.selects RX5 yX5_closeNots yX5_closeNots ∈ wK := wKa3_in _ (List.mem_of_getElem? (i := 123) (by decide +kernel))
theorem wka574 : Cond.instanceMethod yX5_closeBracket ∈ wK := wKa3_in _ (List.mem_of_getElem? (i := 124) (by decide +kernel))
theorem wka575 : Cond.selects RX5 yX5_closeBracket yX5_closeBracket ∈ wK := wKa3_in _ (List.mem_of_getElem? (i := 125) (by decide +kernel))
theorem wka576 : Cond.instanceMethod yX6_tell ∈ wK := wKa3_in _ (List.mem_of_getElem? (i := 126) (by decide +kernel))
theorem wka577 : Cond.selects RX6 yX6_tell yX6_tell ∈ wK := wKa3_in _ (List.mem_of_getElem? (i := 127) (by decide +kernel))
theorem wka578 : Cond.instanceMethod yX6_planDay ∈ wK := wKa3_in _ (List.mem_of_getElem? (i := 128) (by decide +kernel))
theorem wka579 : Cond.selects RX6 yX6_planDay yX6_planDay ∈ wK := wKa3_in _ (List.mem_of_getElem? (i := 129) (by decide +kernel))
theorem wka580 : Cond.instanceMethod yX6_clear ∈ wK := wKa3_in _ (List.mem_of_getElem? (i := 130) (by decide +kernel))
theorem wka581 : Cond.selects RX6 yX6_clear yX6_clear ∈ wK := wKa3_in _ (List.mem_of_getElem? (i := 131) (by decide +kernel))
theorem wka582 : Cond.instanceMethod yX6_keep ∈ wK := wKa3_in _ (List.mem_of_getElem? (i := 132) (by decide +kernel))
theorem wka583 : Cond.selects RX6 yX6_keep yX6_keep ∈ wK := wKa3_in _ (List.mem_of_getElem? (i := 133) (by decide +kernel))
theorem wka584 : Cond.instanceMethod yX6_putOpenOnes ∈ wK := wKa3_in _ (List.mem_of_getElem? (i := 134) (by decide +kernel))
theorem wka585 : Cond.selects RX6 yX6_putOpenOnes yX6_putOpenOnes ∈ wK := wKa3_in _ (List.mem_of_getElem? (i := 135) (by decide +kernel))
theorem wka586 : Cond.instanceMethod yX6_put ∈ wK := wKa3_in _ (List.mem_of_getElem? (i := 136) (by decide +kernel))
theorem wka587 : Cond.selects RX6 yX6_put yX6_put ∈ wK := wKa3_in _ (List.mem_of_getElem? (i := 137) (by decide +kernel))
theorem wka588 : Cond.instanceMethod yX6_holdTill ∈ wK := wKa3_in _ (List.mem_of_getElem? (i := 138) (by decide +kernel))
theorem wka589 : Cond.selects RX6 yX6_holdTill yX6_holdTill ∈ wK := wKa3_in _ (List.mem_of_getElem? (i := 139) (by decide +kernel))
theorem wka590 : Cond.instanceMethod yX6_putInOrder ∈ wK := wKa3_in _ (List.mem_of_getElem? (i := 140) (by decide +kernel))
theorem wka591 : Cond.selects RX6 yX6_putInOrder yX6_putInOrder ∈ wK := wKa3_in _ (List.mem_of_getElem? (i := 141) (by decide +kernel))
theorem wka592 : Cond.instanceMethod yX6_putStageInOrder ∈ wK := wKa3_in _ (List.mem_of_getElem? (i := 142) (by decide +kernel))
theorem wka593 : Cond.selects RX6 yX6_putStageInOrder yX6_putStageInOrder ∈ wK := wKa3_in _ (List.mem_of_getElem? (i := 143) (by decide +kernel))
theorem wka594 : Cond.instanceMethod yX6_putFrom ∈ wK := wKa3_in _ (List.mem_of_getElem? (i := 144) (by decide +kernel))
theorem wka595 : Cond.selects RX6 yX6_putFrom yX6_putFrom ∈ wK := wKa3_in _ (List.mem_of_getElem? (i := 145) (by decide +kernel))
theorem wka596 : Cond.instanceMethod yX6_firstThatMay ∈ wK := wKa3_in _ (List.mem_of_getElem? (i := 146) (by decide +kernel))
theorem wka597 : Cond.selects RX6 yX6_firstThatMay yX6_firstThatMay ∈ wK := wKa3_in _ (List.mem_of_getElem? (i := 147) (by decide +kernel))
theorem wka598 : Cond.instanceMethod yX6_takeOutOfOrder ∈ wK := wKa3_in _ (List.mem_of_getElem? (i := 148) (by decide +kernel))
theorem wka599 : Cond.selects RX6 yX6_takeOutOfOrder yX6_takeOutOfOrder ∈ wK := wKa3_in _ (List.mem_of_getElem? (i := 149) (by decide +kernel))
theorem wka600 : Cond.instanceMethod yX6_soonestMat ∈ wK := wKa4_in _ (List.mem_of_getElem? (i := 0) (by decide +kernel))
theorem wka601 : Cond.selects RX6 yX6_soonestMat yX6_soonestMat ∈ wK := wKa4_in _ (List.mem_of_getElem? (i := 1) (by decide +kernel))
theorem wka602 : Cond.instanceMethod yX6_soonestFight ∈ wK := wKa4_in _ (List.mem_of_getElem? (i := 2) (by decide +kernel))
theorem wka603 : Cond.selects RX6 yX6_soonestFight yX6_soonestFight ∈ wK := wKa4_in _ (List.mem_of_getElem? (i := 3) (by decide +kernel))
theorem wka604 : Cond.instanceMethod yX6_findEarliest ∈ wK := wKa4_in _ (List.mem_of_getElem? (i := 4) (by decide +kernel))
theorem wka605 : Cond.selects RX6 yX6_findEarliest yX6_findEarliest ∈ wK := wKa4_in _ (List.mem_of_getElem? (i := 5) (by decide +kernel))
theorem wka606 : Cond.instanceMethod yX6_freeFrom ∈ wK := wKa4_in _ (List.mem_of_getElem? (i := 6) (by decide +kernel))
theorem wka607 : Cond.selects RX6 yX6_freeFrom yX6_freeFrom ∈ wK := wKa4_in _ (List.mem_of_getElem? (i := 7) (by decide +kernel))
theorem wka608 : Cond.instanceMethod yX6_behindFight ∈ wK := wKa4_in _ (List.mem_of_getElem? (i := 8) (by decide +kernel))
theorem wka609 : Cond.selects RX6 yX6_behindFight yX6_behindFight ∈ wK := wKa4_in _ (List.mem_of_getElem? (i := 9) (by decide +kernel))
theorem wka610 : Cond.instanceMethod yX7_ofTree ∈ wK := wKa4_in _ (List.mem_of_getElem? (i := 10) (by decide +kernel))
theorem wka611 : Cond.selects RX7 yX7_ofTree yX7_ofTree ∈ wK := wKa4_in _ (List.mem_of_getElem? (i := 11) (by decide +kernel))
theorem wka612 : Cond.instanceMethod yX7_ofPool ∈ wK := wKa4_in _ (List.mem_of_getElem? (i := 12) (by decide +kernel))
theorem wka613 : Cond.selects RX7 yX7_ofPool yX7_ofPool ∈ wK := wKa4_in _ (List.mem_of_getElem? (i := 13) (by decide +kernel))
theorem wka614 : Cond.instanceMethod yX7_member ∈ wK := wKa4_in _ (List.mem_of_getElem? (i := 14) (by decide +kernel))
theorem wka615 : Cond.selects RX7 yX7_member yX7_member ∈ wK := wKa4_in _ (List.mem_of_getElem? (i := 15) (by decide +kernel))
theorem wka616 : Cond.instanceMethod yX7_addUp ∈ wK := wKa4_in _ (List.mem_of_getElem? (i := 16) (by decide +kernel))
theorem wka617 : Cond.selects RX7 yX7_addUp yX7_addUp ∈ wK := wKa4_in _ (List.mem_of_getElem? (i := 17) (by decide +kernel))
theorem wka618 : Cond.instanceMethod yX7_aheadOf ∈ wK := wKa4_in _ (List.mem_of_getElem? (i := 18) (by decide +kernel))
theorem wka619 : Cond.selects RX7 yX7_aheadOf yX7_aheadOf ∈ wK := wKa4_in _ (List.mem_of_getElem? (i := 19) (by decide +kernel))
theorem wka620 : Cond.instanceMethod yX7_areAlike ∈ wK := wKa4_in _ (List.mem_of_getElem? (i := 20) (by decide +kernel))
theorem wka621 : Cond.selects RX7 yX7_areAlike yX7_areAlike ∈ wK := wKa4_in _ (List.mem_of_getElem? (i := 21) (by decide +kernel))
theorem wka622 : Cond.instanceMethod yX7_hasMore ∈ wK := wKa4_in _ (List.mem_of_getElem? (i := 22) (by decide +kernel))
theorem wka623 : Cond.selects RX7 yX7_hasMore yX7_hasMore ∈ wK := wKa4_in _ (List.mem_of_getElem? (i := 23) (by decide +kernel))
theorem wka624 : Cond.instanceMethod yX7_breaksTie ∈ wK := wKa4_in _ (List.mem_of_getElem? (i := 24) (by decide +kernel))
theorem wka625 : Cond.selects RX7 yX7_breaksTie yX7_breaksTie ∈ wK := wKa4_in _ (List.mem_of_getElem? (i := 25) (by decide +kernel))
theorem wka626 : Cond.instanceMethod yX7_beat ∈ wK := wKa4_in _ (List.mem_of_getElem? (i := 26) (by decide +kernel))
theorem wka627 : Cond.selects RX7 yX7_beat yX7_beat ∈ wK := wKa4_in _ (List.mem_of_getElem? (i := 27) (by decide +kernel))
theorem wka628 : Cond.instanceMethod yX8_people ∈ wK := wKa4_in _ (List.mem_of_getElem? (i := 28) (by decide +kernel))
theorem wka629 : Cond.selects RX8 yX8_people yX8_people ∈ wK := wKa4_in _ (List.mem_of_getElem? (i := 29) (by decide +kernel))
theorem wka630 : Cond.instanceMethod yX8_has ∈ wK := wKa4_in _ (List.mem_of_getElem? (i := 30) (by decide +kernel))
theorem wka631 : Cond.selects RX8 yX8_has yX8_has ∈ wK := wKa4_in _ (List.mem_of_getElem? (i := 31) (by decide +kernel))
theorem wka632 : Cond.instanceMethod yX8_classOf ∈ wK := wKa4_in _ (List.mem_of_getElem? (i := 32) (by decide +kernel))
theorem wka633 : Cond.selects RX8 yX8_classOf yX8_classOf ∈ wK := wKa4_in _ (List.mem_of_getElem? (i := 33) (by decide +kernel))
theorem wka634 : Cond.instanceMethod yX8_add ∈ wK := wKa4_in _ (List.mem_of_getElem? (i := 34) (by decide +kernel))
theorem wka635 : Cond.selects RX8 yX8_add yX8_add ∈ wK := wKa4_in _ (List.mem_of_getElem? (i := 35) (by decide +kernel))
theorem wka636 : Cond.instanceMethod yX8_putOnScales ∈ wK := wKa4_in _ (List.mem_of_getElem? (i := 36) (by decide +kernel))
theorem wka637 : Cond.selects RX8 yX8_putOnScales yX8_putOnScales ∈ wK := wKa4_in _ (List.mem_of_getElem? (i := 37) (by decide +kernel))
theorem wka638 : Cond.instanceMethod yX8_wasAnyAtScales ∈ wK := wKa4_in _ (List.mem_of_getElem? (i := 38) (by decide +kernel))
theorem wka639 : Cond.selects RX8 yX8_wasAnyAtScales yX8_wasAnyAtScales ∈ wK := wKa4_in _ (List.mem_of_getElem? (i := 39) (by decide +kernel))
theorem wka640 : Cond.instanceMethod yX8_isSeedOfAnother ∈ wK := wKa4_in _ (List.mem_of_getElem? (i := 40) (by decide +kernel))
theorem wka641 : Cond.selects RX8 yX8_isSeedOfAnother yX8_isSeedOfAnother ∈ wK := wKa4_in _ (List.mem_of_getElem? (i := 41) (by decide +kernel))
theorem wka642 : Cond.instanceMethod yX8_fightersOf ∈ wK := wKa4_in _ (List.mem_of_getElem? (i := 42) (by decide +kernel))
theorem wka643 : Cond.selects RX8 yX8_fightersOf yX8_fightersOf ∈ wK := wKa4_in _ (List.mem_of_getElem? (i := 43) (by decide +kernel))
theorem wka644 : Cond.instanceMethod yX8_weighedOf ∈ wK := wKa4_in _ (List.mem_of_getElem? (i := 44) (by decide +kernel))
theorem wka645 : Cond.selects RX8 yX8_weighedOf yX8_weighedOf ∈ wK := wKa4_in _ (List.mem_of_getElem? (i := 45) (by decide +kernel))
theorem wka646 : Cond.static yX8_isWeighed ∈ wK := wKa4_in _ (List.mem_of_getElem? (i := 46) (by decide +kernel))
theorem wka647 : Cond.instanceMethod yX10_push ∈ wK := wKa4_in _ (List.mem_of_getElem? (i := 47) (by decide +kernel))
theorem wka648 : Cond.selects RX10 yX10_push yX10_push ∈ wK := wKa4_in _ (List.mem_of_getElem? (i := 48) (by decide +kernel))
theorem wka649 : Cond.instanceMethod yX10_rewind ∈ wK := wKa4_in _ (List.mem_of_getElem? (i := 49) (by decide +kernel))
theorem wka650 : Cond.selects RX10 yX10_rewind yX10_rewind ∈ wK := wKa4_in _ (List.mem_of_getElem? (i := 50) (by decide +kernel))
theorem wka651 : Cond.instanceMethod yX10_readToken ∈ wK := wKa4_in _ (List.mem_of_getElem? (i := 51) (by decide +kernel))
theorem wka652 : Cond.selects RX10 yX10_readToken yX10_readToken ∈ wK := wKa4_in _ (List.mem_of_getElem? (i := 52) (by decide +kernel))
theorem wka653 : Cond.instanceMethod yX10_readWord ∈ wK := wKa4_in _ (List.mem_of_getElem? (i := 53) (by decide +kernel))
theorem wka654 : Cond.selects RX10 yX10_readWord yX10_readWord ∈ wK := wKa4_in _ (List.mem_of_getElem? (i := 54) (by decide +kernel))
theorem wka655 : Cond.instanceMethod yX10_readNumber ∈ wK := wKa4_in _ (List.mem_of_getElem? (i := 55) (by decide +kernel))
theorem wka656 : Cond.selects RX10 yX10_readNumber yX10_readNumber ∈ wK := wKa4_in _ (List.mem_of_getElem? (i := 56) (by decide +kernel))
theorem wka657 : Cond.instanceMethod yX10_markOf ∈ wK := wKa4_in _ (List.mem_of_getElem? (i := 57) (by decide +kernel))
theorem wka658 : Cond.selects RX10 yX10_markOf yX10_markOf ∈ wK := wKa4_in _ (List.mem_of_getElem? (i := 58) (by decide +kernel))
theorem wka659 : Cond.instanceMethod yX10_takeEqual ∈ wK := wKa4_in _ (List.mem_of_getElem? (i := 59) (by decide +kernel))
theorem wka660 : Cond.selects RX10 yX10_takeEqual yX10_takeEqual ∈ wK := wKa4_in _ (List.mem_of_getElem? (i := 60) (by decide +kernel))
theorem wka661 : Cond.instanceMethod yX10_wordKind ∈ wK := wKa4_in _ (List.mem_of_getElem? (i := 61) (by decide +kernel))
theorem wka662 : Cond.selects RX10 yX10_wordKind yX10_wordKind ∈ wK := wKa4_in _ (List.mem_of_getElem? (i := 62) (by decide +kernel))
theorem wka663 : Cond.instanceMethod yX10_spells ∈ wK := wKa4_in _ (List.mem_of_getElem? (i := 63) (by decide +kernel))
theorem wka664 : Cond.selects RX10 yX10_spells yX10_spells ∈ wK := wKa4_in _ (List.mem_of_getElem? (i := 64) (by decide +kernel))
theorem wka665 : Cond.instanceMethod yX10_isWordAt ∈ wK := wKa4_in _ (List.mem_of_getElem? (i := 65) (by decide +kernel))
theorem wka666 : Cond.selects RX10 yX10_isWordAt yX10_isWordAt ∈ wK := wKa4_in _ (List.mem_of_getElem? (i := 66) (by decide +kernel))
theorem wka667 : Cond.instanceMethod yX10_tokenSize ∈ wK := wKa4_in _ (List.mem_of_getElem? (i := 67) (by decide +kernel))
theorem wka668 : Cond.selects RX10 yX10_tokenSize yX10_tokenSize ∈ wK := wKa4_in _ (List.mem_of_getElem? (i := 68) (by decide +kernel))
theorem wka669 : Cond.static yX10_isBlank ∈ wK := wKa4_in _ (List.mem_of_getElem? (i := 69) (by decide +kernel))
theorem wka670 : Cond.static yX10_isLetter ∈ wK := wKa4_in _ (List.mem_of_getElem? (i := 70) (by decide +kernel))
theorem wka671 : Cond.static yX10_isDigit ∈ wK := wKa4_in _ (List.mem_of_getElem? (i := 71) (by decide +kernel))
theorem wka680 : Cond.instanceMethod yX11_keepLaws ∈ wK := wKa4_in _ (List.mem_of_getElem? (i := 80) (by decide +kernel))
theorem wka681 : Cond.selects RX11 yX11_keepLaws yX11_keepLaws ∈ wK := wKa4_in _ (List.mem_of_getElem? (i := 81) (by decide +kernel))
theorem wka682 : Cond.instanceMethod yX11_lawsNow ∈ wK := wKa4_in _ (List.mem_of_getElem? (i := 82) (by decide +kernel))
theorem wka683 : Cond.selects RX11 yX11_lawsNow yX11_lawsNow ∈ wK := wKa4_in _ (List.mem_of_getElem? (i := 83) (by decide +kernel))
theorem wka714 : Cond.instanceMethod yX11_signsOn ∈ wK := wKa4_in _ (List.mem_of_getElem? (i := 114) (by decide +kernel))
theorem wka715 : Cond.selects RX11 yX11_signsOn yX11_signsOn ∈ wK := wKa4_in _ (List.mem_of_getElem? (i := 115) (by decide +kernel))
theorem wka728 : Cond.static yX11_isClass ∈ wK := wKa4_in _ (List.mem_of_getElem? (i := 128) (by decide +kernel))
theorem wka729 : Cond.static yX11_isMat ∈ wK := wKa4_in _ (List.mem_of_getElem? (i := 129) (by decide +kernel))
theorem wka730 : Cond.static yX11_isSide ∈ wK := wKa4_in _ (List.mem_of_getElem? (i := 130) (by decide +kernel))
theorem wka731 : Cond.static yX11_isGrams ∈ wK := wKa4_in _ (List.mem_of_getElem? (i := 131) (by decide +kernel))
theorem wka732 : Cond.instanceMethod yX9_get ∈ wK := wKa4_in _ (List.mem_of_getElem? (i := 132) (by decide +kernel))
theorem wka733 : Cond.selects RX9 yX9_get yX9_get ∈ wK := wKa4_in _ (List.mem_of_getElem? (i := 133) (by decide +kernel))
theorem wka734 : Cond.instanceMethod yX9_set ∈ wK := wKa4_in _ (List.mem_of_getElem? (i := 134) (by decide +kernel))
theorem wka735 : Cond.selects RX9 yX9_set yX9_set ∈ wK := wKa4_in _ (List.mem_of_getElem? (i := 135) (by decide +kernel))
theorem wka736 : Cond.instanceMethod yX9_fill ∈ wK := wKa4_in _ (List.mem_of_getElem? (i := 136) (by decide +kernel))
theorem wka737 : Cond.selects RX9 yX9_fill yX9_fill ∈ wK := wKa4_in _ (List.mem_of_getElem? (i := 137) (by decide +kernel))
theorem wka738 : Cond.instanceMethod yX9_makeRoomFor ∈ wK := wKa4_in _ (List.mem_of_getElem? (i := 138) (by decide +kernel))
theorem wka739 : Cond.selects RX9 yX9_makeRoomFor yX9_makeRoomFor ∈ wK := wKa4_in _ (List.mem_of_getElem? (i := 139) (by decide +kernel))
theorem wka740 : Cond.instanceMethod yX1_at ∈ wK := wKa4_in _ (List.mem_of_getElem? (i := 140) (by decide +kernel))
theorem wka741 : Cond.selects RX1 yX1_at yX1_at ∈ wK := wKa4_in _ (List.mem_of_getElem? (i := 141) (by decide +kernel))
theorem wka742 : Cond.instanceMethod yX1_lay ∈ wK := wKa4_in _ (List.mem_of_getElem? (i := 142) (by decide +kernel))
theorem wka743 : Cond.selects RX1 yX1_lay yX1_lay ∈ wK := wKa4_in _ (List.mem_of_getElem? (i := 143) (by decide +kernel))
theorem wka744 : Cond.initialized RX0 ∈ wK := wKa4_in _ (List.mem_of_getElem? (i := 144) (by decide +kernel))
theorem wka745 : Cond.initialized RX1 ∈ wK := wKa4_in _ (List.mem_of_getElem? (i := 145) (by decide +kernel))
theorem wka746 : Cond.initialized RX2 ∈ wK := wKa4_in _ (List.mem_of_getElem? (i := 146) (by decide +kernel))
theorem wka747 : Cond.initialized RX3 ∈ wK := wKa4_in _ (List.mem_of_getElem? (i := 147) (by decide +kernel))
theorem wka748 : Cond.initialized RX4 ∈ wK := wKa4_in _ (List.mem_of_getElem? (i := 148) (by decide +kernel))
theorem wka749 : Cond.initialized RX5 ∈ wK := wKa4_in _ (List.mem_of_getElem? (i := 149) (by decide +kernel))
theorem wka750 : Cond.initialized RX6 ∈ wK := wKa5_in _ (List.mem_of_getElem? (i := 0) (by decide +kernel))
theorem wka751 : Cond.initialized RX7 ∈ wK := wKa5_in _ (List.mem_of_getElem? (i := 1) (by decide +kernel))
theorem wka752 : Cond.initialized RX8 ∈ wK := wKa5_in _ (List.mem_of_getElem? (i := 2) (by decide +kernel))
theorem wka753 : Cond.initialized RX9 ∈ wK := wKa5_in _ (List.mem_of_getElem? (i := 3) (by decide +kernel))
theorem wka754 : Cond.initialized RX10 ∈ wK := wKa5_in _ (List.mem_of_getElem? (i := 4) (by decide +kernel))
theorem wka755 : Cond.initialized RX11 ∈ wK := wKa5_in _ (List.mem_of_getElem? (i := 5) (by decide +kernel))
theorem wka756 : Cond.static Lib.Math.max.name ∈ wK := wKa5_in _ (List.mem_of_getElem? (i := 6) (by decide +kernel))
theorem wka757 : Cond.code Lib.Math.max.name Lib.Math.max.code 2 (some .int) ∈ wK := wKa5_in _ (List.mem_of_getElem? (i := 7) (by decide +kernel))
theorem wka758 : Cond.static Lib.Math.min.name ∈ wK := wKa5_in _ (List.mem_of_getElem? (i := 8) (by decide +kernel))
theorem wka759 : Cond.code Lib.Math.min.name Lib.Math.min.code 2 (some .int) ∈ wK := wKa5_in _ (List.mem_of_getElem? (i := 9) (by decide +kernel))
theorem wka760 : Cond.initialized RJ9 ∈ wK := wKa5_in _ (List.mem_of_getElem? (i := 10) (by decide +kernel))
theorem wkc_X0_slot : Cond.code yX0_slot cX0_slot 2 (some .int) ∈ wK := wKc_in _ (List.mem_of_getElem? (i := 0) rfl)
theorem wkc_X0_kindOf : Cond.code yX0_kindOf cX0_kindOf 2 (some .int) ∈ wK := wKc_in _ (List.mem_of_getElem? (i := 1) rfl)
theorem wkc_X0_sizeOf : Cond.code yX0_sizeOf cX0_sizeOf 2 (some .int) ∈ wK := wKc_in _ (List.mem_of_getElem? (i := 2) rfl)
theorem wkc_X0_isDrawn : Cond.code yX0_isDrawn cX0_isDrawn 2 (some .boolean) ∈ wK := wKc_in _ (List.mem_of_getElem? (i := 3) rfl)
theorem wkc_X0_onPlace : Cond.code yX0_onPlace cX0_onPlace 4 (some .int) ∈ wK := wKc_in _ (List.mem_of_getElem? (i := 4) rfl)
theorem wkc_X0_fightsOf : Cond.code yX0_fightsOf cX0_fightsOf 3 (some .int) ∈ wK := wKc_in _ (List.mem_of_getElem? (i := 5) rfl)
theorem wkc_X0_stepsOf : Cond.code yX0_stepsOf cX0_stepsOf 1 (some .int) ∈ wK := wKc_in _ (List.mem_of_getElem? (i := 6) rfl)
theorem wkc_X0_has : Cond.code yX0_has cX0_has 3 (some .boolean) ∈ wK := wKc_in _ (List.mem_of_getElem? (i := 7) rfl)
theorem wkc_X0_whiteOf : Cond.code yX0_whiteOf cX0_whiteOf 3 (some .int) ∈ wK := wKc_in _ (List.mem_of_getElem? (i := 8) rfl)
theorem wkc_X0_blueOf : Cond.code yX0_blueOf cX0_blueOf 3 (some .int) ∈ wK := wKc_in _ (List.mem_of_getElem? (i := 9) rfl)
theorem wkc_X0_winnerOf : Cond.code yX0_winnerOf cX0_winnerOf 3 (some .int) ∈ wK := wKc_in _ (List.mem_of_getElem? (i := 10) rfl)
theorem wkc_X0_stateOf : Cond.code yX0_stateOf cX0_stateOf 3 (some .int) ∈ wK := wKc_in _ (List.mem_of_getElem? (i := 11) rfl)
theorem wkc_X0_loserOf : Cond.code yX0_loserOf cX0_loserOf 4 (some .int) ∈ wK := wKc_in _ (List.mem_of_getElem? (i := 12) rfl)
theorem wkc_X0_howMany : Cond.code yX0_howMany cX0_howMany 5 (some .int) ∈ wK := wKc_in _ (List.mem_of_getElem? (i := 13) rfl)
theorem wkc_X0_settle : Cond.code yX0_settle cX0_settle 2 none ∈ wK := wKc_in _ (List.mem_of_getElem? (i := 14) rfl)
theorem wkc_X0_settlePool : Cond.code yX0_settlePool cX0_settlePool 8 none ∈ wK := wKc_in _ (List.mem_of_getElem? (i := 15) rfl)
theorem wkc_X0_settleTree : Cond.code yX0_settleTree cX0_settleTree 6 none ∈ wK := wKc_in _ (List.mem_of_getElem? (i := 16) rfl)
theorem wkc_X0_lowerBelow : Cond.code yX0_lowerBelow cX0_lowerBelow 2 (some .int) ∈ wK := wKc_in _ (List.mem_of_getElem? (i := 17) rfl)
theorem wkc_X0_settleLives : Cond.code yX0_settleLives cX0_settleLives 9 none ∈ wK := wKc_in _ (List.mem_of_getElem? (i := 18) rfl)
theorem wkc_X0_findLosersTo : Cond.code yX0_findLosersTo cX0_findLosersTo 8 none ∈ wK := wKc_in _ (List.mem_of_getElem? (i := 19) rfl)
theorem wkc_X0_settleWalk : Cond.code yX0_settleWalk cX0_settleWalk 5 none ∈ wK := wKc_in _ (List.mem_of_getElem? (i := 20) rfl)
theorem wkc_X0_settleFight : Cond.code yX0_settleFight cX0_settleFight 7 none ∈ wK := wKc_in _ (List.mem_of_getElem? (i := 21) rfl)
theorem wkc_X0_firstStale : Cond.code yX0_firstStale cX0_firstStale 5 (some .int) ∈ wK := wKc_in _ (List.mem_of_getElem? (i := 22) rfl)
theorem wkc_X0_stageOf : Cond.code yX0_stageOf cX0_stageOf 6 (some .int) ∈ wK := wKc_in _ (List.mem_of_getElem? (i := 23) rfl)
theorem wkc_X0_stepOf : Cond.code yX0_stepOf cX0_stepOf 4 (some .int) ∈ wK := wKc_in _ (List.mem_of_getElem? (i := 24) rfl)
theorem wkc_X0_aheadOf : Cond.code yX0_aheadOf cX0_aheadOf 6 (some .int) ∈ wK := wKc_in _ (List.mem_of_getElem? (i := 25) rfl)
theorem wkc_X1_ofClass : Cond.code yX1_ofClass cX1_ofClass 2 (some .int) ∈ wK := wKc_in _ (List.mem_of_getElem? (i := 26) rfl)
theorem wkc_X1_ofFighter : Cond.code yX1_ofFighter cX1_ofFighter 2 (some .int) ∈ wK := wKc_in _ (List.mem_of_getElem? (i := 27) rfl)
theorem wkc_X1_ofFight : Cond.code yX1_ofFight cX1_ofFight 3 (some .int) ∈ wK := wKc_in _ (List.mem_of_getElem? (i := 28) rfl)
theorem wkc_X1_ofMat : Cond.code yX1_ofMat cX1_ofMat 2 (some .int) ∈ wK := wKc_in _ (List.mem_of_getElem? (i := 29) rfl)
theorem wkc_X1_put : Cond.code yX1_put cX1_put 4 none ∈ wK := wKc_in _ (List.mem_of_getElem? (i := 30) rfl)
theorem wkc_X1_isFull : Cond.code yX1_isFull cX1_isFull 1 (some .boolean) ∈ wK := wKc_in _ (List.mem_of_getElem? (i := 31) rfl)
theorem wkc_X1_openEntry : Cond.code yX1_openEntry cX1_openEntry 1 none ∈ wK := wKc_in _ (List.mem_of_getElem? (i := 32) rfl)
theorem wkc_X1_takeBack : Cond.code yX1_takeBack cX1_takeBack 3 none ∈ wK := wKc_in _ (List.mem_of_getElem? (i := 33) rfl)
theorem wkc_X2_placeAll : Cond.code yX2_placeAll cX2_placeAll 6 none ∈ wK := wKc_in _ (List.mem_of_getElem? (i := 34) rfl)
theorem wkc_X2_placesFor : Cond.code yX2_placesFor cX2_placesFor 1 (some .int) ∈ wK := wKc_in _ (List.mem_of_getElem? (i := 35) rfl)
theorem wkc_X2_placePool : Cond.code yX2_placePool cX2_placePool 4 none ∈ wK := wKc_in _ (List.mem_of_getElem? (i := 36) rfl)
theorem wkc_X2_placeOne : Cond.code yX2_placeOne cX2_placeOne 4 none ∈ wK := wKc_in _ (List.mem_of_getElem? (i := 37) rfl)
theorem wkc_X2_makeRow : Cond.code yX2_makeRow cX2_makeRow 6 none ∈ wK := wKc_in _ (List.mem_of_getElem? (i := 38) rfl)
theorem wkc_X2_isSeed : Cond.code yX2_isSeed cX2_isSeed 2 (some .boolean) ∈ wK := wKc_in _ (List.mem_of_getElem? (i := 39) rfl)
theorem wkc_X2_placeSeeds : Cond.code yX2_placeSeeds cX2_placeSeeds 5 none ∈ wK := wKc_in _ (List.mem_of_getElem? (i := 40) rfl)
theorem wkc_X2_placeOthers : Cond.code yX2_placeOthers cX2_placeOthers 5 none ∈ wK := wKc_in _ (List.mem_of_getElem? (i := 41) rfl)
theorem wkc_X2_largestClub : Cond.code yX2_largestClub cX2_largestClub 3 (some .int) ∈ wK := wKc_in _ (List.mem_of_getElem? (i := 42) rfl)
theorem wkc_X2_placeClub : Cond.code yX2_placeClub cX2_placeClub 6 none ∈ wK := wKc_in _ (List.mem_of_getElem? (i := 43) rfl)
theorem wkc_X2_bestPlace : Cond.code yX2_bestPlace cX2_bestPlace 9 (some .int) ∈ wK := wKc_in _ (List.mem_of_getElem? (i := 44) rfl)
theorem wkc_X2_firstMeeting : Cond.code yX2_firstMeeting cX2_firstMeeting 8 (some .int) ∈ wK := wKc_in _ (List.mem_of_getElem? (i := 45) rfl)
theorem wkc_X2_meetingRound : Cond.code yX2_meetingRound cX2_meetingRound 4 (some .int) ∈ wK := wKc_in _ (List.mem_of_getElem? (i := 46) rfl)
theorem wkc_X3_on : Cond.code yX3_on cX3_on 3 (some .int) ∈ wK := wKc_in _ (List.mem_of_getElem? (i := 47) rfl)
theorem wkc_X3_isFree : Cond.code yX3_isFree cX3_isFree 2 (some .boolean) ∈ wK := wKc_in _ (List.mem_of_getElem? (i := 48) rfl)
theorem wkc_X3_classOn : Cond.code yX3_classOn cX3_classOn 2 (some .int) ∈ wK := wKc_in _ (List.mem_of_getElem? (i := 49) rfl)
theorem wkc_X3_waits : Cond.code yX3_waits cX3_waits 2 (some .boolean) ∈ wK := wKc_in _ (List.mem_of_getElem? (i := 50) rfl)
theorem wkc_X3_goesOn : Cond.code yX3_goesOn cX3_goesOn 2 (some .boolean) ∈ wK := wKc_in _ (List.mem_of_getElem? (i := 51) rfl)
theorem wkc_X3_signsOf : Cond.code yX3_signsOf cX3_signsOf 4 (some .int) ∈ wK := wKc_in _ (List.mem_of_getElem? (i := 52) rfl)
theorem wkc_X3_openFights : Cond.code yX3_openFights cX3_openFights 3 (some .int) ∈ wK := wKc_in _ (List.mem_of_getElem? (i := 53) rfl)
theorem wkc_X3_fighterOn : Cond.code yX3_fighterOn cX3_fighterOn 4 (some .int) ∈ wK := wKc_in _ (List.mem_of_getElem? (i := 54) rfl)
theorem wkc_X3_isHeld : Cond.code yX3_isHeld cX3_isHeld 3 (some .boolean) ∈ wK := wKc_in _ (List.mem_of_getElem? (i := 55) rfl)
theorem wkc_X3_start : Cond.code yX3_start cX3_start 6 none ∈ wK := wKc_in _ (List.mem_of_getElem? (i := 56) rfl)
theorem wkc_X3_turnOver : Cond.code yX3_turnOver cX3_turnOver 3 none ∈ wK := wKc_in _ (List.mem_of_getElem? (i := 57) rfl)
theorem wkc_X3_giveSign : Cond.code yX3_giveSign cX3_giveSign 6 none ∈ wK := wKc_in _ (List.mem_of_getElem? (i := 58) rfl)
theorem wkc_X3_letPass : Cond.code yX3_letPass cX3_letPass 3 none ∈ wK := wKc_in _ (List.mem_of_getElem? (i := 59) rfl)
theorem wkc_X3_ask : Cond.code yX3_ask cX3_ask 5 (some .int) ∈ wK := wKc_in _ (List.mem_of_getElem? (i := 60) rfl)
theorem wkc_X3_holds : Cond.code yX3_holds cX3_holds 9 (some .boolean) ∈ wK := wKc_in _ (List.mem_of_getElem? (i := 61) rfl)
theorem wkc_X3_push : Cond.code yX3_push cX3_push 2 none ∈ wK := wKc_in _ (List.mem_of_getElem? (i := 62) rfl)
theorem wkc_X3_pop : Cond.code yX3_pop cX3_pop 1 (some .int) ∈ wK := wKc_in _ (List.mem_of_getElem? (i := 63) rfl)
theorem wkc_X3_valueOf : Cond.code yX3_valueOf cX3_valueOf 5 (some .int) ∈ wK := wKc_in _ (List.mem_of_getElem? (i := 64) rfl)
theorem wkc_X3_workOn : Cond.code yX3_workOn cX3_workOn 3 (some .int) ∈ wK := wKc_in _ (List.mem_of_getElem? (i := 65) rfl)
theorem wkc_X3_finish : Cond.code yX3_finish cX3_finish 8 (some .int) ∈ wK := wKc_in _ (List.mem_of_getElem? (i := 66) rfl)
theorem wkc_X3_leave : Cond.code yX3_leave cX3_leave 2 none ∈ wK := wKc_in _ (List.mem_of_getElem? (i := 67) rfl)
theorem wkc_X3_strikeFrom : Cond.code yX3_strikeFrom cX3_strikeFrom 6 (some .int) ∈ wK := wKc_in _ (List.mem_of_getElem? (i := 68) rfl)
theorem wkc_X3_drop : Cond.code yX3_drop cX3_drop 3 none ∈ wK := wKc_in _ (List.mem_of_getElem? (i := 69) rfl)
theorem wkc_X4_clear : Cond.code yX4_clear cX4_clear 1 none ∈ wK := wKc_in _ (List.mem_of_getElem? (i := 70) rfl)
theorem wkc_X4_emit : Cond.code yX4_emit cX4_emit 3 none ∈ wK := wKc_in _ (List.mem_of_getElem? (i := 71) rfl)
theorem wkc_X4_endLine : Cond.code yX4_endLine cX4_endLine 1 none ∈ wK := wKc_in _ (List.mem_of_getElem? (i := 72) rfl)
theorem wkc_X4_startOf : Cond.code yX4_startOf cX4_startOf 2 (some .int) ∈ wK := wKc_in _ (List.mem_of_getElem? (i := 73) rfl)
theorem wkc_X4_kindAt : Cond.code yX4_kindAt cX4_kindAt 2 (some .int) ∈ wK := wKc_in _ (List.mem_of_getElem? (i := 74) rfl)
theorem wkc_X4_valueAt : Cond.code yX4_valueAt cX4_valueAt 2 (some .int) ∈ wK := wKc_in _ (List.mem_of_getElem? (i := 75) rfl)
theorem wkc_X5_handOver : Cond.code yX5_handOver cX5_handOver 2 (some (.object "JudoHall$Laws")) ∈ wK := wKc_in _ (List.mem_of_getElem? (i := 76) rfl)
theorem wkc_X5_readLaws : Cond.code yX5_readLaws cX5_readLaws 2 (some .boolean) ∈ wK := wKc_in _ (List.mem_of_getElem? (i := 77) rfl)
theorem wkc_X5_fail : Cond.code yX5_fail cX5_fail 2 none ∈ wK := wKc_in _ (List.mem_of_getElem? (i := 78) rfl)
theorem wkc_X5_take : Cond.code yX5_take cX5_take 2 none ∈ wK := wKc_in _ (List.mem_of_getElem? (i := 79) rfl)
theorem wkc_X5_goIf : Cond.code yX5_goIf cX5_goIf 3 none ∈ wK := wKc_in _ (List.mem_of_getElem? (i := 80) rfl)
theorem wkc_X5_takeHead : Cond.code yX5_takeHead cX5_takeHead 3 none ∈ wK := wKc_in _ (List.mem_of_getElem? (i := 81) rfl)
theorem wkc_X5_takeSignOrLine : Cond.code yX5_takeSignOrLine cX5_takeSignOrLine 2 none ∈ wK := wKc_in _ (List.mem_of_getElem? (i := 82) rfl)
theorem wkc_X5_goIfRoom : Cond.code yX5_goIfRoom cX5_goIfRoom 3 none ∈ wK := wKc_in _ (List.mem_of_getElem? (i := 83) rfl)
theorem wkc_X5_takeSignName : Cond.code yX5_takeSignName cX5_takeSignName 2 none ∈ wK := wKc_in _ (List.mem_of_getElem? (i := 84) rfl)
theorem wkc_X5_signOfToken : Cond.code yX5_signOfToken cX5_signOfToken 2 (some .int) ∈ wK := wKc_in _ (List.mem_of_getElem? (i := 85) rfl)
theorem wkc_X5_takePoints : Cond.code yX5_takePoints cX5_takePoints 2 none ∈ wK := wKc_in _ (List.mem_of_getElem? (i := 86) rfl)
theorem wkc_X5_takeCond : Cond.code yX5_takeCond cX5_takeCond 2 none ∈ wK := wKc_in _ (List.mem_of_getElem? (i := 87) rfl)
theorem wkc_X5_takePart : Cond.code yX5_takePart cX5_takePart 2 none ∈ wK := wKc_in _ (List.mem_of_getElem? (i := 88) rfl)
theorem wkc_X5_openThing : Cond.code yX5_openThing cX5_openThing 2 none ∈ wK := wKc_in _ (List.mem_of_getElem? (i := 89) rfl)
theorem wkc_X5_takeTerm : Cond.code yX5_takeTerm cX5_takeTerm 2 none ∈ wK := wKc_in _ (List.mem_of_getElem? (i := 90) rfl)
theorem wkc_X5_takeTermName : Cond.code yX5_takeTermName cX5_takeTermName 2 none ∈ wK := wKc_in _ (List.mem_of_getElem? (i := 91) rfl)
theorem wkc_X5_emitTerm : Cond.code yX5_emitTerm cX5_emitTerm 3 none ∈ wK := wKc_in _ (List.mem_of_getElem? (i := 92) rfl)
theorem wkc_X5_endComparison : Cond.code yX5_endComparison cX5_endComparison 1 none ∈ wK := wKc_in _ (List.mem_of_getElem? (i := 93) rfl)
theorem wkc_X5_takeBehindTerm : Cond.code yX5_takeBehindTerm cX5_takeBehindTerm 2 none ∈ wK := wKc_in _ (List.mem_of_getElem? (i := 94) rfl)
theorem wkc_X5_takeBehindCond : Cond.code yX5_takeBehindCond cX5_takeBehindCond 2 none ∈ wK := wKc_in _ (List.mem_of_getElem? (i := 95) rfl)
theorem wkc_X5_hold : Cond.code yX5_hold cX5_hold 2 none ∈ wK := wKc_in _ (List.mem_of_getElem? (i := 96) rfl)
theorem wkc_X5_emitBinders : Cond.code yX5_emitBinders cX5_emitBinders 3 none ∈ wK := wKc_in _ (List.mem_of_getElem? (i := 97) rfl)
theorem wkc_X5_closeNots : Cond.code yX5_closeNots cX5_closeNots 1 none ∈ wK := wKc_in _ (List.mem_of_getElem? (i := 98) rfl)
theorem wkc_X5_closeBracket : Cond.code yX5_closeBracket cX5_closeBracket 1 none ∈ wK := wKc_in _ (List.mem_of_getElem? (i := 99) rfl)
theorem wkc_X6_tell : Cond.code yX6_tell cX6_tell 4 (some .int) ∈ wK := wKc_in _ (List.mem_of_getElem? (i := 100) rfl)
theorem wkc_X6_planDay : Cond.code yX6_planDay cX6_planDay 5 (some .int) ∈ wK := wKc_in _ (List.mem_of_getElem? (i := 101) rfl)
theorem wkc_X6_clear : Cond.code yX6_clear cX6_clear 3 none ∈ wK := wKc_in _ (List.mem_of_getElem? (i := 102) rfl)
theorem wkc_X6_keep : Cond.code yX6_keep cX6_keep 3 none ∈ wK := wKc_in _ (List.mem_of_getElem? (i := 103) rfl)
theorem wkc_X6_putOpenOnes : Cond.code yX6_putOpenOnes cX6_putOpenOnes 3 none ∈ wK := wKc_in _ (List.mem_of_getElem? (i := 104) rfl)
theorem wkc_X6_put : Cond.code yX6_put cX6_put 6 none ∈ wK := wKc_in _ (List.mem_of_getElem? (i := 105) rfl)
theorem wkc_X6_holdTill : Cond.code yX6_holdTill cX6_holdTill 3 none ∈ wK := wKc_in _ (List.mem_of_getElem? (i := 106) rfl)
theorem wkc_X6_putInOrder : Cond.code yX6_putInOrder cX6_putInOrder 3 none ∈ wK := wKc_in _ (List.mem_of_getElem? (i := 107) rfl)
theorem wkc_X6_putStageInOrder : Cond.code yX6_putStageInOrder cX6_putStageInOrder 5 none ∈ wK := wKc_in _ (List.mem_of_getElem? (i := 108) rfl)
theorem wkc_X6_putFrom : Cond.code yX6_putFrom cX6_putFrom 7 none ∈ wK := wKc_in _ (List.mem_of_getElem? (i := 109) rfl)
theorem wkc_X6_firstThatMay : Cond.code yX6_firstThatMay cX6_firstThatMay 3 (some .int) ∈ wK := wKc_in _ (List.mem_of_getElem? (i := 110) rfl)
theorem wkc_X6_takeOutOfOrder : Cond.code yX6_takeOutOfOrder cX6_takeOutOfOrder 3 none ∈ wK := wKc_in _ (List.mem_of_getElem? (i := 111) rfl)
theorem wkc_X6_soonestMat : Cond.code yX6_soonestMat cX6_soonestMat 4 (some .int) ∈ wK := wKc_in _ (List.mem_of_getElem? (i := 112) rfl)
theorem wkc_X6_soonestFight : Cond.code yX6_soonestFight cX6_soonestFight 3 (some .int) ∈ wK := wKc_in _ (List.mem_of_getElem? (i := 113) rfl)
theorem wkc_X6_findEarliest : Cond.code yX6_findEarliest cX6_findEarliest 6 none ∈ wK := wKc_in _ (List.mem_of_getElem? (i := 114) rfl)
theorem wkc_X6_freeFrom : Cond.code yX6_freeFrom cX6_freeFrom 2 (some .int) ∈ wK := wKc_in _ (List.mem_of_getElem? (i := 115) rfl)
theorem wkc_X6_behindFight : Cond.code yX6_behindFight cX6_behindFight 4 (some .int) ∈ wK := wKc_in _ (List.mem_of_getElem? (i := 116) rfl)
theorem wkc_X7_ofTree : Cond.code yX7_ofTree cX7_ofTree 5 (some .int) ∈ wK := wKc_in _ (List.mem_of_getElem? (i := 117) rfl)
theorem wkc_X7_ofPool : Cond.code yX7_ofPool cX7_ofPool 4 (some .int) ∈ wK := wKc_in _ (List.mem_of_getElem? (i := 118) rfl)
theorem wkc_X7_member : Cond.code yX7_member cX7_member 3 (some .int) ∈ wK := wKc_in _ (List.mem_of_getElem? (i := 119) rfl)
theorem wkc_X7_addUp : Cond.code yX7_addUp cX7_addUp 4 none ∈ wK := wKc_in _ (List.mem_of_getElem? (i := 120) rfl)
theorem wkc_X7_aheadOf : Cond.code yX7_aheadOf cX7_aheadOf 7 (some .int) ∈ wK := wKc_in _ (List.mem_of_getElem? (i := 121) rfl)
theorem wkc_X7_areAlike : Cond.code yX7_areAlike cX7_areAlike 3 (some .boolean) ∈ wK := wKc_in _ (List.mem_of_getElem? (i := 122) rfl)
theorem wkc_X7_hasMore : Cond.code yX7_hasMore cX7_hasMore 3 (some .boolean) ∈ wK := wKc_in _ (List.mem_of_getElem? (i := 123) rfl)
theorem wkc_X7_breaksTie : Cond.code yX7_breaksTie cX7_breaksTie 7 (some .boolean) ∈ wK := wKc_in _ (List.mem_of_getElem? (i := 124) rfl)
theorem wkc_X7_beat : Cond.code yX7_beat cX7_beat 5 (some .boolean) ∈ wK := wKc_in _ (List.mem_of_getElem? (i := 125) rfl)
theorem wkc_X8_people : Cond.code yX8_people cX8_people 1 (some .int) ∈ wK := wKc_in _ (List.mem_of_getElem? (i := 126) rfl)
theorem wkc_X8_has : Cond.code yX8_has cX8_has 2 (some .boolean) ∈ wK := wKc_in _ (List.mem_of_getElem? (i := 127) rfl)
theorem wkc_X8_classOf : Cond.code yX8_classOf cX8_classOf 2 (some .int) ∈ wK := wKc_in _ (List.mem_of_getElem? (i := 128) rfl)
theorem wkc_X8_add : Cond.code yX8_add cX8_add 4 (some .int) ∈ wK := wKc_in _ (List.mem_of_getElem? (i := 129) rfl)
theorem wkc_X8_putOnScales : Cond.code yX8_putOnScales cX8_putOnScales 5 (some .boolean) ∈ wK := wKc_in _ (List.mem_of_getElem? (i := 130) rfl)
theorem wkc_X8_wasAnyAtScales : Cond.code yX8_wasAnyAtScales cX8_wasAnyAtScales 3 (some .boolean) ∈ wK := wKc_in _ (List.mem_of_getElem? (i := 131) rfl)
theorem wkc_X8_isSeedOfAnother : Cond.code yX8_isSeedOfAnother cX8_isSeedOfAnother 5 (some .boolean) ∈ wK := wKc_in _ (List.mem_of_getElem? (i := 132) rfl)
theorem wkc_X8_fightersOf : Cond.code yX8_fightersOf cX8_fightersOf 4 (some .int) ∈ wK := wKc_in _ (List.mem_of_getElem? (i := 133) rfl)
theorem wkc_X8_weighedOf : Cond.code yX8_weighedOf cX8_weighedOf 4 (some .int) ∈ wK := wKc_in _ (List.mem_of_getElem? (i := 134) rfl)
theorem wkc_X8_isWeighed : Cond.code yX8_isWeighed cX8_isWeighed 3 (some .boolean) ∈ wK := wKc_in _ (List.mem_of_getElem? (i := 135) rfl)
theorem wkc_X10_push : Cond.code yX10_push cX10_push 3 none ∈ wK := wKc_in _ (List.mem_of_getElem? (i := 136) rfl)
theorem wkc_X10_rewind : Cond.code yX10_rewind cX10_rewind 1 none ∈ wK := wKc_in _ (List.mem_of_getElem? (i := 137) rfl)
theorem wkc_X10_readToken : Cond.code yX10_readToken cX10_readToken 2 none ∈ wK := wKc_in _ (List.mem_of_getElem? (i := 138) rfl)
theorem wkc_X10_readWord : Cond.code yX10_readWord cX10_readWord 1 none ∈ wK := wKc_in _ (List.mem_of_getElem? (i := 139) rfl)
theorem wkc_X10_readNumber : Cond.code yX10_readNumber cX10_readNumber 1 none ∈ wK := wKc_in _ (List.mem_of_getElem? (i := 140) rfl)
theorem wkc_X10_markOf : Cond.code yX10_markOf cX10_markOf 2 (some .int) ∈ wK := wKc_in _ (List.mem_of_getElem? (i := 141) rfl)
theorem wkc_X10_takeEqual : Cond.code yX10_takeEqual cX10_takeEqual 2 (some .boolean) ∈ wK := wKc_in _ (List.mem_of_getElem? (i := 142) rfl)
theorem wkc_X10_wordKind : Cond.code yX10_wordKind cX10_wordKind 1 (some .int) ∈ wK := wKc_in _ (List.mem_of_getElem? (i := 143) rfl)
theorem wkc_X10_spells : Cond.code yX10_spells cX10_spells 3 (some .boolean) ∈ wK := wKc_in _ (List.mem_of_getElem? (i := 144) rfl)
theorem wkc_X10_isWordAt : Cond.code yX10_isWordAt cX10_isWordAt 4 (some .boolean) ∈ wK := wKc_in _ (List.mem_of_getElem? (i := 145) rfl)
theorem wkc_X10_tokenSize : Cond.code yX10_tokenSize cX10_tokenSize 1 (some .int) ∈ wK := wKc_in _ (List.mem_of_getElem? (i := 146) rfl)
theorem wkc_X10_isBlank : Cond.code yX10_isBlank cX10_isBlank 1 (some .boolean) ∈ wK := wKc_in _ (List.mem_of_getElem? (i := 147) rfl)
theorem wkc_X10_isLetter : Cond.code yX10_isLetter cX10_isLetter 1 (some .boolean) ∈ wK := wKc_in _ (List.mem_of_getElem? (i := 148) rfl)
theorem wkc_X10_isDigit : Cond.code yX10_isDigit cX10_isDigit 1 (some .boolean) ∈ wK := wKc_in _ (List.mem_of_getElem? (i := 149) rfl)
theorem wkc_X11_feed : Cond.code yX11_feed cX11_feed 6 (some .int) ∈ wK := wKc_in _ (List.mem_of_getElem? (i := 150) rfl)
theorem wkc_X11_end : Cond.code yX11_end cX11_end 2 (some .int) ∈ wK := wKc_in _ (List.mem_of_getElem? (i := 151) rfl)
theorem wkc_X11_laws : Cond.code yX11_laws cX11_laws 2 (some .int) ∈ wK := wKc_in _ (List.mem_of_getElem? (i := 152) rfl)
theorem wkc_X11_fault : Cond.code yX11_fault cX11_fault 2 (some .int) ∈ wK := wKc_in _ (List.mem_of_getElem? (i := 153) rfl)
theorem wkc_X11_keepLaws : Cond.code yX11_keepLaws cX11_keepLaws 3 none ∈ wK := wKc_in _ (List.mem_of_getElem? (i := 154) rfl)
theorem wkc_X11_lawsNow : Cond.code yX11_lawsNow cX11_lawsNow 2 (some (.object "JudoHall$Laws")) ∈ wK := wKc_in _ (List.mem_of_getElem? (i := 155) rfl)
theorem wkc_X11_limit : Cond.code yX11_limit cX11_limit 4 (some .int) ∈ wK := wKc_in _ (List.mem_of_getElem? (i := 156) rfl)
theorem wkc_X11_enter : Cond.code yX11_enter cX11_enter 3 (some .int) ∈ wK := wKc_in _ (List.mem_of_getElem? (i := 157) rfl)
theorem wkc_X11_weigh : Cond.code yX11_weigh cX11_weigh 3 (some .int) ∈ wK := wKc_in _ (List.mem_of_getElem? (i := 158) rfl)
theorem wkc_X11_seed : Cond.code yX11_seed cX11_seed 4 (some .int) ∈ wK := wKc_in _ (List.mem_of_getElem? (i := 159) rfl)
theorem wkc_X11_draw : Cond.code yX11_draw cX11_draw 3 (some .int) ∈ wK := wKc_in _ (List.mem_of_getElem? (i := 160) rfl)
theorem wkc_X11_fighter : Cond.code yX11_fighter cX11_fighter 3 (some .int) ∈ wK := wKc_in _ (List.mem_of_getElem? (i := 161) rfl)
theorem wkc_X11_about : Cond.code yX11_about cX11_about 3 (some .int) ∈ wK := wKc_in _ (List.mem_of_getElem? (i := 162) rfl)
theorem wkc_X11_fight : Cond.code yX11_fight cX11_fight 6 (some .int) ∈ wK := wKc_in _ (List.mem_of_getElem? (i := 163) rfl)
theorem wkc_X11_now : Cond.code yX11_now cX11_now 2 (some .int) ∈ wK := wKc_in _ (List.mem_of_getElem? (i := 164) rfl)
theorem wkc_X11_rest : Cond.code yX11_rest cX11_rest 3 (some .int) ∈ wK := wKc_in _ (List.mem_of_getElem? (i := 165) rfl)
theorem wkc_X11_begin : Cond.code yX11_begin cX11_begin 5 (some .int) ∈ wK := wKc_in _ (List.mem_of_getElem? (i := 166) rfl)
theorem wkc_X11_event : Cond.code yX11_event cX11_event 5 (some .int) ∈ wK := wKc_in _ (List.mem_of_getElem? (i := 167) rfl)
theorem wkc_X11_tick : Cond.code yX11_tick cX11_tick 4 (some .int) ∈ wK := wKc_in _ (List.mem_of_getElem? (i := 168) rfl)
theorem wkc_X11_decide : Cond.code yX11_decide cX11_decide 4 (some .int) ∈ wK := wKc_in _ (List.mem_of_getElem? (i := 169) rfl)
theorem wkc_X11_mat : Cond.code yX11_mat cX11_mat 3 (some .int) ∈ wK := wKc_in _ (List.mem_of_getElem? (i := 170) rfl)
theorem wkc_X11_signsOn : Cond.code yX11_signsOn cX11_signsOn 5 (some .int) ∈ wK := wKc_in _ (List.mem_of_getElem? (i := 171) rfl)
theorem wkc_X11_strike : Cond.code yX11_strike cX11_strike 3 (some .int) ∈ wK := wKc_in _ (List.mem_of_getElem? (i := 172) rfl)
theorem wkc_X11_medal : Cond.code yX11_medal cX11_medal 3 (some .int) ∈ wK := wKc_in _ (List.mem_of_getElem? (i := 173) rfl)
theorem wkc_X11_plan : Cond.code yX11_plan cX11_plan 3 (some .int) ∈ wK := wKc_in _ (List.mem_of_getElem? (i := 174) rfl)
theorem wkc_X11_planned : Cond.code yX11_planned cX11_planned 4 (some .int) ∈ wK := wKc_in _ (List.mem_of_getElem? (i := 175) rfl)
theorem wkc_X11_undo : Cond.code yX11_undo cX11_undo 2 (some .int) ∈ wK := wKc_in _ (List.mem_of_getElem? (i := 176) rfl)
theorem wkc_X11_count : Cond.code yX11_count cX11_count 2 (some .int) ∈ wK := wKc_in _ (List.mem_of_getElem? (i := 177) rfl)
theorem wkc_X11_isClass : Cond.code yX11_isClass cX11_isClass 1 (some .boolean) ∈ wK := wKc_in _ (List.mem_of_getElem? (i := 178) rfl)
theorem wkc_X11_isMat : Cond.code yX11_isMat cX11_isMat 1 (some .boolean) ∈ wK := wKc_in _ (List.mem_of_getElem? (i := 179) rfl)
theorem wkc_X11_isSide : Cond.code yX11_isSide cX11_isSide 1 (some .boolean) ∈ wK := wKc_in _ (List.mem_of_getElem? (i := 180) rfl)
theorem wkc_X11_isGrams : Cond.code yX11_isGrams cX11_isGrams 1 (some .boolean) ∈ wK := wKc_in _ (List.mem_of_getElem? (i := 181) rfl)
end
section
abbrev gC : Type := gM × gS
def kE (Z : gC) (A : Nat → Prop) (U : State) (H : Heap) : Prop := sE Z.1 A U H ∧ ST Z.2 A U H ∧ kO (Z.1.1 1000) U
theorem kE.kept {Z : gC} {A : Nat → Prop} {U : State} {H H1 : Heap} (h : kE Z A U H) (hq : ∀ a : Nat, a < H.size → ¬ A a → H1[a]? = H[a]?) : kE Z A U H1 := ⟨h.1.kept hq, h.2.1.kept hq, h.2.2⟩
theorem kE.narrow {Z : gC} {A B : Nat → Prop} {U : State} {H : Heap} (h : kE Z A U H) (hAB : ∀ q, B q → A q) : kE Z B U H := ⟨h.1.narrow hAB, h.2.1.narrow hAB, h.2.2⟩
theorem kE.moved {Z : gC} {A : Nat → Prop} {s U : State} {H : Heap} (hW : s.WarmedH U.vm) (h : kE Z A s H) : kE Z A U H := ⟨h.1.moved hW, h.2.1.moved hW.alike, h.2.2.moved hW.alike⟩
def cPM (G : gG) (Z : gC) (Q : Nat → Nat) (D : Nat × Nat) (T : va_W) (u : MS) (sz : Nat) (U : State) : Prop := U.heap.size = sz ∧ va_P (gD G) vwCl (cW G Q D T u) U.heap ∧ KB G U ∧ va_D (fun _ => True) (cW G Q D T u) ∧ kE Z (va_A (cW G Q D T u) sz) U U.heap
theorem cPM.blind {G : gG} {Z : gC} {Q : Nat → Nat} {D : Nat × Nat} {T : va_W} {u : MS} {sz : Nat} {av : List Value} : FrameBlind (va_Pc av (cPM G Z Q D T u sz)) := fun _ U g mk q => ⟨q.1, q.2.1, q.2.2.1, q.2.2.2.1.calling g mk _, q.2.2.2.2.1, q.2.2.2.2.2.1.calling g mk _, ST.moved (u := U) (Vm.Alike.refl U.vm) q.2.2.2.2.2.2.1, kO.moved (u := U) (Vm.Alike.refl U.vm) q.2.2.2.2.2.2.2⟩
theorem c_two {A : Nat → Prop} {ws : va_W} {i j h0 a0 : Nat} {e0 e1 : va_E} (hD : va_D A ws) (hi : ws[i]? = some (h0, e0)) (hj : ws[j]? = some (a0, e1)) (hne : ¬ i = j) (sz : Nat) : va_D (va_A ws sz) [(h0, e0), (a0, e1)] := by
  refine ⟨fun a b p q ha hb hab => ?_, fun k q hk => ?_⟩
  · match a, b, ha, hb with
    | 0, 0, _, _ => rfl
    | 1, 1, _, _ => rfl
    | 0, 1, ha, hb =>
      cases Option.some.inj ha
      cases Option.some.inj hb
      exact absurd (hD.1 i j _ _ hi hj hab) hne
    | 1, 0, ha, hb =>
      cases Option.some.inj ha
      cases Option.some.inj hb
      exact absurd (hD.1 i j _ _ hi hj hab.symm) hne
    | 0, b + 2, _, hb => cases hb
    | 1, b + 2, _, hb => cases hb
    | a + 2, _, ha, _ => cases ha
  · match k, hk with
    | 0, hk =>
      cases Option.some.inj hk
      exact va_A.in hi
    | 1, hk =>
      cases Option.some.inj hk
      exact va_A.in hj
    | k + 2, hk => cases hk
def cBt (G : gG) (Q : Nat → Nat) (T : va_W) (u : MS) (A : Nat → Prop) : Unit → State → Prop := fun _ t => ∃ D : Nat × Nat, va_P (gD G) vwCl (cW G Q D T u) t.heap ∧ va_D A (cW G Q D T u)
abbrev cQi (G : gG) (Q : Nat → Nat) (T : va_W) (u : MS) (r : Int32) (A : Nat → Prop) : Array Value → State → Outcome → State → Prop := va_Qi (fun (x : Int32) (_ : Unit) => x = r) (cBt G Q T u A) A
abbrev cQv (G : gG) (Q : Nat → Nat) (T : va_W) (u : MS) (A : Nat → Prop) : Array Value → State → Outcome → State → Prop := va_Qv (fun _ : Unit => True) (cBt G Q T u A) A
def cX (p : Program) (c : Code) (cc : ByteArray) (nL : Nat) (s : State) (m : MethodId) (args : Array Value) (own : String) (G : gG) (Z : gC) (A : Nat → Prop) : Prop := p.tables.exec = Jvm.exec ∧ c.code = cc ∧ c.maxLocals = nL ∧ s.vm.findClass own = some m.cls ∧ (∀ w ∈ wK, w.before args s = true) ∧ KB G s ∧ kE Z A s s.heap ∧ ∀ q : Nat, s.heap.size ≤ q → A q
def cH (G : gG) (Q : Nat → Nat) (D : Nat × Nat) (T : va_W) (A : Nat → Prop) (u : MS) (s : State) (H : Heap) (locs : List Loc) : Prop := va_P (gD G) vwCl (cW G Q D T u) H ∧ va_D A (cW G Q D T u) ∧ va_S A s.heap H locs
section CC
variable {p : Program} {l : Launch} {e : Env} {R : Room} {s : State} {m : MethodId} {args : Array Value} {below : List Frame} {meth : Method} {c : Code} {H : Heap} {locs : List Loc} {Q' : State → Prop} {cc : ByteArray} {nL pc cells slots : Nat} {ls : Array Slot} {rest st0 : List Value} {G : gG} {Z : gC} {Q : Nat → Nat} {D : Nat × Nat} {T : va_W} {A : Nat → Prop} {u u1 : MS} {own : String}
theorem cH.sub (hC : cX p c cc nL s m args own G Z A) (hH : cH G Q D T A u s H locs) : ∀ q, va_A (cW G Q D T u) H.size q → A q := by
  intro q h
  rcases h with ⟨k, e, h⟩ | h
  · exact hH.2.1.2 k (q, e) h
  · exact hC.2.2.2.2.2.2.2 q (Nat.le_trans hH.2.2.1 h)
theorem cH.pre (hC : cX p c cc nL s m args own G Z A) (hH : cH G Q D T A u s H locs) (U : State) (hU : U.heap = H) (hW : s.WarmedH U.vm) : cPM G Z Q D T u H.size U :=
  ⟨by rw [hU], by rw [hU]; exact hH.1, hC.2.2.2.2.2.1.moved hW, hH.2.1.weaken (fun _ _ _ _ => trivial), by rw [hU]; exact ((hC.2.2.2.2.2.2.1.kept hH.2.2.2.1).narrow (cH.sub hC hH)).moved hW⟩
theorem cgood {y : MethodName} {b : ByteArray} {n : Nat} {r : Option FieldType} (h : Cond.code y b n r ∈ wK) : ∀ w ∈ (Cond.code y b n r :: wK), w ∈ wK ∧ Gd w := List.forall_mem_cons.mpr ⟨⟨h, gd_wK _ h⟩, fun w hw => ⟨hw, gd_wK _ hw⟩⟩
def kcV (own C : String) (y : MethodName) (b : ByteArray) (n : Nat) (r : Option FieldType) (i : Nat) : Prop := Cond.code y b n r ∈ wK ∧ Cond.methodLink own i y ∈ wK ∧ Cond.instanceMethod y ∈ wK ∧ Cond.selects C y y ∈ wK ∧ Cond.initialized C ∈ wK
def kcS (own : String) (y : MethodName) (b : ByteArray) (n : Nat) (r : Option FieldType) (i : Nat) : Prop := Cond.code y b n r ∈ wK ∧ Cond.methodLink own i y ∈ wK ∧ Cond.static y ∈ wK ∧ Cond.initialized y.cls ∈ wK
theorem ccV_i {y : MethodName} {bytes : ByteArray} {maxL n index fr lo : Nat} {ret : Option FieldType} {As : List Value} {r : Int32} {q0 ci : Nat} {fs : List Value} {C : vw_C} {b : Nat} (hC : cX p c cc nL s m args own G Z A) (hH : cH G Q D T A u s H locs) (hM : Met l y (Cond.code y bytes maxL ret :: wK) { frames := fr, cells := 0, slots := 0, locals := lo } (va_Pc (.ref b :: As) (cPM G Z Q D T u H.size)) (cQi G Q T u1 r (va_A (cW G Q D T u) H.size)) 0 0 (va_A (cW G Q D T u) H.size)) (he : (cW G Q D T u)[q0]? = some (b, .inr (ci, fs))) (hc : vwCl[ci]? = some C) (kw : kcV own C.1 y bytes maxL ret index) (hd : y.cls = C.1 ∧ y.cls ≠ "java/lang/invoke/MethodHandle" ∧ y.cls ≠ "java/lang/invoke/VarHandle" ∧ (parseMethodDescriptor y.desc).map (fun d => d.parameters.length) = some n) (hR : fr + 1 ≤ R.frames ∧ 8 + (maxL + 11) + lo ≤ R.locals) (hn : As.length = n) (hls : ls.size = nL) (hst : st0 = As.reverse ++ .ref b :: rest) (hcat : (rest.map fun v => v.category).sum ≤ 8) (hdg : decode cc pc = .ok (.invokevirtual index, 3)) (kk : ∀ (D : Nat × Nat) (H : Heap) (locs : List Loc), cH G Q D T A u1 s H locs → W p l e R s m args below meth c H locs 0 0 Q' (F0 m (pc + 3) ls (.int r :: rest))) : W p l e R s m args below meth c H locs 0 0 Q' (F0 m pc ls st0) := by
  have hle := cH.sub hC hH
  obtain ⟨hx, hb, hml, hown, hts, hB, hE, hA⟩ := hC
  obtain ⟨k1, k2, k3, k4, k5⟩ := kw
  have hg : GoodIn wK (wsV own index C.1 y (Cond.code y bytes maxL ret :: wK)) := gdV k2 k3 k4 k5 (cgood k1)
  refine va_calli (va_runV (As := As) (rest := rest) (C := C.1) ⟨hx, hb, hml, hown, hts⟩ hM (cwV n hts hg rfl rfl rfl hd hR) ⟨cPM.blind, va_recv hB.1 hH.1 hc he, fun U hU hW => ⟨rfl, cH.pre ⟨hx, hb, hml, hown, hts, hB, hE, hA⟩ hH U hU hW⟩⟩ rfl hn hls hst (lv_room hcat) hdg ⟨Nat.zero_le _, Nat.zero_le _⟩) hH.2.2 (fun q _ h => hle q h) hle (fun r2 u2 t H1 locs1 ht hvm hw hB1 hz1 hk1 hS => ?_)
  obtain ⟨D1, b1, b2⟩ := hB1
  rw [ht] at b1
  subst hw
  exact kk D1 H1 locs1 ⟨b1, b2.weaken (fun _ _ _ h => hle _ h), hS⟩
theorem ccV_iA {y : MethodName} {bytes : ByteArray} {maxL n index fr lo mc ms : Nat} {ret : Option FieldType} {As : List Value} {r : Int32} {q0 ci : Nat} {fs : List Value} {C : vw_C} {b : Nat} (hC : cX p c cc nL s m args own G Z A) (hH : cH G Q D T A u s H locs) (hM : Met l y (Cond.code y bytes maxL ret :: wK) { frames := fr, cells := mc, slots := ms, locals := lo } (va_Pc (.ref b :: As) (cPM G Z Q D T u H.size)) (cQi G Q T u1 r (va_A (cW G Q D T u) H.size)) mc ms (va_A (cW G Q D T u) H.size)) (he : (cW G Q D T u)[q0]? = some (b, .inr (ci, fs))) (hc : vwCl[ci]? = some C) (kw : kcV own C.1 y bytes maxL ret index) (hd : y.cls = C.1 ∧ y.cls ≠ "java/lang/invoke/MethodHandle" ∧ y.cls ≠ "java/lang/invoke/VarHandle" ∧ (parseMethodDescriptor y.desc).map (fun d => d.parameters.length) = some n) (hR : fr + 1 ≤ R.frames ∧ 8 + (maxL + 11) + lo ≤ R.locals) (hf : cells + mc ≤ R.cells ∧ slots + ms ≤ R.slots) (hn : As.length = n) (hls : ls.size = nL) (hst : st0 = As.reverse ++ .ref b :: rest) (hcat : (rest.map fun v => v.category).sum ≤ 8) (hdg : decode cc pc = .ok (.invokevirtual index, 3)) (kk : ∀ (D : Nat × Nat) (H : Heap) (locs : List Loc), cH G Q D T A u1 s H locs → W p l e R s m args below meth c H locs (cells + mc) (slots + ms) Q' (F0 m (pc + 3) ls (.int r :: rest))) : W p l e R s m args below meth c H locs cells slots Q' (F0 m pc ls st0) := by
  have hle := cH.sub hC hH
  obtain ⟨hx, hb, hml, hown, hts, hB, hE, hA⟩ := hC
  obtain ⟨k1, k2, k3, k4, k5⟩ := kw
  have hg : GoodIn wK (wsV own index C.1 y (Cond.code y bytes maxL ret :: wK)) := gdV k2 k3 k4 k5 (cgood k1)
  refine va_calli (va_runV (As := As) (rest := rest) (C := C.1) ⟨hx, hb, hml, hown, hts⟩ hM (cwV n hts hg rfl rfl rfl hd hR) ⟨cPM.blind, va_recv hB.1 hH.1 hc he, fun U hU hW => ⟨rfl, cH.pre ⟨hx, hb, hml, hown, hts, hB, hE, hA⟩ hH U hU hW⟩⟩ rfl hn hls hst (lv_room hcat) hdg hf) hH.2.2 (fun q _ h => hle q h) hle (fun r2 u2 t H1 locs1 ht hvm hw hB1 hz1 hk1 hS => ?_)
  obtain ⟨D1, b1, b2⟩ := hB1
  rw [ht] at b1
  subst hw
  exact kk D1 H1 locs1 ⟨b1, b2.weaken (fun _ _ _ h => hle _ h), hS⟩
theorem ccV_v {y : MethodName} {bytes : ByteArray} {maxL n index fr lo : Nat} {ret : Option FieldType} {As : List Value} {q0 ci : Nat} {fs : List Value} {C : vw_C} {b : Nat} (hC : cX p c cc nL s m args own G Z A) (hH : cH G Q D T A u s H locs) (hM : Met l y (Cond.code y bytes maxL ret :: wK) { frames := fr, cells := 0, slots := 0, locals := lo } (va_Pc (.ref b :: As) (cPM G Z Q D T u H.size)) (cQv G Q T u1 (va_A (cW G Q D T u) H.size)) 0 0 (va_A (cW G Q D T u) H.size)) (he : (cW G Q D T u)[q0]? = some (b, .inr (ci, fs))) (hc : vwCl[ci]? = some C) (kw : kcV own C.1 y bytes maxL ret index) (hd : y.cls = C.1 ∧ y.cls ≠ "java/lang/invoke/MethodHandle" ∧ y.cls ≠ "java/lang/invoke/VarHandle" ∧ (parseMethodDescriptor y.desc).map (fun d => d.parameters.length) = some n) (hR : fr + 1 ≤ R.frames ∧ 8 + (maxL + 11) + lo ≤ R.locals) (hn : As.length = n) (hls : ls.size = nL) (hst : st0 = As.reverse ++ .ref b :: rest) (hcat : (rest.map fun v => v.category).sum ≤ 8) (hdg : decode cc pc = .ok (.invokevirtual index, 3)) (kk : ∀ (D : Nat × Nat) (H : Heap) (locs : List Loc), cH G Q D T A u1 s H locs → W p l e R s m args below meth c H locs 0 0 Q' (F0 m (pc + 3) ls (rest))) : W p l e R s m args below meth c H locs 0 0 Q' (F0 m pc ls st0) := by
  have hle := cH.sub hC hH
  obtain ⟨hx, hb, hml, hown, hts, hB, hE, hA⟩ := hC
  obtain ⟨k1, k2, k3, k4, k5⟩ := kw
  have hg : GoodIn wK (wsV own index C.1 y (Cond.code y bytes maxL ret :: wK)) := gdV k2 k3 k4 k5 (cgood k1)
  refine va_callv (va_runV (As := As) (rest := rest) (C := C.1) ⟨hx, hb, hml, hown, hts⟩ hM (cwV n hts hg rfl rfl rfl hd hR) ⟨cPM.blind, va_recv hB.1 hH.1 hc he, fun U hU hW => ⟨rfl, cH.pre ⟨hx, hb, hml, hown, hts, hB, hE, hA⟩ hH U hU hW⟩⟩ rfl hn hls hst (lv_room hcat) hdg ⟨Nat.zero_le _, Nat.zero_le _⟩) hH.2.2 (fun q _ h => hle q h) hle (fun u2 t H1 locs1 ht hvm hw hB1 hz1 hk1 hS => ?_)
  obtain ⟨D1, b1, b2⟩ := hB1
  rw [ht] at b1
  exact kk D1 H1 locs1 ⟨b1, b2.weaken (fun _ _ _ h => hle _ h), hS⟩
theorem ccV_vA {y : MethodName} {bytes : ByteArray} {maxL n index fr lo mc ms : Nat} {ret : Option FieldType} {As : List Value} {q0 ci : Nat} {fs : List Value} {C : vw_C} {b : Nat} (hC : cX p c cc nL s m args own G Z A) (hH : cH G Q D T A u s H locs) (hM : Met l y (Cond.code y bytes maxL ret :: wK) { frames := fr, cells := mc, slots := ms, locals := lo } (va_Pc (.ref b :: As) (cPM G Z Q D T u H.size)) (cQv G Q T u1 (va_A (cW G Q D T u) H.size)) mc ms (va_A (cW G Q D T u) H.size)) (he : (cW G Q D T u)[q0]? = some (b, .inr (ci, fs))) (hc : vwCl[ci]? = some C) (kw : kcV own C.1 y bytes maxL ret index) (hd : y.cls = C.1 ∧ y.cls ≠ "java/lang/invoke/MethodHandle" ∧ y.cls ≠ "java/lang/invoke/VarHandle" ∧ (parseMethodDescriptor y.desc).map (fun d => d.parameters.length) = some n) (hR : fr + 1 ≤ R.frames ∧ 8 + (maxL + 11) + lo ≤ R.locals) (hf : cells + mc ≤ R.cells ∧ slots + ms ≤ R.slots) (hn : As.length = n) (hls : ls.size = nL) (hst : st0 = As.reverse ++ .ref b :: rest) (hcat : (rest.map fun v => v.category).sum ≤ 8) (hdg : decode cc pc = .ok (.invokevirtual index, 3)) (kk : ∀ (D : Nat × Nat) (H : Heap) (locs : List Loc), cH G Q D T A u1 s H locs → W p l e R s m args below meth c H locs (cells + mc) (slots + ms) Q' (F0 m (pc + 3) ls (rest))) : W p l e R s m args below meth c H locs cells slots Q' (F0 m pc ls st0) := by
  have hle := cH.sub hC hH
  obtain ⟨hx, hb, hml, hown, hts, hB, hE, hA⟩ := hC
  obtain ⟨k1, k2, k3, k4, k5⟩ := kw
  have hg : GoodIn wK (wsV own index C.1 y (Cond.code y bytes maxL ret :: wK)) := gdV k2 k3 k4 k5 (cgood k1)
  refine va_callv (va_runV (As := As) (rest := rest) (C := C.1) ⟨hx, hb, hml, hown, hts⟩ hM (cwV n hts hg rfl rfl rfl hd hR) ⟨cPM.blind, va_recv hB.1 hH.1 hc he, fun U hU hW => ⟨rfl, cH.pre ⟨hx, hb, hml, hown, hts, hB, hE, hA⟩ hH U hU hW⟩⟩ rfl hn hls hst (lv_room hcat) hdg hf) hH.2.2 (fun q _ h => hle q h) hle (fun u2 t H1 locs1 ht hvm hw hB1 hz1 hk1 hS => ?_)
  obtain ⟨D1, b1, b2⟩ := hB1
  rw [ht] at b1
  exact kk D1 H1 locs1 ⟨b1, b2.weaken (fun _ _ _ h => hle _ h), hS⟩
theorem ccS_i {y : MethodName} {bytes : ByteArray} {maxL n index fr lo : Nat} {ret : Option FieldType} {As : List Value} {r : Int32} (hC : cX p c cc nL s m args own G Z A) (hH : cH G Q D T A u s H locs) (hM : Met l y (Cond.code y bytes maxL ret :: wK) { frames := fr, cells := 0, slots := 0, locals := lo } (va_Pc (As) (cPM G Z Q D T u H.size)) (cQi G Q T u1 r (va_A (cW G Q D T u) H.size)) 0 0 (va_A (cW G Q D T u) H.size)) (kw : kcS own y bytes maxL ret index) (hd : y.cls ≠ "java/lang/invoke/MethodHandle" ∧ y.cls ≠ "java/lang/invoke/VarHandle" ∧ (parseMethodDescriptor y.desc).map (fun d => d.parameters.length) = some n) (hR : fr + 1 ≤ R.frames ∧ 8 + (maxL + 11) + lo ≤ R.locals) (hn : As.length = n) (hls : ls.size = nL) (hst : st0 = As.reverse ++ rest) (hcat : (rest.map fun v => v.category).sum ≤ 8) (hdg : decode cc pc = .ok (.invokestatic index, 3)) (kk : ∀ (D : Nat × Nat) (H : Heap) (locs : List Loc), cH G Q D T A u1 s H locs → W p l e R s m args below meth c H locs 0 0 Q' (F0 m (pc + 3) ls (.int r :: rest))) : W p l e R s m args below meth c H locs 0 0 Q' (F0 m pc ls st0) := by
  have hle := cH.sub hC hH
  obtain ⟨hx, hb, hml, hown, hts, hB, hE, hA⟩ := hC
  obtain ⟨k1, k2, k3, k5⟩ := kw
  have hg : GoodIn wK (va_wsS own index y (Cond.code y bytes maxL ret :: wK)) := gdS k2 k3 k5 (cgood k1)
  refine va_calli (va_runS (As := As) (rest := rest) ⟨hx, hb, hml, hown, hts⟩ hM (va_cwS n hts hg rfl rfl rfl hd hR) ⟨cPM.blind, fun U hU hW => ⟨rfl, cH.pre ⟨hx, hb, hml, hown, hts, hB, hE, hA⟩ hH U hU hW⟩⟩ rfl hn hls hst (lv_room hcat) hdg ⟨Nat.zero_le _, Nat.zero_le _⟩) hH.2.2 (fun q _ h => hle q h) hle (fun r2 u2 t H1 locs1 ht hvm hw hB1 hz1 hk1 hS => ?_)
  obtain ⟨D1, b1, b2⟩ := hB1
  rw [ht] at b1
  subst hw
  exact kk D1 H1 locs1 ⟨b1, b2.weaken (fun _ _ _ h => hle _ h), hS⟩
theorem ccS_iA {y : MethodName} {bytes : ByteArray} {maxL n index fr lo mc ms : Nat} {ret : Option FieldType} {As : List Value} {r : Int32} (hC : cX p c cc nL s m args own G Z A) (hH : cH G Q D T A u s H locs) (hM : Met l y (Cond.code y bytes maxL ret :: wK) { frames := fr, cells := mc, slots := ms, locals := lo } (va_Pc (As) (cPM G Z Q D T u H.size)) (cQi G Q T u1 r (va_A (cW G Q D T u) H.size)) mc ms (va_A (cW G Q D T u) H.size)) (kw : kcS own y bytes maxL ret index) (hd : y.cls ≠ "java/lang/invoke/MethodHandle" ∧ y.cls ≠ "java/lang/invoke/VarHandle" ∧ (parseMethodDescriptor y.desc).map (fun d => d.parameters.length) = some n) (hR : fr + 1 ≤ R.frames ∧ 8 + (maxL + 11) + lo ≤ R.locals) (hf : cells + mc ≤ R.cells ∧ slots + ms ≤ R.slots) (hn : As.length = n) (hls : ls.size = nL) (hst : st0 = As.reverse ++ rest) (hcat : (rest.map fun v => v.category).sum ≤ 8) (hdg : decode cc pc = .ok (.invokestatic index, 3)) (kk : ∀ (D : Nat × Nat) (H : Heap) (locs : List Loc), cH G Q D T A u1 s H locs → W p l e R s m args below meth c H locs (cells + mc) (slots + ms) Q' (F0 m (pc + 3) ls (.int r :: rest))) : W p l e R s m args below meth c H locs cells slots Q' (F0 m pc ls st0) := by
  have hle := cH.sub hC hH
  obtain ⟨hx, hb, hml, hown, hts, hB, hE, hA⟩ := hC
  obtain ⟨k1, k2, k3, k5⟩ := kw
  have hg : GoodIn wK (va_wsS own index y (Cond.code y bytes maxL ret :: wK)) := gdS k2 k3 k5 (cgood k1)
  refine va_calli (va_runS (As := As) (rest := rest) ⟨hx, hb, hml, hown, hts⟩ hM (va_cwS n hts hg rfl rfl rfl hd hR) ⟨cPM.blind, fun U hU hW => ⟨rfl, cH.pre ⟨hx, hb, hml, hown, hts, hB, hE, hA⟩ hH U hU hW⟩⟩ rfl hn hls hst (lv_room hcat) hdg hf) hH.2.2 (fun q _ h => hle q h) hle (fun r2 u2 t H1 locs1 ht hvm hw hB1 hz1 hk1 hS => ?_)
  obtain ⟨D1, b1, b2⟩ := hB1
  rw [ht] at b1
  subst hw
  exact kk D1 H1 locs1 ⟨b1, b2.weaken (fun _ _ _ h => hle _ h), hS⟩
theorem rget {h0 a0 n i j index : Nat} {f : Nat → Int32} {x : Int32} (hC : cX p c cc nL s m args own G Z A) (hH : cH G Q D T A u s H locs) (hi : (cW G Q D T u)[i]? = some (h0, (.inr (10, [.ref a0])))) (hj : (cW G Q D T u)[j]? = some (a0, .inl (gI G, n, .inl f))) (hn : n < 2 ^ 31) (hlk : Cond.methodLink own index yX9_get ∈ wK) (hR : 1 ≤ R.frames ∧ 21 ≤ R.locals) (hls : ls.size = nL) (hcat : (rest.map fun v => v.category).sum ≤ 8) (hf : cells ≤ R.cells ∧ slots ≤ R.slots) (hdg : decode cc pc = .ok (.invokevirtual index, 3)) (kk : W p l e R s m args below meth c H locs cells slots Q' (F0 m (pc + 3) ls (.int (rg f n x) :: rest))) : W p l e R s m args below meth c H locs cells slots Q' (F0 m pc ls (.int x :: .ref h0 :: rest)) := by
  obtain ⟨hx, hb, hml, hown, hts, hB, hE, hA⟩ := hC
  have hP2 : va_P (gD G) vwCl [(h0, (.inr (10, [.ref a0]))), (a0, .inl (gI G, n, .inl f))] H := fun k q hk => match k, hk with | 0, hk => by cases Option.some.inj hk; exact hH.1 i _ hi | 1, hk => by cases Option.some.inj hk; exact hH.1 j _ hj
  refine vp_callSi (va_Run.run (va_runV (As := [.int x]) (rest := rest) ⟨hx, hb, hml, hown, hts⟩ (c_Row_get l G h0 a0 n f x hn) (cwV 1 hts (gdV hlk wka732 wka733 wka753 gl_c_Row_get) rfl rfl rfl kVX9_get ⟨hR.1, hR.2⟩) (preV_p (As := [.int x]) hP2 hB rfl rfl) rfl rfl hls rfl (lv_room hcat) hdg hf)) (fun x9 h9 => ?_)
  subst h9
  exact kk
theorem bat {h0 a0 n i j index : Nat} {f : Nat → Int32} {v1 v2 v3 v4 v5 : Value} {x : Int32} (hC : cX p c cc nL s m args own G Z A) (hH : cH G Q D T A u s H locs) (hi : (cW G Q D T u)[i]? = some (h0, (.inr (2, [.ref a0, v1, v2, v3, v4, v5])))) (hj : (cW G Q D T u)[j]? = some (a0, .inl (gI G, n, .inl f))) (hn : n < 2 ^ 31) (hlk : Cond.methodLink own index yX1_at ∈ wK) (hR : 1 ≤ R.frames ∧ 21 ≤ R.locals) (hls : ls.size = nL) (hcat : (rest.map fun v => v.category).sum ≤ 8) (hf : cells ≤ R.cells ∧ slots ≤ R.slots) (hdg : decode cc pc = .ok (.invokevirtual index, 3)) (kk : W p l e R s m args below meth c H locs cells slots Q' (F0 m (pc + 3) ls (.int (rg f n x) :: rest))) : W p l e R s m args below meth c H locs cells slots Q' (F0 m pc ls (.int x :: .ref h0 :: rest)) := by
  obtain ⟨hx, hb, hml, hown, hts, hB, hE, hA⟩ := hC
  have hP2 : va_P (gD G) vwCl [(h0, (.inr (2, [.ref a0, v1, v2, v3, v4, v5]))), (a0, .inl (gI G, n, .inl f))] H := fun k q hk => match k, hk with | 0, hk => by cases Option.some.inj hk; exact hH.1 i _ hi | 1, hk => by cases Option.some.inj hk; exact hH.1 j _ hj
  refine vp_callSi (va_Run.run (va_runV (As := [.int x]) (rest := rest) ⟨hx, hb, hml, hown, hts⟩ (c_Book_at l G h0 a0 n f v1 v2 v3 v4 v5 x hn) (cwV 1 hts (gdV hlk wka740 wka741 wka745 gl_c_Book_at) rfl rfl rfl kVX1_at ⟨hR.1, hR.2⟩) (preV_p (As := [.int x]) hP2 hB rfl rfl) rfl rfl hls rfl (lv_room hcat) hdg hf)) (fun x9 h9 => ?_)
  subst h9
  exact kk
theorem rset {h0 a0 n i j index : Nat} {f : Nat → Int32} {x y : Int32} (hC : cX p c cc nL s m args own G Z A) (hH : cH G Q D T A u s H locs) (hi : (cW G Q D T u)[i]? = some (h0, (.inr (10, [.ref a0])))) (hj : (cW G Q D T u)[j]? = some (a0, .inl (gI G, n, .inl f))) (hn : n < 2 ^ 31) (hu : (cW G Q D T u).set j (a0, .inl (gI G, n, .inl (rs f n x y))) = cW G Q D T u1) (hlk : Cond.methodLink own index yX9_set ∈ wK) (hR : 1 ≤ R.frames ∧ 22 ≤ R.locals) (hls : ls.size = nL) (hcat : (rest.map fun v => v.category).sum ≤ 8) (hf : cells ≤ R.cells ∧ slots ≤ R.slots) (hdg : decode cc pc = .ok (.invokevirtual index, 3)) (kk : ∀ (H : Heap) (locs : List Loc), cH G Q D T A u1 s H locs → W p l e R s m args below meth c H locs cells slots Q' (F0 m (pc + 3) ls rest)) : W p l e R s m args below meth c H locs cells slots Q' (F0 m pc ls (.int y :: .int x :: .ref h0 :: rest)) := by
  have hle := cH.sub hC hH
  obtain ⟨hx, hb, hml, hown, hts, hB, hE, hA⟩ := hC
  have hP2 : va_P (gD G) vwCl [(h0, (.inr (10, [.ref a0]))), (a0, .inl (gI G, n, .inl f))] H := fun k q hk => match k, hk with | 0, hk => by cases Option.some.inj hk; exact hH.1 i _ hi | 1, hk => by cases Option.some.inj hk; exact hH.1 j _ hj
  have hD2 : va_D (va_A (cW G Q D T u) H.size) [(h0, (.inr (10, [.ref a0]))), (a0, .inl (gI G, n, .inl f))] := c_two hH.2.1 hi hj (fun h => by subst h; cases hi.symm.trans hj) _
  have hF : ∀ q, va_A [(h0, (.inr (10, [.ref a0]))), (a0, .inl (gI G, n, .inl f))] H.size q → A q := fun q hq => by
    rcases hq with ⟨k, e, h⟩ | h
    · exact hle q (hD2.2 k (q, e) h)
    · exact hle q (Or.inr h)
  refine va_callv (va_runV (As := [.int x, .int y]) (rest := rest) ⟨hx, hb, hml, hown, hts⟩ (c_Row_set l G h0 a0 n f x y H.size hn) (cwV 2 hts (gdV hlk wka734 wka735 wka753 gl_c_Row_set) rfl rfl rfl kVX9_set ⟨hR.1, hR.2⟩) (preV_m (As := [.int x, .int y]) hP2 hB hD2 rfl rfl) rfl rfl hls rfl (lv_room hcat) hdg hf) hH.2.2 (fun q _ h => hF q h) hF (fun u2 t H1 locs1 ht hvm hw hB1 hz1 hk1 hS => ?_)
  obtain ⟨hP1, -⟩ := hB1
  rw [ht] at hP1
  obtain ⟨g1, g2⟩ := c_upd hH.1 hH.2.1 hi hj hk1 hP1
  rw [hu] at g1 g2
  exact kk H1 locs1 ⟨g1, g2, hS⟩
theorem rfil {h0 a0 n i j index : Nat} {f : Nat → Int32} {x : Int32} (hC : cX p c cc nL s m args own G Z A) (hH : cH G Q D T A u s H locs) (hi : (cW G Q D T u)[i]? = some (h0, (.inr (10, [.ref a0])))) (hj : (cW G Q D T u)[j]? = some (a0, .inl (gI G, n, .inl f))) (hn : n < 2 ^ 31) (hu : (cW G Q D T u).set j (a0, .inl (gI G, n, .inl (fl n x f))) = cW G Q D T u1) (hlk : Cond.methodLink own index yX9_fill ∈ wK) (hR : 2 ≤ R.frames ∧ 44 ≤ R.locals) (hls : ls.size = nL) (hcat : (rest.map fun v => v.category).sum ≤ 8) (hf : cells ≤ R.cells ∧ slots ≤ R.slots) (hdg : decode cc pc = .ok (.invokevirtual index, 3)) (kk : ∀ (H : Heap) (locs : List Loc), cH G Q D T A u1 s H locs → W p l e R s m args below meth c H locs cells slots Q' (F0 m (pc + 3) ls rest)) : W p l e R s m args below meth c H locs cells slots Q' (F0 m pc ls (.int x :: .ref h0 :: rest)) := by
  have hle := cH.sub hC hH
  obtain ⟨hx, hb, hml, hown, hts, hB, hE, hA⟩ := hC
  have hP2 : va_P (gD G) vwCl [(h0, (.inr (10, [.ref a0]))), (a0, .inl (gI G, n, .inl f))] H := fun k q hk => match k, hk with | 0, hk => by cases Option.some.inj hk; exact hH.1 i _ hi | 1, hk => by cases Option.some.inj hk; exact hH.1 j _ hj
  have hD2 : va_D (va_A (cW G Q D T u) H.size) [(h0, (.inr (10, [.ref a0]))), (a0, .inl (gI G, n, .inl f))] := c_two hH.2.1 hi hj (fun h => by subst h; cases hi.symm.trans hj) _
  have hF : ∀ q, va_A [(h0, (.inr (10, [.ref a0]))), (a0, .inl (gI G, n, .inl f))] H.size q → A q := fun q hq => by
    rcases hq with ⟨k, e, h⟩ | h
    · exact hle q (hD2.2 k (q, e) h)
    · exact hle q (Or.inr h)
  refine va_callv (va_runV (As := [.int x]) (rest := rest) ⟨hx, hb, hml, hown, hts⟩ (c_Row_fill l G h0 a0 n f x H.size hn) (cwV 1 hts (gdV hlk wka736 wka737 wka753 gl_c_Row_fill) rfl rfl rfl kVX9_fill ⟨hR.1, hR.2⟩) (preV_m (As := [.int x]) hP2 hB hD2 rfl rfl) rfl rfl hls rfl (lv_room hcat) hdg hf) hH.2.2 (fun q _ h => hF q h) hF (fun u2 t H1 locs1 ht hvm hw hB1 hz1 hk1 hS => ?_)
  obtain ⟨hP1, -⟩ := hB1
  rw [ht] at hP1
  obtain ⟨g1, g2⟩ := c_upd hH.1 hH.2.1 hi hj hk1 hP1
  rw [hu] at g1 g2
  exact kk H1 locs1 ⟨g1, g2, hS⟩
theorem blay {h0 a0 n i j index : Nat} {f : Nat → Int32} {v1 v2 v3 v4 v5 : Value} {x y : Int32} (hC : cX p c cc nL s m args own G Z A) (hH : cH G Q D T A u s H locs) (hi : (cW G Q D T u)[i]? = some (h0, (.inr (2, [.ref a0, v1, v2, v3, v4, v5])))) (hj : (cW G Q D T u)[j]? = some (a0, .inl (gI G, n, .inl f))) (hn : n < 2 ^ 31) (hu : (cW G Q D T u).set j (a0, .inl (gI G, n, .inl (rs f n x y))) = cW G Q D T u1) (hlk : Cond.methodLink own index yX1_lay ∈ wK) (hR : 1 ≤ R.frames ∧ 22 ≤ R.locals) (hls : ls.size = nL) (hcat : (rest.map fun v => v.category).sum ≤ 8) (hf : cells ≤ R.cells ∧ slots ≤ R.slots) (hdg : decode cc pc = .ok (.invokevirtual index, 3)) (kk : ∀ (H : Heap) (locs : List Loc), cH G Q D T A u1 s H locs → W p l e R s m args below meth c H locs cells slots Q' (F0 m (pc + 3) ls rest)) : W p l e R s m args below meth c H locs cells slots Q' (F0 m pc ls (.int y :: .int x :: .ref h0 :: rest)) := by
  have hle := cH.sub hC hH
  obtain ⟨hx, hb, hml, hown, hts, hB, hE, hA⟩ := hC
  have hP2 : va_P (gD G) vwCl [(h0, (.inr (2, [.ref a0, v1, v2, v3, v4, v5]))), (a0, .inl (gI G, n, .inl f))] H := fun k q hk => match k, hk with | 0, hk => by cases Option.some.inj hk; exact hH.1 i _ hi | 1, hk => by cases Option.some.inj hk; exact hH.1 j _ hj
  have hD2 : va_D (va_A (cW G Q D T u) H.size) [(h0, (.inr (2, [.ref a0, v1, v2, v3, v4, v5]))), (a0, .inl (gI G, n, .inl f))] := c_two hH.2.1 hi hj (fun h => by subst h; cases hi.symm.trans hj) _
  have hF : ∀ q, va_A [(h0, (.inr (2, [.ref a0, v1, v2, v3, v4, v5]))), (a0, .inl (gI G, n, .inl f))] H.size q → A q := fun q hq => by
    rcases hq with ⟨k, e, h⟩ | h
    · exact hle q (hD2.2 k (q, e) h)
    · exact hle q (Or.inr h)
  refine va_callv (va_runV (As := [.int x, .int y]) (rest := rest) ⟨hx, hb, hml, hown, hts⟩ (c_Book_lay l G h0 a0 n f v1 v2 v3 v4 v5 x y H.size hn) (cwV 2 hts (gdV hlk wka742 wka743 wka745 gl_c_Book_lay) rfl rfl rfl kVX1_lay ⟨hR.1, hR.2⟩) (preV_m (As := [.int x, .int y]) hP2 hB hD2 rfl rfl) rfl rfl hls rfl (lv_room hcat) hdg hf) hH.2.2 (fun q _ h => hF q h) hF (fun u2 t H1 locs1 ht hvm hw hB1 hz1 hk1 hS => ?_)
  obtain ⟨hP1, -⟩ := hB1
  rw [ht] at hP1
  obtain ⟨g1, g2⟩ := c_upd hH.1 hH.2.1 hi hj hk1 hP1
  rw [hu] at g1 g2
  exact kk H1 locs1 ⟨g1, g2, hS⟩
theorem cr_i {v r : Int32} (hC : cX p c cc nL s m args own G Z A) (hH : cH G Q D T A u s H locs) (hr : meth.sig.returnType = some .int) (hF : some (v, u) = some (r, u1)) (hdg : decode cc pc = .ok (.ireturn, 1)) (hlocks : meth.locks = false) : W p l e R s m args below meth c H locs 0 0 (MQ below (cQi G Q T u1 r A) args s 0 0 A) (F0 m pc ls [.int v]) := by
  cases hF
  exact W.iret (v := v) hC.1 hC.2.1 hr (fun t ht hW => ⟨⟨_, (), rfl, rfl, D, by rw [ht]; exact hH.1, hH.2.1⟩, hH.2.2.F ht⟩) hH.2.2.2.2 hdg hlocks
theorem cr_iA {v r : Int32} {K1 K2 cc1 dd1 : Nat} (hC : cX p c cc nL s m args own G Z A) (hH : cH G Q D T A u s H locs) (hr : meth.sig.returnType = some .int) (hF : some (v, u, 0, 0) = some (r, u1, cc1, dd1)) (hk1 : K1 = cells + cc1) (hk2 : K2 = slots + dd1) (hdg : decode cc pc = .ok (.ireturn, 1)) (hlocks : meth.locks = false) : W p l e R s m args below meth c H locs cells slots (MQ below (cQi G Q T u1 r A) args s K1 K2 A) (F0 m pc ls [.int v]) := by
  cases hF
  subst hk1
  subst hk2
  exact W.iret (v := v) hC.1 hC.2.1 hr (fun t ht hW => ⟨⟨_, (), rfl, rfl, D, by rw [ht]; exact hH.1, hH.2.1⟩, hH.2.2.F ht⟩) hH.2.2.2.2 hdg hlocks
theorem cr_z {v r : Int32} (hC : cX p c cc nL s m args own G Z A) (hH : cH G Q D T A u s H locs) (hr : meth.sig.returnType = some .boolean) (hz : gb v = true) (hF : some (v, u) = some (r, u1)) (hdg : decode cc pc = .ok (.ireturn, 1)) (hlocks : meth.locks = false) : W p l e R s m args below meth c H locs 0 0 (MQ below (cQi G Q T u1 r A) args s 0 0 A) (F0 m pc ls [.int v]) := by
  cases hF
  exact W.zret (v := v) hC.1 hC.2.1 hr (gb_nar hz) (fun t ht hW => ⟨⟨_, (), rfl, rfl, D, by rw [ht]; exact hH.1, hH.2.1⟩, hH.2.2.F ht⟩) hH.2.2.2.2 hdg hlocks
theorem cr_zA {v r : Int32} {K1 K2 cc1 dd1 : Nat} (hC : cX p c cc nL s m args own G Z A) (hH : cH G Q D T A u s H locs) (hr : meth.sig.returnType = some .boolean) (hz : gb v = true) (hF : some (v, u, 0, 0) = some (r, u1, cc1, dd1)) (hk1 : K1 = cells + cc1) (hk2 : K2 = slots + dd1) (hdg : decode cc pc = .ok (.ireturn, 1)) (hlocks : meth.locks = false) : W p l e R s m args below meth c H locs cells slots (MQ below (cQi G Q T u1 r A) args s K1 K2 A) (F0 m pc ls [.int v]) := by
  cases hF
  subst hk1
  subst hk2
  exact W.zret (v := v) hC.1 hC.2.1 hr (gb_nar hz) (fun t ht hW => ⟨⟨_, (), rfl, rfl, D, by rw [ht]; exact hH.1, hH.2.1⟩, hH.2.2.F ht⟩) hH.2.2.2.2 hdg hlocks
theorem cr_v {v r : Int32} (hC : cX p c cc nL s m args own G Z A) (hH : cH G Q D T A u s H locs) (hr : meth.sig.returnType = none) (hF : some (v, u) = some (r, u1)) (hdg : decode cc pc = .ok (.return_, 1)) (hlocks : meth.locks = false) : W p l e R s m args below meth c H locs 0 0 (MQ below (cQv G Q T u1 A) args s 0 0 A) (F0 m pc ls []) := by
  cases hF
  exact W.vret hC.1 hC.2.1 hr (fun t ht hW => ⟨⟨(), rfl, trivial, D, by rw [ht]; exact hH.1, hH.2.1⟩, hH.2.2.F ht⟩) hH.2.2.2.2 hdg hlocks
theorem cr_vA {v r : Int32} {K1 K2 cc1 dd1 : Nat} (hC : cX p c cc nL s m args own G Z A) (hH : cH G Q D T A u s H locs) (hr : meth.sig.returnType = none) (hF : some (v, u, 0, 0) = some (r, u1, cc1, dd1)) (hk1 : K1 = cells + cc1) (hk2 : K2 = slots + dd1) (hdg : decode cc pc = .ok (.return_, 1)) (hlocks : meth.locks = false) : W p l e R s m args below meth c H locs cells slots (MQ below (cQv G Q T u1 A) args s K1 K2 A) (F0 m pc ls []) := by
  cases hF
  subst hk1
  subst hk2
  exact W.vret hC.1 hC.2.1 hr (fun t ht hW => ⟨⟨(), rfl, trivial, D, by rw [ht]; exact hH.1, hH.2.1⟩, hH.2.2.F ht⟩) hH.2.2.2.2 hdg hlocks
theorem cg_X0_11 (hC : cX p c cc nL s m args RX0 G Z A) (hH : cH G Q D T A u s H locs) (hdg : decode cc pc = .ok (.getfield 11, 3)) (kk : W p l e R s m args below meth c H locs cells slots Q' (F0 m (pc + 3) ls (.ref (Q 1) :: rest))) : W p l e R s m args below meth c H locs cells slots Q' (F0 m pc ls (.ref (Q 6) :: rest)) :=
  va_get (D := gD G) (ci := 1) (v := .ref (Q 1)) (C := RX0) (T := TX0) (N := 6) hC.1 hC.2.1 hC.2.2.2.2.1 wKin_X0 hC.2.2.2.1 hC.2.2.2.2.2.1.1 hH.1 6 rfl rfl 0 (by decide) (hC.2.2.2.2.1 _ wka81) (fun _ h9 => h9) rfl hdg kk
theorem cg_X0_20 (hC : cX p c cc nL s m args RX0 G Z A) (hH : cH G Q D T A u s H locs) (hdg : decode cc pc = .ok (.getfield 20, 3)) (kk : W p l e R s m args below meth c H locs cells slots Q' (F0 m (pc + 3) ls (.ref (Q 44) :: rest))) : W p l e R s m args below meth c H locs cells slots Q' (F0 m pc ls (.ref (Q 6) :: rest)) :=
  va_get (D := gD G) (ci := 1) (v := .ref (Q 44)) (C := RX0) (T := TX0) (N := 6) hC.1 hC.2.1 hC.2.2.2.2.1 wKin_X0 hC.2.2.2.1 hC.2.2.2.2.2.1.1 hH.1 6 rfl rfl 1 (by decide) (hC.2.2.2.2.1 _ wka82) (fun _ h9 => h9) rfl hdg kk
theorem cg_X0_24 (hC : cX p c cc nL s m args RX0 G Z A) (hH : cH G Q D T A u s H locs) (hdg : decode cc pc = .ok (.getfield 24, 3)) (kk : W p l e R s m args below meth c H locs cells slots Q' (F0 m (pc + 3) ls (.ref (Q 46) :: rest))) : W p l e R s m args below meth c H locs cells slots Q' (F0 m pc ls (.ref (Q 6) :: rest)) :=
  va_get (D := gD G) (ci := 1) (v := .ref (Q 46)) (C := RX0) (T := TX0) (N := 6) hC.1 hC.2.1 hC.2.2.2.2.1 wKin_X0 hC.2.2.2.1 hC.2.2.2.2.2.1.1 hH.1 6 rfl rfl 2 (by decide) (hC.2.2.2.2.1 _ wka83) (fun _ h9 => h9) rfl hdg kk
theorem cg_X0_27 (hC : cX p c cc nL s m args RX0 G Z A) (hH : cH G Q D T A u s H locs) (hdg : decode cc pc = .ok (.getfield 27, 3)) (kk : W p l e R s m args below meth c H locs cells slots Q' (F0 m (pc + 3) ls (.ref (Q 48) :: rest))) : W p l e R s m args below meth c H locs cells slots Q' (F0 m pc ls (.ref (Q 6) :: rest)) :=
  va_get (D := gD G) (ci := 1) (v := .ref (Q 48)) (C := RX0) (T := TX0) (N := 6) hC.1 hC.2.1 hC.2.2.2.2.1 wKin_X0 hC.2.2.2.1 hC.2.2.2.2.2.1.1 hH.1 6 rfl rfl 3 (by decide) (hC.2.2.2.2.1 _ wka84) (fun _ h9 => h9) rfl hdg kk
theorem cg_X0_30 (hC : cX p c cc nL s m args RX0 G Z A) (hH : cH G Q D T A u s H locs) (hdg : decode cc pc = .ok (.getfield 30, 3)) (kk : W p l e R s m args below meth c H locs cells slots Q' (F0 m (pc + 3) ls (.ref (Q 50) :: rest))) : W p l e R s m args below meth c H locs cells slots Q' (F0 m pc ls (.ref (Q 6) :: rest)) :=
  va_get (D := gD G) (ci := 1) (v := .ref (Q 50)) (C := RX0) (T := TX0) (N := 6) hC.1 hC.2.1 hC.2.2.2.2.1 wKin_X0 hC.2.2.2.1 hC.2.2.2.2.2.1.1 hH.1 6 rfl rfl 4 (by decide) (hC.2.2.2.2.1 _ wka85) (fun _ h9 => h9) rfl hdg kk
theorem cg_X0_33 (hC : cX p c cc nL s m args RX0 G Z A) (hH : cH G Q D T A u s H locs) (hdg : decode cc pc = .ok (.getfield 33, 3)) (kk : W p l e R s m args below meth c H locs cells slots Q' (F0 m (pc + 3) ls (.ref (Q 52) :: rest))) : W p l e R s m args below meth c H locs cells slots Q' (F0 m pc ls (.ref (Q 6) :: rest)) :=
  va_get (D := gD G) (ci := 1) (v := .ref (Q 52)) (C := RX0) (T := TX0) (N := 6) hC.1 hC.2.1 hC.2.2.2.2.1 wKin_X0 hC.2.2.2.1 hC.2.2.2.2.2.1.1 hH.1 6 rfl rfl 5 (by decide) (hC.2.2.2.2.1 _ wka86) (fun _ h9 => h9) rfl hdg kk
theorem cg_X1_22 (hC : cX p c cc nL s m args RX1 G Z A) (hH : cH G Q D T A u s H locs) (hdg : decode cc pc = .ok (.getfield 22, 3)) (kk : W p l e R s m args below meth c H locs cells slots Q' (F0 m (pc + 3) ls (.ref (Q 20) :: rest))) : W p l e R s m args below meth c H locs cells slots Q' (F0 m pc ls (.ref (Q 1) :: rest)) :=
  va_get (D := gD G) (ci := 2) (v := .ref (Q 20)) (C := RX1) (T := TX1) (N := 6) hC.1 hC.2.1 hC.2.2.2.2.1 wKin_X1 hC.2.2.2.1 hC.2.2.2.2.2.1.1 hH.1 1 rfl rfl 1 (by decide) (hC.2.2.2.2.1 _ wka15) (fun _ h9 => h9) rfl hdg kk
theorem cg_X1_26 (hC : cX p c cc nL s m args RX1 G Z A) (hH : cH G Q D T A u s H locs) (hdg : decode cc pc = .ok (.getfield 26, 3)) (kk : W p l e R s m args below meth c H locs cells slots Q' (F0 m (pc + 3) ls (.ref (Q 22) :: rest))) : W p l e R s m args below meth c H locs cells slots Q' (F0 m pc ls (.ref (Q 1) :: rest)) :=
  va_get (D := gD G) (ci := 2) (v := .ref (Q 22)) (C := RX1) (T := TX1) (N := 6) hC.1 hC.2.1 hC.2.2.2.2.1 wKin_X1 hC.2.2.2.1 hC.2.2.2.2.2.1.1 hH.1 1 rfl rfl 2 (by decide) (hC.2.2.2.2.1 _ wka16) (fun _ h9 => h9) rfl hdg kk
theorem cg_X1_29 (hC : cX p c cc nL s m args RX1 G Z A) (hH : cH G Q D T A u s H locs) (hdg : decode cc pc = .ok (.getfield 29, 3)) (kk : W p l e R s m args below meth c H locs cells slots Q' (F0 m (pc + 3) ls (.ref (Q 24) :: rest))) : W p l e R s m args below meth c H locs cells slots Q' (F0 m pc ls (.ref (Q 1) :: rest)) :=
  va_get (D := gD G) (ci := 2) (v := .ref (Q 24)) (C := RX1) (T := TX1) (N := 6) hC.1 hC.2.1 hC.2.2.2.2.1 wKin_X1 hC.2.2.2.1 hC.2.2.2.2.2.1.1 hH.1 1 rfl rfl 3 (by decide) (hC.2.2.2.2.1 _ wka17) (fun _ h9 => h9) rfl hdg kk
theorem cg_X1_50 (hC : cX p c cc nL s m args RX1 G Z A) (hH : cH G Q D T A u s H locs) (hdg : decode cc pc = .ok (.getfield 50, 3)) (kk : W p l e R s m args below meth c H locs cells slots Q' (F0 m (pc + 3) ls (.int (u.1 0) :: rest))) : W p l e R s m args below meth c H locs cells slots Q' (F0 m pc ls (.ref (Q 1) :: rest)) :=
  va_get (D := gD G) (ci := 2) (v := .int (u.1 0)) (C := RX1) (T := TX1) (N := 6) hC.1 hC.2.1 hC.2.2.2.2.1 wKin_X1 hC.2.2.2.1 hC.2.2.2.2.2.1.1 hH.1 1 rfl rfl 4 (by decide) (hC.2.2.2.2.1 _ wka18) (fun _ h9 => h9) rfl hdg kk
theorem cp_X1_50 {x : Int32} (hC : cX p c cc nL s m args RX1 G Z A) (hH : cH G Q D T A u s H locs) (hu : si u 0 x = u1) (hdg : decode cc pc = .ok (.putfield 50, 3)) (kk : ∀ (H : Heap) (locs : List Loc), cH G Q D T A u1 s H locs → W p l e R s m args below meth c H locs cells slots Q' (F0 m (pc + 3) ls rest)) : W p l e R s m args below meth c H locs cells slots Q' (F0 m pc ls (.int x :: .ref (Q 1) :: rest)) := by
  subst hu
  exact va_put (D := gD G) (ci := 2) (v := .int x) (ty := tyX1 4) (C := RX1) (T := TX1) (N := 6) hC.1 hC.2.1 hC.2.2.2.2.1 wKin_X1 tyX1 tyX1_ok nmX1 hC.2.2.2.1 hC.2.2.2.2.2.1.1 hH.1 hH.2.1 hH.2.2 1 rfl rfl 4 (by decide) (hC.2.2.2.2.1 _ wka18) (fun _ h9 => h9) rfl (tyX1_ok 4 (by decide)) rfl rfl (Nat.le_of_ble_eq_true rfl) hdg (fun H locs a b d => kk H locs ⟨a, b, d⟩)
theorem cg_X1_61 (hC : cX p c cc nL s m args RX1 G Z A) (hH : cH G Q D T A u s H locs) (hdg : decode cc pc = .ok (.getfield 61, 3)) (kk : W p l e R s m args below meth c H locs cells slots Q' (F0 m (pc + 3) ls (.int (u.1 1) :: rest))) : W p l e R s m args below meth c H locs cells slots Q' (F0 m pc ls (.ref (Q 1) :: rest)) :=
  va_get (D := gD G) (ci := 2) (v := .int (u.1 1)) (C := RX1) (T := TX1) (N := 6) hC.1 hC.2.1 hC.2.2.2.2.1 wKin_X1 hC.2.2.2.1 hC.2.2.2.2.2.1.1 hH.1 1 rfl rfl 5 (by decide) (hC.2.2.2.2.1 _ wka19) (fun _ h9 => h9) rfl hdg kk
theorem cp_X1_61 {x : Int32} (hC : cX p c cc nL s m args RX1 G Z A) (hH : cH G Q D T A u s H locs) (hu : si u 1 x = u1) (hdg : decode cc pc = .ok (.putfield 61, 3)) (kk : ∀ (H : Heap) (locs : List Loc), cH G Q D T A u1 s H locs → W p l e R s m args below meth c H locs cells slots Q' (F0 m (pc + 3) ls rest)) : W p l e R s m args below meth c H locs cells slots Q' (F0 m pc ls (.int x :: .ref (Q 1) :: rest)) := by
  subst hu
  exact va_put (D := gD G) (ci := 2) (v := .int x) (ty := tyX1 5) (C := RX1) (T := TX1) (N := 6) hC.1 hC.2.1 hC.2.2.2.2.1 wKin_X1 tyX1 tyX1_ok nmX1 hC.2.2.2.1 hC.2.2.2.2.2.1.1 hH.1 hH.2.1 hH.2.2 1 rfl rfl 5 (by decide) (hC.2.2.2.2.1 _ wka19) (fun _ h9 => h9) rfl (tyX1_ok 5 (by decide)) rfl rfl (Nat.le_of_ble_eq_true rfl) hdg (fun H locs a b d => kk H locs ⟨a, b, d⟩)
theorem cg_X10_14 (hC : cX p c cc nL s m args RX10 G Z A) (hH : cH G Q D T A u s H locs) (hdg : decode cc pc = .ok (.getfield 14, 3)) (kk : W p l e R s m args below meth c H locs cells slots Q' (F0 m (pc + 3) ls (.ref (Q 26) :: rest))) : W p l e R s m args below meth c H locs cells slots Q' (F0 m pc ls (.ref (Q 2) :: rest)) :=
  va_get (D := gD G) (ci := 11) (v := .ref (Q 26)) (C := RX10) (T := TX10) (N := 6) hC.1 hC.2.1 hC.2.2.2.2.1 wKin_X10 hC.2.2.2.1 hC.2.2.2.2.2.1.1 hH.1 2 rfl rfl 0 (by decide) (hC.2.2.2.2.1 _ wka25) (fun _ h9 => h9) rfl hdg kk
theorem cg_X10_18 (hC : cX p c cc nL s m args RX10 G Z A) (hH : cH G Q D T A u s H locs) (hdg : decode cc pc = .ok (.getfield 18, 3)) (kk : W p l e R s m args below meth c H locs cells slots Q' (F0 m (pc + 3) ls (.int (u.1 2) :: rest))) : W p l e R s m args below meth c H locs cells slots Q' (F0 m pc ls (.ref (Q 2) :: rest)) :=
  va_get (D := gD G) (ci := 11) (v := .int (u.1 2)) (C := RX10) (T := TX10) (N := 6) hC.1 hC.2.1 hC.2.2.2.2.1 wKin_X10 hC.2.2.2.1 hC.2.2.2.2.2.1.1 hH.1 2 rfl rfl 1 (by decide) (hC.2.2.2.2.1 _ wka26) (fun _ h9 => h9) rfl hdg kk
theorem cp_X10_18 {x : Int32} (hC : cX p c cc nL s m args RX10 G Z A) (hH : cH G Q D T A u s H locs) (hu : si u 2 x = u1) (hdg : decode cc pc = .ok (.putfield 18, 3)) (kk : ∀ (H : Heap) (locs : List Loc), cH G Q D T A u1 s H locs → W p l e R s m args below meth c H locs cells slots Q' (F0 m (pc + 3) ls rest)) : W p l e R s m args below meth c H locs cells slots Q' (F0 m pc ls (.int x :: .ref (Q 2) :: rest)) := by
  subst hu
  exact va_put (D := gD G) (ci := 11) (v := .int x) (ty := tyX10 1) (C := RX10) (T := TX10) (N := 6) hC.1 hC.2.1 hC.2.2.2.2.1 wKin_X10 tyX10 tyX10_ok nmX10 hC.2.2.2.1 hC.2.2.2.2.2.1.1 hH.1 hH.2.1 hH.2.2 2 rfl rfl 1 (by decide) (hC.2.2.2.2.1 _ wka26) (fun _ h9 => h9) rfl (tyX10_ok 1 (by decide)) rfl rfl (Nat.le_of_ble_eq_true rfl) hdg (fun H locs a b d => kk H locs ⟨a, b, d⟩)
theorem cg_X10_25 (hC : cX p c cc nL s m args RX10 G Z A) (hH : cH G Q D T A u s H locs) (hdg : decode cc pc = .ok (.getfield 25, 3)) (kk : W p l e R s m args below meth c H locs cells slots Q' (F0 m (pc + 3) ls (.int (u.1 3) :: rest))) : W p l e R s m args below meth c H locs cells slots Q' (F0 m pc ls (.ref (Q 2) :: rest)) :=
  va_get (D := gD G) (ci := 11) (v := .int (u.1 3)) (C := RX10) (T := TX10) (N := 6) hC.1 hC.2.1 hC.2.2.2.2.1 wKin_X10 hC.2.2.2.1 hC.2.2.2.2.2.1.1 hH.1 2 rfl rfl 2 (by decide) (hC.2.2.2.2.1 _ wka27) (fun _ h9 => h9) rfl hdg kk
theorem cp_X10_25 {x : Int32} (hC : cX p c cc nL s m args RX10 G Z A) (hH : cH G Q D T A u s H locs) (hu : si u 3 x = u1) (hdg : decode cc pc = .ok (.putfield 25, 3)) (kk : ∀ (H : Heap) (locs : List Loc), cH G Q D T A u1 s H locs → W p l e R s m args below meth c H locs cells slots Q' (F0 m (pc + 3) ls rest)) : W p l e R s m args below meth c H locs cells slots Q' (F0 m pc ls (.int x :: .ref (Q 2) :: rest)) := by
  subst hu
  exact va_put (D := gD G) (ci := 11) (v := .int x) (ty := tyX10 2) (C := RX10) (T := TX10) (N := 6) hC.1 hC.2.1 hC.2.2.2.2.1 wKin_X10 tyX10 tyX10_ok nmX10 hC.2.2.2.1 hC.2.2.2.2.2.1.1 hH.1 hH.2.1 hH.2.2 2 rfl rfl 2 (by decide) (hC.2.2.2.2.1 _ wka27) (fun _ h9 => h9) rfl (tyX10_ok 2 (by decide)) rfl rfl (Nat.le_of_ble_eq_true rfl) hdg (fun H locs a b d => kk H locs ⟨a, b, d⟩)
theorem cg_X10_36 (hC : cX p c cc nL s m args RX10 G Z A) (hH : cH G Q D T A u s H locs) (hdg : decode cc pc = .ok (.getfield 36, 3)) (kk : W p l e R s m args below meth c H locs cells slots Q' (F0 m (pc + 3) ls (.int (u.1 5) :: rest))) : W p l e R s m args below meth c H locs cells slots Q' (F0 m pc ls (.ref (Q 2) :: rest)) :=
  va_get (D := gD G) (ci := 11) (v := .int (u.1 5)) (C := RX10) (T := TX10) (N := 6) hC.1 hC.2.1 hC.2.2.2.2.1 wKin_X10 hC.2.2.2.1 hC.2.2.2.2.2.1.1 hH.1 2 rfl rfl 4 (by decide) (hC.2.2.2.2.1 _ wka29) (fun _ h9 => h9) rfl hdg kk
theorem cp_X10_36 {x : Int32} (hC : cX p c cc nL s m args RX10 G Z A) (hH : cH G Q D T A u s H locs) (hu : si u 5 x = u1) (hdg : decode cc pc = .ok (.putfield 36, 3)) (kk : ∀ (H : Heap) (locs : List Loc), cH G Q D T A u1 s H locs → W p l e R s m args below meth c H locs cells slots Q' (F0 m (pc + 3) ls rest)) : W p l e R s m args below meth c H locs cells slots Q' (F0 m pc ls (.int x :: .ref (Q 2) :: rest)) := by
  subst hu
  exact va_put (D := gD G) (ci := 11) (v := .int x) (ty := tyX10 4) (C := RX10) (T := TX10) (N := 6) hC.1 hC.2.1 hC.2.2.2.2.1 wKin_X10 tyX10 tyX10_ok nmX10 hC.2.2.2.1 hC.2.2.2.2.2.1.1 hH.1 hH.2.1 hH.2.2 2 rfl rfl 4 (by decide) (hC.2.2.2.2.1 _ wka29) (fun _ h9 => h9) rfl (tyX10_ok 4 (by decide)) rfl rfl (Nat.le_of_ble_eq_true rfl) hdg (fun H locs a b d => kk H locs ⟨a, b, d⟩)
theorem cp_X10_39 {x : Int32} (hC : cX p c cc nL s m args RX10 G Z A) (hH : cH G Q D T A u s H locs) (hu : si u 4 x = u1) (hdg : decode cc pc = .ok (.putfield 39, 3)) (kk : ∀ (H : Heap) (locs : List Loc), cH G Q D T A u1 s H locs → W p l e R s m args below meth c H locs cells slots Q' (F0 m (pc + 3) ls rest)) : W p l e R s m args below meth c H locs cells slots Q' (F0 m pc ls (.int x :: .ref (Q 2) :: rest)) := by
  subst hu
  exact va_put (D := gD G) (ci := 11) (v := .int x) (ty := tyX10 3) (C := RX10) (T := TX10) (N := 6) hC.1 hC.2.1 hC.2.2.2.2.1 wKin_X10 tyX10 tyX10_ok nmX10 hC.2.2.2.1 hC.2.2.2.2.2.1.1 hH.1 hH.2.1 hH.2.2 2 rfl rfl 3 (by decide) (hC.2.2.2.2.1 _ wka28) (fun _ h9 => h9) rfl (tyX10_ok 3 (by decide)) rfl rfl (Nat.le_of_ble_eq_true rfl) hdg (fun H locs a b d => kk H locs ⟨a, b, d⟩)
theorem cg_X10_61 (hC : cX p c cc nL s m args RX10 G Z A) (hH : cH G Q D T A u s H locs) (hdg : decode cc pc = .ok (.getfield 61, 3)) (kk : W p l e R s m args below meth c H locs cells slots Q' (F0 m (pc + 3) ls (.int (u.1 6) :: rest))) : W p l e R s m args below meth c H locs cells slots Q' (F0 m pc ls (.ref (Q 2) :: rest)) :=
  va_get (D := gD G) (ci := 11) (v := .int (u.1 6)) (C := RX10) (T := TX10) (N := 6) hC.1 hC.2.1 hC.2.2.2.2.1 wKin_X10 hC.2.2.2.1 hC.2.2.2.2.2.1.1 hH.1 2 rfl rfl 5 (by decide) (hC.2.2.2.2.1 _ wka30) (fun _ h9 => h9) rfl hdg kk
theorem cp_X10_61 {x : Int32} (hC : cX p c cc nL s m args RX10 G Z A) (hH : cH G Q D T A u s H locs) (hu : si u 6 x = u1) (hdg : decode cc pc = .ok (.putfield 61, 3)) (kk : ∀ (H : Heap) (locs : List Loc), cH G Q D T A u1 s H locs → W p l e R s m args below meth c H locs cells slots Q' (F0 m (pc + 3) ls rest)) : W p l e R s m args below meth c H locs cells slots Q' (F0 m pc ls (.int x :: .ref (Q 2) :: rest)) := by
  subst hu
  exact va_put (D := gD G) (ci := 11) (v := .int x) (ty := tyX10 5) (C := RX10) (T := TX10) (N := 6) hC.1 hC.2.1 hC.2.2.2.2.1 wKin_X10 tyX10 tyX10_ok nmX10 hC.2.2.2.1 hC.2.2.2.2.2.1.1 hH.1 hH.2.1 hH.2.2 2 rfl rfl 5 (by decide) (hC.2.2.2.2.1 _ wka30) (fun _ h9 => h9) rfl (tyX10_ok 5 (by decide)) rfl rfl (Nat.le_of_ble_eq_true rfl) hdg (fun H locs a b d => kk H locs ⟨a, b, d⟩)
theorem cg_X11_10 (hC : cX p c cc nL s m args RX11 G Z A) (hH : cH G Q D T A u s H locs) (hdg : decode cc pc = .ok (.getfield 10, 3)) (kk : W p l e R s m args below meth c H locs cells slots Q' (F0 m (pc + 3) ls (.ref (Q 1) :: rest))) : W p l e R s m args below meth c H locs cells slots Q' (F0 m pc ls (.ref (Q 0) :: rest)) :=
  va_get (D := gD G) (ci := 12) (v := .ref (Q 1)) (C := RX11) (T := TX11) (N := 11) hC.1 hC.2.1 hC.2.2.2.2.1 wKin_X11 hC.2.2.2.1 hC.2.2.2.2.2.1.1 hH.1 0 rfl rfl 0 (by decide) (hC.2.2.2.2.1 _ wka128) (fun _ h9 => h9) rfl hdg kk
theorem cg_X11_19 (hC : cX p c cc nL s m args RX11 G Z A) (hH : cH G Q D T A u s H locs) (hdg : decode cc pc = .ok (.getfield 19, 3)) (kk : W p l e R s m args below meth c H locs cells slots Q' (F0 m (pc + 3) ls (.ref (Q 2) :: rest))) : W p l e R s m args below meth c H locs cells slots Q' (F0 m pc ls (.ref (Q 0) :: rest)) :=
  va_get (D := gD G) (ci := 12) (v := .ref (Q 2)) (C := RX11) (T := TX11) (N := 11) hC.1 hC.2.1 hC.2.2.2.2.1 wKin_X11 hC.2.2.2.1 hC.2.2.2.2.2.1.1 hH.1 0 rfl rfl 1 (by decide) (hC.2.2.2.2.1 _ wka129) (fun _ h9 => h9) rfl hdg kk
theorem cg_X11_28 (hC : cX p c cc nL s m args RX11 G Z A) (hH : cH G Q D T A u s H locs) (hdg : decode cc pc = .ok (.getfield 28, 3)) (kk : W p l e R s m args below meth c H locs cells slots Q' (F0 m (pc + 3) ls (.ref (Q 3) :: rest))) : W p l e R s m args below meth c H locs cells slots Q' (F0 m pc ls (.ref (Q 0) :: rest)) :=
  va_get (D := gD G) (ci := 12) (v := .ref (Q 3)) (C := RX11) (T := TX11) (N := 11) hC.1 hC.2.1 hC.2.2.2.2.1 wKin_X11 hC.2.2.2.1 hC.2.2.2.2.2.1.1 hH.1 0 rfl rfl 2 (by decide) (hC.2.2.2.2.1 _ wka130) (fun _ h9 => h9) rfl hdg kk
theorem cg_X11_37 (hC : cX p c cc nL s m args RX11 G Z A) (hH : cH G Q D T A u s H locs) (hdg : decode cc pc = .ok (.getfield 37, 3)) (kk : W p l e R s m args below meth c H locs cells slots Q' (F0 m (pc + 3) ls (.ref (Q 4) :: rest))) : W p l e R s m args below meth c H locs cells slots Q' (F0 m pc ls (.ref (Q 0) :: rest)) :=
  va_get (D := gD G) (ci := 12) (v := .ref (Q 4)) (C := RX11) (T := TX11) (N := 11) hC.1 hC.2.1 hC.2.2.2.2.1 wKin_X11 hC.2.2.2.1 hC.2.2.2.2.2.1.1 hH.1 0 rfl rfl 3 (by decide) (hC.2.2.2.2.1 _ wka131) (fun _ h9 => h9) rfl hdg kk
theorem cg_X11_44 (hC : cX p c cc nL s m args RX11 G Z A) (hH : cH G Q D T A u s H locs) (hdg : decode cc pc = .ok (.getfield 44, 3)) (kk : W p l e R s m args below meth c H locs cells slots Q' (F0 m (pc + 3) ls (.ref (Q 5) :: rest))) : W p l e R s m args below meth c H locs cells slots Q' (F0 m pc ls (.ref (Q 0) :: rest)) :=
  va_get (D := gD G) (ci := 12) (v := .ref (Q 5)) (C := RX11) (T := TX11) (N := 11) hC.1 hC.2.1 hC.2.2.2.2.1 wKin_X11 hC.2.2.2.1 hC.2.2.2.2.2.1.1 hH.1 0 rfl rfl 4 (by decide) (hC.2.2.2.2.1 _ wka132) (fun _ h9 => h9) rfl hdg kk
theorem cg_X11_51 (hC : cX p c cc nL s m args RX11 G Z A) (hH : cH G Q D T A u s H locs) (hdg : decode cc pc = .ok (.getfield 51, 3)) (kk : W p l e R s m args below meth c H locs cells slots Q' (F0 m (pc + 3) ls (.ref (Q 6) :: rest))) : W p l e R s m args below meth c H locs cells slots Q' (F0 m pc ls (.ref (Q 0) :: rest)) :=
  va_get (D := gD G) (ci := 12) (v := .ref (Q 6)) (C := RX11) (T := TX11) (N := 11) hC.1 hC.2.1 hC.2.2.2.2.1 wKin_X11 hC.2.2.2.1 hC.2.2.2.2.2.1.1 hH.1 0 rfl rfl 5 (by decide) (hC.2.2.2.2.1 _ wka133) (fun _ h9 => h9) rfl hdg kk
theorem cg_X11_60 (hC : cX p c cc nL s m args RX11 G Z A) (hH : cH G Q D T A u s H locs) (hdg : decode cc pc = .ok (.getfield 60, 3)) (kk : W p l e R s m args below meth c H locs cells slots Q' (F0 m (pc + 3) ls (.ref (Q 7) :: rest))) : W p l e R s m args below meth c H locs cells slots Q' (F0 m pc ls (.ref (Q 0) :: rest)) :=
  va_get (D := gD G) (ci := 12) (v := .ref (Q 7)) (C := RX11) (T := TX11) (N := 11) hC.1 hC.2.1 hC.2.2.2.2.1 wKin_X11 hC.2.2.2.1 hC.2.2.2.2.2.1.1 hH.1 0 rfl rfl 6 (by decide) (hC.2.2.2.2.1 _ wka134) (fun _ h9 => h9) rfl hdg kk
theorem cg_X11_67 (hC : cX p c cc nL s m args RX11 G Z A) (hH : cH G Q D T A u s H locs) (hdg : decode cc pc = .ok (.getfield 67, 3)) (kk : W p l e R s m args below meth c H locs cells slots Q' (F0 m (pc + 3) ls (.ref (Q 8) :: rest))) : W p l e R s m args below meth c H locs cells slots Q' (F0 m pc ls (.ref (Q 0) :: rest)) :=
  va_get (D := gD G) (ci := 12) (v := .ref (Q 8)) (C := RX11) (T := TX11) (N := 11) hC.1 hC.2.1 hC.2.2.2.2.1 wKin_X11 hC.2.2.2.1 hC.2.2.2.2.2.1.1 hH.1 0 rfl rfl 7 (by decide) (hC.2.2.2.2.1 _ wka135) (fun _ h9 => h9) rfl hdg kk
theorem cg_X11_74 (hC : cX p c cc nL s m args RX11 G Z A) (hH : cH G Q D T A u s H locs) (hdg : decode cc pc = .ok (.getfield 74, 3)) (kk : W p l e R s m args below meth c H locs cells slots Q' (F0 m (pc + 3) ls (.ref (Q 9) :: rest))) : W p l e R s m args below meth c H locs cells slots Q' (F0 m pc ls (.ref (Q 0) :: rest)) :=
  va_get (D := gD G) (ci := 12) (v := .ref (Q 9)) (C := RX11) (T := TX11) (N := 11) hC.1 hC.2.1 hC.2.2.2.2.1 wKin_X11 hC.2.2.2.1 hC.2.2.2.2.2.1.1 hH.1 0 rfl rfl 8 (by decide) (hC.2.2.2.2.1 _ wka136) (fun _ h9 => h9) rfl hdg kk
theorem cg_X11_81 (hC : cX p c cc nL s m args RX11 G Z A) (hH : cH G Q D T A u s H locs) (hdg : decode cc pc = .ok (.getfield 81, 3)) (kk : W p l e R s m args below meth c H locs cells slots Q' (F0 m (pc + 3) ls (.ref (Q 14) :: rest))) : W p l e R s m args below meth c H locs cells slots Q' (F0 m pc ls (.ref (Q 0) :: rest)) :=
  va_get (D := gD G) (ci := 12) (v := .ref (Q 14)) (C := RX11) (T := TX11) (N := 11) hC.1 hC.2.1 hC.2.2.2.2.1 wKin_X11 hC.2.2.2.1 hC.2.2.2.2.2.1.1 hH.1 0 rfl rfl 9 (by decide) (hC.2.2.2.2.1 _ wka137) (fun _ h9 => h9) rfl hdg kk
theorem cg_X11_88 (hC : cX p c cc nL s m args RX11 G Z A) (hH : cH G Q D T A u s H locs) (hdg : decode cc pc = .ok (.getfield 88, 3)) (kk : W p l e R s m args below meth c H locs cells slots Q' (F0 m (pc + 3) ls (.ref (Q 13) :: rest))) : W p l e R s m args below meth c H locs cells slots Q' (F0 m pc ls (.ref (Q 0) :: rest)) :=
  va_get (D := gD G) (ci := 12) (v := .ref (Q 13)) (C := RX11) (T := TX11) (N := 11) hC.1 hC.2.1 hC.2.2.2.2.1 wKin_X11 hC.2.2.2.1 hC.2.2.2.2.2.1.1 hH.1 0 rfl rfl 10 (by decide) (hC.2.2.2.2.1 _ wka138) (fun _ h9 => h9) rfl hdg kk
theorem cg_X11_92 (hC : cX p c cc nL s m args RX11 G Z A) (hH : cH G Q D T A u s H locs) (hdg : decode cc pc = .ok (.getfield 92, 3)) (kk : W p l e R s m args below meth c H locs cells slots Q' (F0 m (pc + 3) ls (.int (u.1 2) :: rest))) : W p l e R s m args below meth c H locs cells slots Q' (F0 m pc ls (.ref (Q 2) :: rest)) :=
  va_getN (D := gD G) (ci := 11) (v := .int (u.1 2)) (C := RX10) (T := TX10) (N := 6) hC.1 hC.2.1 hC.2.2.2.2.1 wKin_X10 hC.2.2.2.1 hC.2.2.2.2.2.1.1 hH.1 2 rfl rfl 1 (by decide) (hC.2.2.2.2.2.1.nf 0 rfl) (fun _ h9 => h9) rfl hdg kk
theorem cp_X11_92 {x : Int32} (hC : cX p c cc nL s m args RX11 G Z A) (hH : cH G Q D T A u s H locs) (hu : si u 2 x = u1) (hdg : decode cc pc = .ok (.putfield 92, 3)) (kk : ∀ (H : Heap) (locs : List Loc), cH G Q D T A u1 s H locs → W p l e R s m args below meth c H locs cells slots Q' (F0 m (pc + 3) ls rest)) : W p l e R s m args below meth c H locs cells slots Q' (F0 m pc ls (.int x :: .ref (Q 2) :: rest)) := by
  subst hu
  exact va_putN (D := gD G) (ci := 11) (v := .int x) (ty := tyX10 1) (C := RX10) (T := TX10) (N := 6) hC.1 hC.2.1 hC.2.2.2.2.1 wKin_X10 tyX10 tyX10_ok nmX10 hC.2.2.2.1 hC.2.2.2.2.2.1.1 hH.1 hH.2.1 hH.2.2 2 rfl rfl 1 (by decide) (hC.2.2.2.2.2.1.nf 0 rfl) (fun _ h9 => h9) rfl (tyX10_ok 1 (by decide)) rfl rfl (Nat.le_of_ble_eq_true rfl) hdg (fun H locs a b d => kk H locs ⟨a, b, d⟩)
theorem cg_X11_128 (hC : cX p c cc nL s m args RX11 G Z A) (hH : cH G Q D T A u s H locs) (hdg : decode cc pc = .ok (.getfield 128, 3)) (kk : W p l e R s m args below meth c H locs cells slots Q' (F0 m (pc + 3) ls (.int (u.1 11) :: rest))) : W p l e R s m args below meth c H locs cells slots Q' (F0 m pc ls (.ref (Q 3) :: rest)) :=
  va_getN (D := gD G) (ci := 6) (v := .int (u.1 11)) (C := RX5) (T := TX5) (N := 14) hC.1 hC.2.1 hC.2.2.2.2.1 wKin_X5 hC.2.2.2.1 hC.2.2.2.2.2.1.1 hH.1 3 rfl rfl 9 (by decide) (hC.2.2.2.2.2.1.nf 2 rfl) (fun _ h9 => h9) rfl hdg kk
theorem cg_X11_131 (hC : cX p c cc nL s m args RX11 G Z A) (hH : cH G Q D T A u s H locs) (hdg : decode cc pc = .ok (.getfield 131, 3)) (kk : W p l e R s m args below meth c H locs cells slots Q' (F0 m (pc + 3) ls (.int (u.1 10) :: rest))) : W p l e R s m args below meth c H locs cells slots Q' (F0 m pc ls (.ref (Q 3) :: rest)) :=
  va_getN (D := gD G) (ci := 6) (v := .int (u.1 10)) (C := RX5) (T := TX5) (N := 14) hC.1 hC.2.1 hC.2.2.2.2.1 wKin_X5 hC.2.2.2.1 hC.2.2.2.2.2.1.1 hH.1 3 rfl rfl 8 (by decide) (hC.2.2.2.2.2.1.nf 3 rfl) (fun _ h9 => h9) rfl hdg kk
theorem cg_X11_314 (hC : cX p c cc nL s m args RX11 G Z A) (hH : cH G Q D T A u s H locs) (hdg : decode cc pc = .ok (.getfield 314, 3)) (kk : W p l e R s m args below meth c H locs cells slots Q' (F0 m (pc + 3) ls (.int (u.1 1) :: rest))) : W p l e R s m args below meth c H locs cells slots Q' (F0 m pc ls (.ref (Q 1) :: rest)) :=
  va_getN (D := gD G) (ci := 2) (v := .int (u.1 1)) (C := RX1) (T := TX1) (N := 6) hC.1 hC.2.1 hC.2.2.2.2.1 wKin_X1 hC.2.2.2.1 hC.2.2.2.2.2.1.1 hH.1 1 rfl rfl 5 (by decide) (hC.2.2.2.2.2.1.nf 6 rfl) (fun _ h9 => h9) rfl hdg kk
theorem cg_X2_9 (hC : cX p c cc nL s m args RX2 G Z A) (hH : cH G Q D T A u s H locs) (hdg : decode cc pc = .ok (.getfield 9, 3)) (kk : W p l e R s m args below meth c H locs cells slots Q' (F0 m (pc + 3) ls (.ref (Q 1) :: rest))) : W p l e R s m args below meth c H locs cells slots Q' (F0 m pc ls (.ref (Q 5) :: rest)) :=
  va_get (D := gD G) (ci := 3) (v := .ref (Q 1)) (C := RX2) (T := TX2) (N := 3) hC.1 hC.2.1 hC.2.2.2.2.1 wKin_X2 hC.2.2.2.1 hC.2.2.2.2.2.1.1 hH.1 5 rfl rfl 0 (by decide) (hC.2.2.2.2.1 _ wka73) (fun _ h9 => h9) rfl hdg kk
theorem cg_X2_20 (hC : cX p c cc nL s m args RX2 G Z A) (hH : cH G Q D T A u s H locs) (hdg : decode cc pc = .ok (.getfield 20, 3)) (kk : W p l e R s m args below meth c H locs cells slots Q' (F0 m (pc + 3) ls (.ref (Q 40) :: rest))) : W p l e R s m args below meth c H locs cells slots Q' (F0 m pc ls (.ref (Q 5) :: rest)) :=
  va_get (D := gD G) (ci := 3) (v := .ref (Q 40)) (C := RX2) (T := TX2) (N := 3) hC.1 hC.2.1 hC.2.2.2.2.1 wKin_X2 hC.2.2.2.1 hC.2.2.2.2.2.1.1 hH.1 5 rfl rfl 1 (by decide) (hC.2.2.2.2.1 _ wka74) (fun _ h9 => h9) rfl hdg kk
theorem cg_X2_24 (hC : cX p c cc nL s m args RX2 G Z A) (hH : cH G Q D T A u s H locs) (hdg : decode cc pc = .ok (.getfield 24, 3)) (kk : W p l e R s m args below meth c H locs cells slots Q' (F0 m (pc + 3) ls (.ref (Q 42) :: rest))) : W p l e R s m args below meth c H locs cells slots Q' (F0 m pc ls (.ref (Q 5) :: rest)) :=
  va_get (D := gD G) (ci := 3) (v := .ref (Q 42)) (C := RX2) (T := TX2) (N := 3) hC.1 hC.2.1 hC.2.2.2.2.1 wKin_X2 hC.2.2.2.1 hC.2.2.2.2.2.1.1 hH.1 5 rfl rfl 2 (by decide) (hC.2.2.2.2.1 _ wka75) (fun _ h9 => h9) rfl hdg kk
theorem cg_X3_9 (hC : cX p c cc nL s m args RX3 G Z A) (hH : cH G Q D T A u s H locs) (hdg : decode cc pc = .ok (.getfield 9, 3)) (kk : W p l e R s m args below meth c H locs cells slots Q' (F0 m (pc + 3) ls (.ref (Q 1) :: rest))) : W p l e R s m args below meth c H locs cells slots Q' (F0 m pc ls (.ref (Q 7) :: rest)) :=
  va_get (D := gD G) (ci := 4) (v := .ref (Q 1)) (C := RX3) (T := TX3) (N := 4) hC.1 hC.2.1 hC.2.2.2.2.1 wKin_X3 hC.2.2.2.1 hC.2.2.2.2.2.1.1 hH.1 7 rfl rfl 0 (by decide) (hC.2.2.2.2.1 _ wka92) (fun _ h9 => h9) rfl hdg kk
theorem cg_X3_15 (hC : cX p c cc nL s m args RX3 G Z A) (hH : cH G Q D T A u s H locs) (hdg : decode cc pc = .ok (.getfield 15, 3)) (kk : W p l e R s m args below meth c H locs cells slots Q' (F0 m (pc + 3) ls (.ref (Q 6) :: rest))) : W p l e R s m args below meth c H locs cells slots Q' (F0 m pc ls (.ref (Q 7) :: rest)) :=
  va_get (D := gD G) (ci := 4) (v := .ref (Q 6)) (C := RX3) (T := TX3) (N := 4) hC.1 hC.2.1 hC.2.2.2.2.1 wKin_X3 hC.2.2.2.1 hC.2.2.2.2.2.1.1 hH.1 7 rfl rfl 1 (by decide) (hC.2.2.2.2.1 _ wka93) (fun _ h9 => h9) rfl hdg kk
theorem cg_X3_24 (hC : cX p c cc nL s m args RX3 G Z A) (hH : cH G Q D T A u s H locs) (hdg : decode cc pc = .ok (.getfield 24, 3)) (kk : W p l e R s m args below meth c H locs cells slots Q' (F0 m (pc + 3) ls (.ref (Q 54) :: rest))) : W p l e R s m args below meth c H locs cells slots Q' (F0 m pc ls (.ref (Q 7) :: rest)) :=
  va_get (D := gD G) (ci := 4) (v := .ref (Q 54)) (C := RX3) (T := TX3) (N := 4) hC.1 hC.2.1 hC.2.2.2.2.1 wKin_X3 hC.2.2.2.1 hC.2.2.2.2.2.1.1 hH.1 7 rfl rfl 2 (by decide) (hC.2.2.2.2.1 _ wka94) (fun _ h9 => h9) rfl hdg kk
theorem cg_X3_97 (hC : cX p c cc nL s m args RX3 G Z A) (hH : cH G Q D T A u s H locs) (hdg : decode cc pc = .ok (.getfield 97, 3)) (kk : W p l e R s m args below meth c H locs cells slots Q' (F0 m (pc + 3) ls (.int (u.1 16) :: rest))) : W p l e R s m args below meth c H locs cells slots Q' (F0 m pc ls (.ref (Q 7) :: rest)) :=
  va_get (D := gD G) (ci := 4) (v := .int (u.1 16)) (C := RX3) (T := TX3) (N := 4) hC.1 hC.2.1 hC.2.2.2.2.1 wKin_X3 hC.2.2.2.1 hC.2.2.2.2.2.1.1 hH.1 7 rfl rfl 3 (by decide) (hC.2.2.2.2.1 _ wka95) (fun _ h9 => h9) rfl hdg kk
theorem cp_X3_97 {x : Int32} (hC : cX p c cc nL s m args RX3 G Z A) (hH : cH G Q D T A u s H locs) (hu : si u 16 x = u1) (hdg : decode cc pc = .ok (.putfield 97, 3)) (kk : ∀ (H : Heap) (locs : List Loc), cH G Q D T A u1 s H locs → W p l e R s m args below meth c H locs cells slots Q' (F0 m (pc + 3) ls rest)) : W p l e R s m args below meth c H locs cells slots Q' (F0 m pc ls (.int x :: .ref (Q 7) :: rest)) := by
  subst hu
  exact va_put (D := gD G) (ci := 4) (v := .int x) (ty := tyX3 3) (C := RX3) (T := TX3) (N := 4) hC.1 hC.2.1 hC.2.2.2.2.1 wKin_X3 tyX3 tyX3_ok nmX3 hC.2.2.2.1 hC.2.2.2.2.2.1.1 hH.1 hH.2.1 hH.2.2 7 rfl rfl 3 (by decide) (hC.2.2.2.2.1 _ wka95) (fun _ h9 => h9) rfl (tyX3_ok 3 (by decide)) rfl rfl (Nat.le_of_ble_eq_true rfl) hdg (fun H locs a b d => kk H locs ⟨a, b, d⟩)
theorem cg_X4_14 (hC : cX p c cc nL s m args RX4 G Z A) (hH : cH G Q D T A u s H locs) (hdg : decode cc pc = .ok (.getfield 14, 3)) (kk : W p l e R s m args below meth c H locs cells slots Q' (F0 m (pc + 3) ls (.ref (Q 34) :: rest))) : W p l e R s m args below meth c H locs cells slots Q' (F0 m pc ls (.ref (Q 10) :: rest)) :=
  va_get (D := gD G) (ci := 5) (v := .ref (Q 34)) (C := RX4) (T := TX4) (N := 9) hC.1 hC.2.1 hC.2.2.2.2.1 wKin_X4 hC.2.2.2.1 hC.2.2.2.2.2.1.1 hH.1 10 rfl rfl 6 (by decide) (hC.2.2.2.2.1 _ wka47) (fun _ h9 => h9) rfl hdg kk
theorem cg_X4_18 (hC : cX p c cc nL s m args RX4 G Z A) (hH : cH G Q D T A u s H locs) (hdg : decode cc pc = .ok (.getfield 18, 3)) (kk : W p l e R s m args below meth c H locs cells slots Q' (F0 m (pc + 3) ls (.ref (Q 36) :: rest))) : W p l e R s m args below meth c H locs cells slots Q' (F0 m pc ls (.ref (Q 10) :: rest)) :=
  va_get (D := gD G) (ci := 5) (v := .ref (Q 36)) (C := RX4) (T := TX4) (N := 9) hC.1 hC.2.1 hC.2.2.2.2.1 wKin_X4 hC.2.2.2.1 hC.2.2.2.2.2.1.1 hH.1 10 rfl rfl 7 (by decide) (hC.2.2.2.2.1 _ wka48) (fun _ h9 => h9) rfl hdg kk
theorem cp_X4_24 {x : Int32} (hC : cX p c cc nL s m args RX4 G Z A) (hH : cH G Q D T A u s H locs) (hu : si u 20 x = u1) (hdg : decode cc pc = .ok (.putfield 24, 3)) (kk : ∀ (H : Heap) (locs : List Loc), cH G Q D T A u1 s H locs → W p l e R s m args below meth c H locs cells slots Q' (F0 m (pc + 3) ls rest)) : W p l e R s m args below meth c H locs cells slots Q' (F0 m pc ls (.int x :: .ref (Q 10) :: rest)) := by
  subst hu
  exact va_put (D := gD G) (ci := 5) (v := .int x) (ty := tyX4 0) (C := RX4) (T := TX4) (N := 9) hC.1 hC.2.1 hC.2.2.2.2.1 wKin_X4 tyX4 tyX4_ok nmX4 hC.2.2.2.1 hC.2.2.2.2.2.1.1 hH.1 hH.2.1 hH.2.2 10 rfl rfl 0 (by decide) (hC.2.2.2.2.1 _ wka41) (fun _ h9 => h9) rfl (tyX4_ok 0 (by decide)) rfl rfl (Nat.le_of_ble_eq_true rfl) hdg (fun H locs a b d => kk H locs ⟨a, b, d⟩)
theorem cp_X4_28 {x : Int32} (hC : cX p c cc nL s m args RX4 G Z A) (hH : cH G Q D T A u s H locs) (hu : si u 21 x = u1) (hdg : decode cc pc = .ok (.putfield 28, 3)) (kk : ∀ (H : Heap) (locs : List Loc), cH G Q D T A u1 s H locs → W p l e R s m args below meth c H locs cells slots Q' (F0 m (pc + 3) ls rest)) : W p l e R s m args below meth c H locs cells slots Q' (F0 m pc ls (.int x :: .ref (Q 10) :: rest)) := by
  subst hu
  exact va_put (D := gD G) (ci := 5) (v := .int x) (ty := tyX4 1) (C := RX4) (T := TX4) (N := 9) hC.1 hC.2.1 hC.2.2.2.2.1 wKin_X4 tyX4 tyX4_ok nmX4 hC.2.2.2.1 hC.2.2.2.2.2.1.1 hH.1 hH.2.1 hH.2.2 10 rfl rfl 1 (by decide) (hC.2.2.2.2.1 _ wka42) (fun _ h9 => h9) rfl (tyX4_ok 1 (by decide)) rfl rfl (Nat.le_of_ble_eq_true rfl) hdg (fun H locs a b d => kk H locs ⟨a, b, d⟩)
theorem cp_X4_31 {x : Int32} (hC : cX p c cc nL s m args RX4 G Z A) (hH : cH G Q D T A u s H locs) (hu : si u 22 x = u1) (hdg : decode cc pc = .ok (.putfield 31, 3)) (kk : ∀ (H : Heap) (locs : List Loc), cH G Q D T A u1 s H locs → W p l e R s m args below meth c H locs cells slots Q' (F0 m (pc + 3) ls rest)) : W p l e R s m args below meth c H locs cells slots Q' (F0 m pc ls (.int x :: .ref (Q 10) :: rest)) := by
  subst hu
  exact va_put (D := gD G) (ci := 5) (v := .int x) (ty := tyX4 2) (C := RX4) (T := TX4) (N := 9) hC.1 hC.2.1 hC.2.2.2.2.1 wKin_X4 tyX4 tyX4_ok nmX4 hC.2.2.2.1 hC.2.2.2.2.2.1.1 hH.1 hH.2.1 hH.2.2 10 rfl rfl 2 (by decide) (hC.2.2.2.2.1 _ wka43) (fun _ h9 => h9) rfl (tyX4_ok 2 (by decide)) rfl rfl (Nat.le_of_ble_eq_true rfl) hdg (fun H locs a b d => kk H locs ⟨a, b, d⟩)
theorem cg_X4_34 (hC : cX p c cc nL s m args RX4 G Z A) (hH : cH G Q D T A u s H locs) (hdg : decode cc pc = .ok (.getfield 34, 3)) (kk : W p l e R s m args below meth c H locs cells slots Q' (F0 m (pc + 3) ls (.int (u.1 23) :: rest))) : W p l e R s m args below meth c H locs cells slots Q' (F0 m pc ls (.ref (Q 10) :: rest)) :=
  va_get (D := gD G) (ci := 5) (v := .int (u.1 23)) (C := RX4) (T := TX4) (N := 9) hC.1 hC.2.1 hC.2.2.2.2.1 wKin_X4 hC.2.2.2.1 hC.2.2.2.2.2.1.1 hH.1 10 rfl rfl 3 (by decide) (hC.2.2.2.2.1 _ wka44) (fun _ h9 => h9) rfl hdg kk
theorem cp_X4_34 {x : Int32} (hC : cX p c cc nL s m args RX4 G Z A) (hH : cH G Q D T A u s H locs) (hu : si u 23 x = u1) (hdg : decode cc pc = .ok (.putfield 34, 3)) (kk : ∀ (H : Heap) (locs : List Loc), cH G Q D T A u1 s H locs → W p l e R s m args below meth c H locs cells slots Q' (F0 m (pc + 3) ls rest)) : W p l e R s m args below meth c H locs cells slots Q' (F0 m pc ls (.int x :: .ref (Q 10) :: rest)) := by
  subst hu
  exact va_put (D := gD G) (ci := 5) (v := .int x) (ty := tyX4 3) (C := RX4) (T := TX4) (N := 9) hC.1 hC.2.1 hC.2.2.2.2.1 wKin_X4 tyX4 tyX4_ok nmX4 hC.2.2.2.1 hC.2.2.2.2.2.1.1 hH.1 hH.2.1 hH.2.2 10 rfl rfl 3 (by decide) (hC.2.2.2.2.1 _ wka44) (fun _ h9 => h9) rfl (tyX4_ok 3 (by decide)) rfl rfl (Nat.le_of_ble_eq_true rfl) hdg (fun H locs a b d => kk H locs ⟨a, b, d⟩)
theorem cp_X4_37 {x : Int32} (hC : cX p c cc nL s m args RX4 G Z A) (hH : cH G Q D T A u s H locs) (hu : si u 24 x = u1) (hdg : decode cc pc = .ok (.putfield 37, 3)) (kk : ∀ (H : Heap) (locs : List Loc), cH G Q D T A u1 s H locs → W p l e R s m args below meth c H locs cells slots Q' (F0 m (pc + 3) ls rest)) : W p l e R s m args below meth c H locs cells slots Q' (F0 m pc ls (.int x :: .ref (Q 10) :: rest)) := by
  subst hu
  exact va_put (D := gD G) (ci := 5) (v := .int x) (ty := tyX4 4) (C := RX4) (T := TX4) (N := 9) hC.1 hC.2.1 hC.2.2.2.2.1 wKin_X4 tyX4 tyX4_ok nmX4 hC.2.2.2.1 hC.2.2.2.2.2.1.1 hH.1 hH.2.1 hH.2.2 10 rfl rfl 4 (by decide) (hC.2.2.2.2.1 _ wka45) (fun _ h9 => h9) rfl (tyX4_ok 4 (by decide)) rfl rfl (Nat.le_of_ble_eq_true rfl) hdg (fun H locs a b d => kk H locs ⟨a, b, d⟩)
theorem cg_X4_40 (hC : cX p c cc nL s m args RX4 G Z A) (hH : cH G Q D T A u s H locs) (hdg : decode cc pc = .ok (.getfield 40, 3)) (kk : W p l e R s m args below meth c H locs cells slots Q' (F0 m (pc + 3) ls (.int (u.1 25) :: rest))) : W p l e R s m args below meth c H locs cells slots Q' (F0 m pc ls (.ref (Q 10) :: rest)) :=
  va_get (D := gD G) (ci := 5) (v := .int (u.1 25)) (C := RX4) (T := TX4) (N := 9) hC.1 hC.2.1 hC.2.2.2.2.1 wKin_X4 hC.2.2.2.1 hC.2.2.2.2.2.1.1 hH.1 10 rfl rfl 5 (by decide) (hC.2.2.2.2.1 _ wka46) (fun _ h9 => h9) rfl hdg kk
theorem cp_X4_40 {x : Int32} (hC : cX p c cc nL s m args RX4 G Z A) (hH : cH G Q D T A u s H locs) (hu : si u 25 x = u1) (hdg : decode cc pc = .ok (.putfield 40, 3)) (kk : ∀ (H : Heap) (locs : List Loc), cH G Q D T A u1 s H locs → W p l e R s m args below meth c H locs cells slots Q' (F0 m (pc + 3) ls rest)) : W p l e R s m args below meth c H locs cells slots Q' (F0 m pc ls (.int x :: .ref (Q 10) :: rest)) := by
  subst hu
  exact va_put (D := gD G) (ci := 5) (v := .int x) (ty := tyX4 5) (C := RX4) (T := TX4) (N := 9) hC.1 hC.2.1 hC.2.2.2.2.1 wKin_X4 tyX4 tyX4_ok nmX4 hC.2.2.2.1 hC.2.2.2.2.2.1.1 hH.1 hH.2.1 hH.2.2 10 rfl rfl 5 (by decide) (hC.2.2.2.2.1 _ wka46) (fun _ h9 => h9) rfl (tyX4_ok 5 (by decide)) rfl rfl (Nat.le_of_ble_eq_true rfl) hdg (fun H locs a b d => kk H locs ⟨a, b, d⟩)
theorem cg_X5_9 (hC : cX p c cc nL s m args RX5 G Z A) (hH : cH G Q D T A u s H locs) (hdg : decode cc pc = .ok (.getfield 9, 3)) (kk : W p l e R s m args below meth c H locs cells slots Q' (F0 m (pc + 3) ls (.ref (Q 2) :: rest))) : W p l e R s m args below meth c H locs cells slots Q' (F0 m pc ls (.ref (Q 3) :: rest)) :=
  va_get (D := gD G) (ci := 6) (v := .ref (Q 2)) (C := RX5) (T := TX5) (N := 14) hC.1 hC.2.1 hC.2.2.2.2.1 wKin_X5 hC.2.2.2.1 hC.2.2.2.2.2.1.1 hH.1 3 rfl rfl 0 (by decide) (hC.2.2.2.2.1 _ wka50) (fun _ h9 => h9) rfl hdg kk
theorem cg_X5_22 (hC : cX p c cc nL s m args RX5 G Z A) (hH : cH G Q D T A u s H locs) (hdg : decode cc pc = .ok (.getfield 22, 3)) (kk : W p l e R s m args below meth c H locs cells slots Q' (F0 m (pc + 3) ls (.ref (Q 28) :: rest))) : W p l e R s m args below meth c H locs cells slots Q' (F0 m pc ls (.ref (Q 3) :: rest)) :=
  va_get (D := gD G) (ci := 6) (v := .ref (Q 28)) (C := RX5) (T := TX5) (N := 14) hC.1 hC.2.1 hC.2.2.2.2.1 wKin_X5 hC.2.2.2.1 hC.2.2.2.2.2.1.1 hH.1 3 rfl rfl 1 (by decide) (hC.2.2.2.2.1 _ wka51) (fun _ h9 => h9) rfl hdg kk
theorem cg_X5_26 (hC : cX p c cc nL s m args RX5 G Z A) (hH : cH G Q D T A u s H locs) (hdg : decode cc pc = .ok (.getfield 26, 3)) (kk : W p l e R s m args below meth c H locs cells slots Q' (F0 m (pc + 3) ls (.ref (Q 30) :: rest))) : W p l e R s m args below meth c H locs cells slots Q' (F0 m pc ls (.ref (Q 3) :: rest)) :=
  va_get (D := gD G) (ci := 6) (v := .ref (Q 30)) (C := RX5) (T := TX5) (N := 14) hC.1 hC.2.1 hC.2.2.2.2.1 wKin_X5 hC.2.2.2.1 hC.2.2.2.2.2.1.1 hH.1 3 rfl rfl 2 (by decide) (hC.2.2.2.2.1 _ wka52) (fun _ h9 => h9) rfl hdg kk
theorem cg_X5_29 (hC : cX p c cc nL s m args RX5 G Z A) (hH : cH G Q D T A u s H locs) (hdg : decode cc pc = .ok (.getfield 29, 3)) (kk : W p l e R s m args below meth c H locs cells slots Q' (F0 m (pc + 3) ls (.ref (Q 32) :: rest))) : W p l e R s m args below meth c H locs cells slots Q' (F0 m pc ls (.ref (Q 3) :: rest)) :=
  va_get (D := gD G) (ci := 6) (v := .ref (Q 32)) (C := RX5) (T := TX5) (N := 14) hC.1 hC.2.1 hC.2.2.2.2.1 wKin_X5 hC.2.2.2.1 hC.2.2.2.2.2.1.1 hH.1 3 rfl rfl 3 (by decide) (hC.2.2.2.2.1 _ wka53) (fun _ h9 => h9) rfl hdg kk
theorem cg_X5_33 (hC : cX p c cc nL s m args RX5 G Z A) (hH : cH G Q D T A u s H locs) (hdg : decode cc pc = .ok (.getfield 33, 3)) (kk : W p l e R s m args below meth c H locs cells slots Q' (F0 m (pc + 3) ls (.ref (Q 10) :: rest))) : W p l e R s m args below meth c H locs cells slots Q' (F0 m pc ls (.ref (Q 3) :: rest)) :=
  va_get (D := gD G) (ci := 6) (v := .ref (Q 10)) (C := RX5) (T := TX5) (N := 14) hC.1 hC.2.1 hC.2.2.2.2.1 wKin_X5 hC.2.2.2.1 hC.2.2.2.2.2.1.1 hH.1 3 rfl rfl 4 (by decide) (hC.2.2.2.2.1 _ wka54) (fun _ h9 => h9) rfl hdg kk
theorem cp_X5_37 {x : Int32} (hC : cX p c cc nL s m args RX5 G Z A) (hH : cH G Q D T A u s H locs) (hu : si u 10 x = u1) (hdg : decode cc pc = .ok (.putfield 37, 3)) (kk : ∀ (H : Heap) (locs : List Loc), cH G Q D T A u1 s H locs → W p l e R s m args below meth c H locs cells slots Q' (F0 m (pc + 3) ls rest)) : W p l e R s m args below meth c H locs cells slots Q' (F0 m pc ls (.int x :: .ref (Q 3) :: rest)) := by
  subst hu
  exact va_put (D := gD G) (ci := 6) (v := .int x) (ty := tyX5 8) (C := RX5) (T := TX5) (N := 14) hC.1 hC.2.1 hC.2.2.2.2.1 wKin_X5 tyX5 tyX5_ok nmX5 hC.2.2.2.1 hC.2.2.2.2.2.1.1 hH.1 hH.2.1 hH.2.2 3 rfl rfl 8 (by decide) (hC.2.2.2.2.1 _ wka58) (fun _ h9 => h9) rfl (tyX5_ok 8 (by decide)) rfl rfl (Nat.le_of_ble_eq_true rfl) hdg (fun H locs a b d => kk H locs ⟨a, b, d⟩)
theorem cg_X5_49 (hC : cX p c cc nL s m args RX5 G Z A) (hH : cH G Q D T A u s H locs) (hdg : decode cc pc = .ok (.getfield 49, 3)) (kk : W p l e R s m args below meth c H locs cells slots Q' (F0 m (pc + 3) ls (.int (u.1 11) :: rest))) : W p l e R s m args below meth c H locs cells slots Q' (F0 m pc ls (.ref (Q 3) :: rest)) :=
  va_get (D := gD G) (ci := 6) (v := .int (u.1 11)) (C := RX5) (T := TX5) (N := 14) hC.1 hC.2.1 hC.2.2.2.2.1 wKin_X5 hC.2.2.2.1 hC.2.2.2.2.2.1.1 hH.1 3 rfl rfl 9 (by decide) (hC.2.2.2.2.1 _ wka59) (fun _ h9 => h9) rfl hdg kk
theorem cp_X5_49 {x : Int32} (hC : cX p c cc nL s m args RX5 G Z A) (hH : cH G Q D T A u s H locs) (hu : si u 11 x = u1) (hdg : decode cc pc = .ok (.putfield 49, 3)) (kk : ∀ (H : Heap) (locs : List Loc), cH G Q D T A u1 s H locs → W p l e R s m args below meth c H locs cells slots Q' (F0 m (pc + 3) ls rest)) : W p l e R s m args below meth c H locs cells slots Q' (F0 m pc ls (.int x :: .ref (Q 3) :: rest)) := by
  subst hu
  exact va_put (D := gD G) (ci := 6) (v := .int x) (ty := tyX5 9) (C := RX5) (T := TX5) (N := 14) hC.1 hC.2.1 hC.2.2.2.2.1 wKin_X5 tyX5 tyX5_ok nmX5 hC.2.2.2.1 hC.2.2.2.2.2.1.1 hH.1 hH.2.1 hH.2.2 3 rfl rfl 9 (by decide) (hC.2.2.2.2.1 _ wka59) (fun _ h9 => h9) rfl (tyX5_ok 9 (by decide)) rfl rfl (Nat.le_of_ble_eq_true rfl) hdg (fun H locs a b d => kk H locs ⟨a, b, d⟩)
theorem cg_X5_52 (hC : cX p c cc nL s m args RX5 G Z A) (hH : cH G Q D T A u s H locs) (hdg : decode cc pc = .ok (.getfield 52, 3)) (kk : W p l e R s m args below meth c H locs cells slots Q' (F0 m (pc + 3) ls (.int (u.1 12) :: rest))) : W p l e R s m args below meth c H locs cells slots Q' (F0 m pc ls (.ref (Q 3) :: rest)) :=
  va_get (D := gD G) (ci := 6) (v := .int (u.1 12)) (C := RX5) (T := TX5) (N := 14) hC.1 hC.2.1 hC.2.2.2.2.1 wKin_X5 hC.2.2.2.1 hC.2.2.2.2.2.1.1 hH.1 3 rfl rfl 10 (by decide) (hC.2.2.2.2.1 _ wka60) (fun _ h9 => h9) rfl hdg kk
theorem cp_X5_52 {x : Int32} (hC : cX p c cc nL s m args RX5 G Z A) (hH : cH G Q D T A u s H locs) (hu : si u 12 x = u1) (hdg : decode cc pc = .ok (.putfield 52, 3)) (kk : ∀ (H : Heap) (locs : List Loc), cH G Q D T A u1 s H locs → W p l e R s m args below meth c H locs cells slots Q' (F0 m (pc + 3) ls rest)) : W p l e R s m args below meth c H locs cells slots Q' (F0 m pc ls (.int x :: .ref (Q 3) :: rest)) := by
  subst hu
  exact va_put (D := gD G) (ci := 6) (v := .int x) (ty := tyX5 10) (C := RX5) (T := TX5) (N := 14) hC.1 hC.2.1 hC.2.2.2.2.1 wKin_X5 tyX5 tyX5_ok nmX5 hC.2.2.2.1 hC.2.2.2.2.2.1.1 hH.1 hH.2.1 hH.2.2 3 rfl rfl 10 (by decide) (hC.2.2.2.2.1 _ wka60) (fun _ h9 => h9) rfl (tyX5_ok 10 (by decide)) rfl rfl (Nat.le_of_ble_eq_true rfl) hdg (fun H locs a b d => kk H locs ⟨a, b, d⟩)
theorem cg_X5_55 (hC : cX p c cc nL s m args RX5 G Z A) (hH : cH G Q D T A u s H locs) (hdg : decode cc pc = .ok (.getfield 55, 3)) (kk : W p l e R s m args below meth c H locs cells slots Q' (F0 m (pc + 3) ls (.int (u.1 7) :: rest))) : W p l e R s m args below meth c H locs cells slots Q' (F0 m pc ls (.ref (Q 3) :: rest)) :=
  va_get (D := gD G) (ci := 6) (v := .int (u.1 7)) (C := RX5) (T := TX5) (N := 14) hC.1 hC.2.1 hC.2.2.2.2.1 wKin_X5 hC.2.2.2.1 hC.2.2.2.2.2.1.1 hH.1 3 rfl rfl 5 (by decide) (hC.2.2.2.2.1 _ wka55) (fun _ h9 => h9) rfl hdg kk
theorem cp_X5_55 {x : Int32} (hC : cX p c cc nL s m args RX5 G Z A) (hH : cH G Q D T A u s H locs) (hu : si u 7 x = u1) (hdg : decode cc pc = .ok (.putfield 55, 3)) (kk : ∀ (H : Heap) (locs : List Loc), cH G Q D T A u1 s H locs → W p l e R s m args below meth c H locs cells slots Q' (F0 m (pc + 3) ls rest)) : W p l e R s m args below meth c H locs cells slots Q' (F0 m pc ls (.int x :: .ref (Q 3) :: rest)) := by
  subst hu
  exact va_put (D := gD G) (ci := 6) (v := .int x) (ty := tyX5 5) (C := RX5) (T := TX5) (N := 14) hC.1 hC.2.1 hC.2.2.2.2.1 wKin_X5 tyX5 tyX5_ok nmX5 hC.2.2.2.1 hC.2.2.2.2.2.1.1 hH.1 hH.2.1 hH.2.2 3 rfl rfl 5 (by decide) (hC.2.2.2.2.1 _ wka55) (fun _ h9 => h9) rfl (tyX5_ok 5 (by decide)) rfl rfl (Nat.le_of_ble_eq_true rfl) hdg (fun H locs a b d => kk H locs ⟨a, b, d⟩)
theorem cg_X5_58 (hC : cX p c cc nL s m args RX5 G Z A) (hH : cH G Q D T A u s H locs) (hdg : decode cc pc = .ok (.getfield 58, 3)) (kk : W p l e R s m args below meth c H locs cells slots Q' (F0 m (pc + 3) ls (.int (u.1 8) :: rest))) : W p l e R s m args below meth c H locs cells slots Q' (F0 m pc ls (.ref (Q 3) :: rest)) :=
  va_get (D := gD G) (ci := 6) (v := .int (u.1 8)) (C := RX5) (T := TX5) (N := 14) hC.1 hC.2.1 hC.2.2.2.2.1 wKin_X5 hC.2.2.2.1 hC.2.2.2.2.2.1.1 hH.1 3 rfl rfl 6 (by decide) (hC.2.2.2.2.1 _ wka56) (fun _ h9 => h9) rfl hdg kk
theorem cp_X5_58 {x : Int32} (hC : cX p c cc nL s m args RX5 G Z A) (hH : cH G Q D T A u s H locs) (hu : si u 8 x = u1) (hdg : decode cc pc = .ok (.putfield 58, 3)) (kk : ∀ (H : Heap) (locs : List Loc), cH G Q D T A u1 s H locs → W p l e R s m args below meth c H locs cells slots Q' (F0 m (pc + 3) ls rest)) : W p l e R s m args below meth c H locs cells slots Q' (F0 m pc ls (.int x :: .ref (Q 3) :: rest)) := by
  subst hu
  exact va_put (D := gD G) (ci := 6) (v := .int x) (ty := tyX5 6) (C := RX5) (T := TX5) (N := 14) hC.1 hC.2.1 hC.2.2.2.2.1 wKin_X5 tyX5 tyX5_ok nmX5 hC.2.2.2.1 hC.2.2.2.2.2.1.1 hH.1 hH.2.1 hH.2.2 3 rfl rfl 6 (by decide) (hC.2.2.2.2.1 _ wka56) (fun _ h9 => h9) rfl (tyX5_ok 6 (by decide)) rfl rfl (Nat.le_of_ble_eq_true rfl) hdg (fun H locs a b d => kk H locs ⟨a, b, d⟩)
theorem cg_X5_61 (hC : cX p c cc nL s m args RX5 G Z A) (hH : cH G Q D T A u s H locs) (hdg : decode cc pc = .ok (.getfield 61, 3)) (kk : W p l e R s m args below meth c H locs cells slots Q' (F0 m (pc + 3) ls (.int (u.1 9) :: rest))) : W p l e R s m args below meth c H locs cells slots Q' (F0 m pc ls (.ref (Q 3) :: rest)) :=
  va_get (D := gD G) (ci := 6) (v := .int (u.1 9)) (C := RX5) (T := TX5) (N := 14) hC.1 hC.2.1 hC.2.2.2.2.1 wKin_X5 hC.2.2.2.1 hC.2.2.2.2.2.1.1 hH.1 3 rfl rfl 7 (by decide) (hC.2.2.2.2.1 _ wka57) (fun _ h9 => h9) rfl hdg kk
theorem cp_X5_61 {x : Int32} (hC : cX p c cc nL s m args RX5 G Z A) (hH : cH G Q D T A u s H locs) (hu : si u 9 x = u1) (hdg : decode cc pc = .ok (.putfield 61, 3)) (kk : ∀ (H : Heap) (locs : List Loc), cH G Q D T A u1 s H locs → W p l e R s m args below meth c H locs cells slots Q' (F0 m (pc + 3) ls rest)) : W p l e R s m args below meth c H locs cells slots Q' (F0 m pc ls (.int x :: .ref (Q 3) :: rest)) := by
  subst hu
  exact va_put (D := gD G) (ci := 6) (v := .int x) (ty := tyX5 7) (C := RX5) (T := TX5) (N := 14) hC.1 hC.2.1 hC.2.2.2.2.1 wKin_X5 tyX5 tyX5_ok nmX5 hC.2.2.2.1 hC.2.2.2.2.2.1.1 hH.1 hH.2.1 hH.2.2 3 rfl rfl 7 (by decide) (hC.2.2.2.2.1 _ wka57) (fun _ h9 => h9) rfl (tyX5_ok 7 (by decide)) rfl rfl (Nat.le_of_ble_eq_true rfl) hdg (fun H locs a b d => kk H locs ⟨a, b, d⟩)
theorem cg_X5_67 (hC : cX p c cc nL s m args RX5 G Z A) (hH : cH G Q D T A u s H locs) (hdg : decode cc pc = .ok (.getfield 67, 3)) (kk : W p l e R s m args below meth c H locs cells slots Q' (F0 m (pc + 3) ls (.int (u.1 4) :: rest))) : W p l e R s m args below meth c H locs cells slots Q' (F0 m pc ls (.ref (Q 2) :: rest)) :=
  va_getN (D := gD G) (ci := 11) (v := .int (u.1 4)) (C := RX10) (T := TX10) (N := 6) hC.1 hC.2.1 hC.2.2.2.2.1 wKin_X10 hC.2.2.2.1 hC.2.2.2.2.2.1.1 hH.1 2 rfl rfl 3 (by decide) (hC.2.2.2.2.2.1.nf 12 rfl) (fun _ h9 => h9) rfl hdg kk
theorem cg_X5_74 (hC : cX p c cc nL s m args RX5 G Z A) (hH : cH G Q D T A u s H locs) (hdg : decode cc pc = .ok (.getfield 74, 3)) (kk : W p l e R s m args below meth c H locs cells slots Q' (F0 m (pc + 3) ls (.int (u.1 5) :: rest))) : W p l e R s m args below meth c H locs cells slots Q' (F0 m pc ls (.ref (Q 2) :: rest)) :=
  va_getN (D := gD G) (ci := 11) (v := .int (u.1 5)) (C := RX10) (T := TX10) (N := 6) hC.1 hC.2.1 hC.2.2.2.2.1 wKin_X10 hC.2.2.2.1 hC.2.2.2.2.2.1.1 hH.1 2 rfl rfl 4 (by decide) (hC.2.2.2.2.2.1.nf 13 rfl) (fun _ h9 => h9) rfl hdg kk
theorem cg_X5_84 (hC : cX p c cc nL s m args RX5 G Z A) (hH : cH G Q D T A u s H locs) (hdg : decode cc pc = .ok (.getfield 84, 3)) (kk : W p l e R s m args below meth c H locs cells slots Q' (F0 m (pc + 3) ls (.int (u.1 15) :: rest))) : W p l e R s m args below meth c H locs cells slots Q' (F0 m pc ls (.ref (Q 3) :: rest)) :=
  va_get (D := gD G) (ci := 6) (v := .int (u.1 15)) (C := RX5) (T := TX5) (N := 14) hC.1 hC.2.1 hC.2.2.2.2.1 wKin_X5 hC.2.2.2.1 hC.2.2.2.2.2.1.1 hH.1 3 rfl rfl 13 (by decide) (hC.2.2.2.2.1 _ wka63) (fun _ h9 => h9) rfl hdg kk
theorem cp_X5_84 {x : Int32} (hC : cX p c cc nL s m args RX5 G Z A) (hH : cH G Q D T A u s H locs) (hu : si u 15 x = u1) (hdg : decode cc pc = .ok (.putfield 84, 3)) (kk : ∀ (H : Heap) (locs : List Loc), cH G Q D T A u1 s H locs → W p l e R s m args below meth c H locs cells slots Q' (F0 m (pc + 3) ls rest)) : W p l e R s m args below meth c H locs cells slots Q' (F0 m pc ls (.int x :: .ref (Q 3) :: rest)) := by
  subst hu
  exact va_put (D := gD G) (ci := 6) (v := .int x) (ty := tyX5 13) (C := RX5) (T := TX5) (N := 14) hC.1 hC.2.1 hC.2.2.2.2.1 wKin_X5 tyX5 tyX5_ok nmX5 hC.2.2.2.1 hC.2.2.2.2.2.1.1 hH.1 hH.2.1 hH.2.2 3 rfl rfl 13 (by decide) (hC.2.2.2.2.1 _ wka63) (fun _ h9 => h9) rfl (tyX5_ok 13 (by decide)) rfl rfl (Nat.le_of_ble_eq_true rfl) hdg (fun H locs a b d => kk H locs ⟨a, b, d⟩)
theorem cg_X5_121 (hC : cX p c cc nL s m args RX5 G Z A) (hH : cH G Q D T A u s H locs) (hdg : decode cc pc = .ok (.getfield 121, 3)) (kk : W p l e R s m args below meth c H locs cells slots Q' (F0 m (pc + 3) ls (.int (u.1 6) :: rest))) : W p l e R s m args below meth c H locs cells slots Q' (F0 m pc ls (.ref (Q 2) :: rest)) :=
  va_getN (D := gD G) (ci := 11) (v := .int (u.1 6)) (C := RX10) (T := TX10) (N := 6) hC.1 hC.2.1 hC.2.2.2.2.1 wKin_X10 hC.2.2.2.1 hC.2.2.2.2.2.1.1 hH.1 2 rfl rfl 5 (by decide) (hC.2.2.2.2.2.1.nf 14 rfl) (fun _ h9 => h9) rfl hdg kk
theorem cp_X5_124 {x : Int32} (hC : cX p c cc nL s m args RX5 G Z A) (hH : cH G Q D T A u s H locs) (hu : si u 20 x = u1) (hdg : decode cc pc = .ok (.putfield 124, 3)) (kk : ∀ (H : Heap) (locs : List Loc), cH G Q D T A u1 s H locs → W p l e R s m args below meth c H locs cells slots Q' (F0 m (pc + 3) ls rest)) : W p l e R s m args below meth c H locs cells slots Q' (F0 m pc ls (.int x :: .ref (Q 10) :: rest)) := by
  subst hu
  exact va_putN (D := gD G) (ci := 5) (v := .int x) (ty := tyX4 0) (C := RX4) (T := TX4) (N := 9) hC.1 hC.2.1 hC.2.2.2.2.1 wKin_X4 tyX4 tyX4_ok nmX4 hC.2.2.2.1 hC.2.2.2.2.2.1.1 hH.1 hH.2.1 hH.2.2 10 rfl rfl 0 (by decide) (hC.2.2.2.2.2.1.nf 15 rfl) (fun _ h9 => h9) rfl (tyX4_ok 0 (by decide)) rfl rfl (Nat.le_of_ble_eq_true rfl) hdg (fun H locs a b d => kk H locs ⟨a, b, d⟩)
theorem cp_X5_127 {x : Int32} (hC : cX p c cc nL s m args RX5 G Z A) (hH : cH G Q D T A u s H locs) (hu : si u 21 x = u1) (hdg : decode cc pc = .ok (.putfield 127, 3)) (kk : ∀ (H : Heap) (locs : List Loc), cH G Q D T A u1 s H locs → W p l e R s m args below meth c H locs cells slots Q' (F0 m (pc + 3) ls rest)) : W p l e R s m args below meth c H locs cells slots Q' (F0 m pc ls (.int x :: .ref (Q 10) :: rest)) := by
  subst hu
  exact va_putN (D := gD G) (ci := 5) (v := .int x) (ty := tyX4 1) (C := RX4) (T := TX4) (N := 9) hC.1 hC.2.1 hC.2.2.2.2.1 wKin_X4 tyX4 tyX4_ok nmX4 hC.2.2.2.1 hC.2.2.2.2.2.1.1 hH.1 hH.2.1 hH.2.2 10 rfl rfl 1 (by decide) (hC.2.2.2.2.2.1.nf 16 rfl) (fun _ h9 => h9) rfl (tyX4_ok 1 (by decide)) rfl rfl (Nat.le_of_ble_eq_true rfl) hdg (fun H locs a b d => kk H locs ⟨a, b, d⟩)
theorem cg_X5_130 (hC : cX p c cc nL s m args RX5 G Z A) (hH : cH G Q D T A u s H locs) (hdg : decode cc pc = .ok (.getfield 130, 3)) (kk : W p l e R s m args below meth c H locs cells slots Q' (F0 m (pc + 3) ls (.int (u.1 22) :: rest))) : W p l e R s m args below meth c H locs cells slots Q' (F0 m pc ls (.ref (Q 10) :: rest)) :=
  va_getN (D := gD G) (ci := 5) (v := .int (u.1 22)) (C := RX4) (T := TX4) (N := 9) hC.1 hC.2.1 hC.2.2.2.2.1 wKin_X4 hC.2.2.2.1 hC.2.2.2.2.2.1.1 hH.1 10 rfl rfl 2 (by decide) (hC.2.2.2.2.2.1.nf 17 rfl) (fun _ h9 => h9) rfl hdg kk
theorem cp_X5_130 {x : Int32} (hC : cX p c cc nL s m args RX5 G Z A) (hH : cH G Q D T A u s H locs) (hu : si u 22 x = u1) (hdg : decode cc pc = .ok (.putfield 130, 3)) (kk : ∀ (H : Heap) (locs : List Loc), cH G Q D T A u1 s H locs → W p l e R s m args below meth c H locs cells slots Q' (F0 m (pc + 3) ls rest)) : W p l e R s m args below meth c H locs cells slots Q' (F0 m pc ls (.int x :: .ref (Q 10) :: rest)) := by
  subst hu
  exact va_putN (D := gD G) (ci := 5) (v := .int x) (ty := tyX4 2) (C := RX4) (T := TX4) (N := 9) hC.1 hC.2.1 hC.2.2.2.2.1 wKin_X4 tyX4 tyX4_ok nmX4 hC.2.2.2.1 hC.2.2.2.2.2.1.1 hH.1 hH.2.1 hH.2.2 10 rfl rfl 2 (by decide) (hC.2.2.2.2.2.1.nf 17 rfl) (fun _ h9 => h9) rfl (tyX4_ok 2 (by decide)) rfl rfl (Nat.le_of_ble_eq_true rfl) hdg (fun H locs a b d => kk H locs ⟨a, b, d⟩)
theorem cg_X5_136 (hC : cX p c cc nL s m args RX5 G Z A) (hH : cH G Q D T A u s H locs) (hdg : decode cc pc = .ok (.getfield 136, 3)) (kk : W p l e R s m args below meth c H locs cells slots Q' (F0 m (pc + 3) ls (.ref (Q 38) :: rest))) : W p l e R s m args below meth c H locs cells slots Q' (F0 m pc ls (.ref (Q 10) :: rest)) :=
  va_getN (D := gD G) (ci := 5) (v := .ref (Q 38)) (C := RX4) (T := TX4) (N := 9) hC.1 hC.2.1 hC.2.2.2.2.1 wKin_X4 hC.2.2.2.1 hC.2.2.2.2.2.1.1 hH.1 10 rfl rfl 8 (by decide) (hC.2.2.2.2.2.1.nf 18 rfl) (fun _ h9 => h9) rfl hdg kk
theorem cg_X5_139 (hC : cX p c cc nL s m args RX5 G Z A) (hH : cH G Q D T A u s H locs) (hdg : decode cc pc = .ok (.getfield 139, 3)) (kk : W p l e R s m args below meth c H locs cells slots Q' (F0 m (pc + 3) ls (.int (u.1 23) :: rest))) : W p l e R s m args below meth c H locs cells slots Q' (F0 m pc ls (.ref (Q 10) :: rest)) :=
  va_getN (D := gD G) (ci := 5) (v := .int (u.1 23)) (C := RX4) (T := TX4) (N := 9) hC.1 hC.2.1 hC.2.2.2.2.1 wKin_X4 hC.2.2.2.1 hC.2.2.2.2.2.1.1 hH.1 10 rfl rfl 3 (by decide) (hC.2.2.2.2.2.1.nf 19 rfl) (fun _ h9 => h9) rfl hdg kk
theorem cg_X5_160 (hC : cX p c cc nL s m args RX5 G Z A) (hH : cH G Q D T A u s H locs) (hdg : decode cc pc = .ok (.getfield 160, 3)) (kk : W p l e R s m args below meth c H locs cells slots Q' (F0 m (pc + 3) ls (.int (u.1 14) :: rest))) : W p l e R s m args below meth c H locs cells slots Q' (F0 m pc ls (.ref (Q 3) :: rest)) :=
  va_get (D := gD G) (ci := 6) (v := .int (u.1 14)) (C := RX5) (T := TX5) (N := 14) hC.1 hC.2.1 hC.2.2.2.2.1 wKin_X5 hC.2.2.2.1 hC.2.2.2.2.2.1.1 hH.1 3 rfl rfl 12 (by decide) (hC.2.2.2.2.1 _ wka62) (fun _ h9 => h9) rfl hdg kk
theorem cp_X5_160 {x : Int32} (hC : cX p c cc nL s m args RX5 G Z A) (hH : cH G Q D T A u s H locs) (hu : si u 14 x = u1) (hdg : decode cc pc = .ok (.putfield 160, 3)) (kk : ∀ (H : Heap) (locs : List Loc), cH G Q D T A u1 s H locs → W p l e R s m args below meth c H locs cells slots Q' (F0 m (pc + 3) ls rest)) : W p l e R s m args below meth c H locs cells slots Q' (F0 m pc ls (.int x :: .ref (Q 3) :: rest)) := by
  subst hu
  exact va_put (D := gD G) (ci := 6) (v := .int x) (ty := tyX5 12) (C := RX5) (T := TX5) (N := 14) hC.1 hC.2.1 hC.2.2.2.2.1 wKin_X5 tyX5 tyX5_ok nmX5 hC.2.2.2.1 hC.2.2.2.2.2.1.1 hH.1 hH.2.1 hH.2.2 3 rfl rfl 12 (by decide) (hC.2.2.2.2.1 _ wka62) (fun _ h9 => h9) rfl (tyX5_ok 12 (by decide)) rfl rfl (Nat.le_of_ble_eq_true rfl) hdg (fun H locs a b d => kk H locs ⟨a, b, d⟩)
theorem cg_X5_175 (hC : cX p c cc nL s m args RX5 G Z A) (hH : cH G Q D T A u s H locs) (hdg : decode cc pc = .ok (.getfield 175, 3)) (kk : W p l e R s m args below meth c H locs cells slots Q' (F0 m (pc + 3) ls (.int (u.1 24) :: rest))) : W p l e R s m args below meth c H locs cells slots Q' (F0 m pc ls (.ref (Q 10) :: rest)) :=
  va_getN (D := gD G) (ci := 5) (v := .int (u.1 24)) (C := RX4) (T := TX4) (N := 9) hC.1 hC.2.1 hC.2.2.2.2.1 wKin_X4 hC.2.2.2.1 hC.2.2.2.2.2.1.1 hH.1 10 rfl rfl 4 (by decide) (hC.2.2.2.2.2.1.nf 20 rfl) (fun _ h9 => h9) rfl hdg kk
theorem cp_X5_175 {x : Int32} (hC : cX p c cc nL s m args RX5 G Z A) (hH : cH G Q D T A u s H locs) (hu : si u 24 x = u1) (hdg : decode cc pc = .ok (.putfield 175, 3)) (kk : ∀ (H : Heap) (locs : List Loc), cH G Q D T A u1 s H locs → W p l e R s m args below meth c H locs cells slots Q' (F0 m (pc + 3) ls rest)) : W p l e R s m args below meth c H locs cells slots Q' (F0 m pc ls (.int x :: .ref (Q 10) :: rest)) := by
  subst hu
  exact va_putN (D := gD G) (ci := 5) (v := .int x) (ty := tyX4 4) (C := RX4) (T := TX4) (N := 9) hC.1 hC.2.1 hC.2.2.2.2.1 wKin_X4 tyX4 tyX4_ok nmX4 hC.2.2.2.1 hC.2.2.2.2.2.1.1 hH.1 hH.2.1 hH.2.2 10 rfl rfl 4 (by decide) (hC.2.2.2.2.2.1.nf 20 rfl) (fun _ h9 => h9) rfl (tyX4_ok 4 (by decide)) rfl rfl (Nat.le_of_ble_eq_true rfl) hdg (fun H locs a b d => kk H locs ⟨a, b, d⟩)
theorem cg_X5_181 (hC : cX p c cc nL s m args RX5 G Z A) (hH : cH G Q D T A u s H locs) (hdg : decode cc pc = .ok (.getfield 181, 3)) (kk : W p l e R s m args below meth c H locs cells slots Q' (F0 m (pc + 3) ls (.int (u.1 13) :: rest))) : W p l e R s m args below meth c H locs cells slots Q' (F0 m pc ls (.ref (Q 3) :: rest)) :=
  va_get (D := gD G) (ci := 6) (v := .int (u.1 13)) (C := RX5) (T := TX5) (N := 14) hC.1 hC.2.1 hC.2.2.2.2.1 wKin_X5 hC.2.2.2.1 hC.2.2.2.2.2.1.1 hH.1 3 rfl rfl 11 (by decide) (hC.2.2.2.2.1 _ wka61) (fun _ h9 => h9) rfl hdg kk
theorem cp_X5_181 {x : Int32} (hC : cX p c cc nL s m args RX5 G Z A) (hH : cH G Q D T A u s H locs) (hu : si u 13 x = u1) (hdg : decode cc pc = .ok (.putfield 181, 3)) (kk : ∀ (H : Heap) (locs : List Loc), cH G Q D T A u1 s H locs → W p l e R s m args below meth c H locs cells slots Q' (F0 m (pc + 3) ls rest)) : W p l e R s m args below meth c H locs cells slots Q' (F0 m pc ls (.int x :: .ref (Q 3) :: rest)) := by
  subst hu
  exact va_put (D := gD G) (ci := 6) (v := .int x) (ty := tyX5 11) (C := RX5) (T := TX5) (N := 14) hC.1 hC.2.1 hC.2.2.2.2.1 wKin_X5 tyX5 tyX5_ok nmX5 hC.2.2.2.1 hC.2.2.2.2.2.1.1 hH.1 hH.2.1 hH.2.2 3 rfl rfl 11 (by decide) (hC.2.2.2.2.1 _ wka61) (fun _ h9 => h9) rfl (tyX5_ok 11 (by decide)) rfl rfl (Nat.le_of_ble_eq_true rfl) hdg (fun H locs a b d => kk H locs ⟨a, b, d⟩)
theorem cg_X6_9 (hC : cX p c cc nL s m args RX6 G Z A) (hH : cH G Q D T A u s H locs) (hdg : decode cc pc = .ok (.getfield 9, 3)) (kk : W p l e R s m args below meth c H locs cells slots Q' (F0 m (pc + 3) ls (.ref (Q 1) :: rest))) : W p l e R s m args below meth c H locs cells slots Q' (F0 m pc ls (.ref (Q 9) :: rest)) :=
  va_get (D := gD G) (ci := 7) (v := .ref (Q 1)) (C := RX6) (T := TX6) (N := 14) hC.1 hC.2.1 hC.2.2.2.2.1 wKin_X6 hC.2.2.2.1 hC.2.2.2.2.2.1.1 hH.1 9 rfl rfl 0 (by decide) (hC.2.2.2.2.1 _ wka110) (fun _ h9 => h9) rfl hdg kk
theorem cg_X6_15 (hC : cX p c cc nL s m args RX6 G Z A) (hH : cH G Q D T A u s H locs) (hdg : decode cc pc = .ok (.getfield 15, 3)) (kk : W p l e R s m args below meth c H locs cells slots Q' (F0 m (pc + 3) ls (.ref (Q 6) :: rest))) : W p l e R s m args below meth c H locs cells slots Q' (F0 m pc ls (.ref (Q 9) :: rest)) :=
  va_get (D := gD G) (ci := 7) (v := .ref (Q 6)) (C := RX6) (T := TX6) (N := 14) hC.1 hC.2.1 hC.2.2.2.2.1 wKin_X6 hC.2.2.2.1 hC.2.2.2.2.2.1.1 hH.1 9 rfl rfl 1 (by decide) (hC.2.2.2.2.1 _ wka111) (fun _ h9 => h9) rfl hdg kk
theorem cg_X6_26 (hC : cX p c cc nL s m args RX6 G Z A) (hH : cH G Q D T A u s H locs) (hdg : decode cc pc = .ok (.getfield 26, 3)) (kk : W p l e R s m args below meth c H locs cells slots Q' (F0 m (pc + 3) ls (.ref (Q 60) :: rest))) : W p l e R s m args below meth c H locs cells slots Q' (F0 m pc ls (.ref (Q 9) :: rest)) :=
  va_get (D := gD G) (ci := 7) (v := .ref (Q 60)) (C := RX6) (T := TX6) (N := 14) hC.1 hC.2.1 hC.2.2.2.2.1 wKin_X6 hC.2.2.2.1 hC.2.2.2.2.2.1.1 hH.1 9 rfl rfl 2 (by decide) (hC.2.2.2.2.1 _ wka112) (fun _ h9 => h9) rfl hdg kk
theorem cg_X6_30 (hC : cX p c cc nL s m args RX6 G Z A) (hH : cH G Q D T A u s H locs) (hdg : decode cc pc = .ok (.getfield 30, 3)) (kk : W p l e R s m args below meth c H locs cells slots Q' (F0 m (pc + 3) ls (.ref (Q 62) :: rest))) : W p l e R s m args below meth c H locs cells slots Q' (F0 m pc ls (.ref (Q 9) :: rest)) :=
  va_get (D := gD G) (ci := 7) (v := .ref (Q 62)) (C := RX6) (T := TX6) (N := 14) hC.1 hC.2.1 hC.2.2.2.2.1 wKin_X6 hC.2.2.2.1 hC.2.2.2.2.2.1.1 hH.1 9 rfl rfl 3 (by decide) (hC.2.2.2.2.1 _ wka113) (fun _ h9 => h9) rfl hdg kk
theorem cg_X6_33 (hC : cX p c cc nL s m args RX6 G Z A) (hH : cH G Q D T A u s H locs) (hdg : decode cc pc = .ok (.getfield 33, 3)) (kk : W p l e R s m args below meth c H locs cells slots Q' (F0 m (pc + 3) ls (.ref (Q 64) :: rest))) : W p l e R s m args below meth c H locs cells slots Q' (F0 m pc ls (.ref (Q 9) :: rest)) :=
  va_get (D := gD G) (ci := 7) (v := .ref (Q 64)) (C := RX6) (T := TX6) (N := 14) hC.1 hC.2.1 hC.2.2.2.2.1 wKin_X6 hC.2.2.2.1 hC.2.2.2.2.2.1.1 hH.1 9 rfl rfl 4 (by decide) (hC.2.2.2.2.1 _ wka114) (fun _ h9 => h9) rfl hdg kk
theorem cg_X6_36 (hC : cX p c cc nL s m args RX6 G Z A) (hH : cH G Q D T A u s H locs) (hdg : decode cc pc = .ok (.getfield 36, 3)) (kk : W p l e R s m args below meth c H locs cells slots Q' (F0 m (pc + 3) ls (.ref (Q 66) :: rest))) : W p l e R s m args below meth c H locs cells slots Q' (F0 m pc ls (.ref (Q 9) :: rest)) :=
  va_get (D := gD G) (ci := 7) (v := .ref (Q 66)) (C := RX6) (T := TX6) (N := 14) hC.1 hC.2.1 hC.2.2.2.2.1 wKin_X6 hC.2.2.2.1 hC.2.2.2.2.2.1.1 hH.1 9 rfl rfl 5 (by decide) (hC.2.2.2.2.1 _ wka115) (fun _ h9 => h9) rfl hdg kk
theorem cg_X6_39 (hC : cX p c cc nL s m args RX6 G Z A) (hH : cH G Q D T A u s H locs) (hdg : decode cc pc = .ok (.getfield 39, 3)) (kk : W p l e R s m args below meth c H locs cells slots Q' (F0 m (pc + 3) ls (.ref (Q 68) :: rest))) : W p l e R s m args below meth c H locs cells slots Q' (F0 m pc ls (.ref (Q 9) :: rest)) :=
  va_get (D := gD G) (ci := 7) (v := .ref (Q 68)) (C := RX6) (T := TX6) (N := 14) hC.1 hC.2.1 hC.2.2.2.2.1 wKin_X6 hC.2.2.2.1 hC.2.2.2.2.2.1.1 hH.1 9 rfl rfl 6 (by decide) (hC.2.2.2.2.1 _ wka116) (fun _ h9 => h9) rfl hdg kk
theorem cg_X6_42 (hC : cX p c cc nL s m args RX6 G Z A) (hH : cH G Q D T A u s H locs) (hdg : decode cc pc = .ok (.getfield 42, 3)) (kk : W p l e R s m args below meth c H locs cells slots Q' (F0 m (pc + 3) ls (.ref (sl (u.1 61) (Q 70) (Q 72)) :: rest))) : W p l e R s m args below meth c H locs cells slots Q' (F0 m pc ls (.ref (Q 9) :: rest)) :=
  va_get (D := gD G) (ci := 7) (v := .ref (sl (u.1 61) (Q 70) (Q 72))) (C := RX6) (T := TX6) (N := 14) hC.1 hC.2.1 hC.2.2.2.2.1 wKin_X6 hC.2.2.2.1 hC.2.2.2.2.2.1.1 hH.1 9 rfl rfl 7 (by decide) (hC.2.2.2.2.1 _ wka117) (fun _ h9 => h9) rfl hdg kk
theorem cp_X6_42 {x : Int32} (hC : cX p c cc nL s m args RX6 G Z A) (hH : cH G Q D T A u s H locs) (hu : si u 61 x = u1) (hdg : decode cc pc = .ok (.putfield 42, 3)) (kk : ∀ (H : Heap) (locs : List Loc), cH G Q D T A u1 s H locs → W p l e R s m args below meth c H locs cells slots Q' (F0 m (pc + 3) ls rest)) : W p l e R s m args below meth c H locs cells slots Q' (F0 m pc ls (.ref (sl x (Q 70) (Q 72)) :: .ref (Q 9) :: rest)) := by
  subst hu
  exact va_put (D := gD G) (ci := 7) (v := .ref (sl x (Q 70) (Q 72))) (ty := tyX6 7) (C := RX6) (T := TX6) (N := 14) hC.1 hC.2.1 hC.2.2.2.2.1 wKin_X6 tyX6 tyX6_ok nmX6 hC.2.2.2.1 hC.2.2.2.2.2.1.1 hH.1 hH.2.1 hH.2.2 9 rfl rfl 7 (by decide) (hC.2.2.2.2.1 _ wka117) (fun _ h9 => h9) rfl (tyX6_ok 7 (by decide)) rfl rfl (Nat.le_of_ble_eq_true rfl) hdg (fun H locs a b d => kk H locs ⟨a, b, d⟩)
theorem cg_X6_45 (hC : cX p c cc nL s m args RX6 G Z A) (hH : cH G Q D T A u s H locs) (hdg : decode cc pc = .ok (.getfield 45, 3)) (kk : W p l e R s m args below meth c H locs cells slots Q' (F0 m (pc + 3) ls (.ref (sl (u.1 63) (Q 74) (Q 76)) :: rest))) : W p l e R s m args below meth c H locs cells slots Q' (F0 m pc ls (.ref (Q 9) :: rest)) :=
  va_get (D := gD G) (ci := 7) (v := .ref (sl (u.1 63) (Q 74) (Q 76))) (C := RX6) (T := TX6) (N := 14) hC.1 hC.2.1 hC.2.2.2.2.1 wKin_X6 hC.2.2.2.1 hC.2.2.2.2.2.1.1 hH.1 9 rfl rfl 8 (by decide) (hC.2.2.2.2.1 _ wka118) (fun _ h9 => h9) rfl hdg kk
theorem cp_X6_45 {x : Int32} (hC : cX p c cc nL s m args RX6 G Z A) (hH : cH G Q D T A u s H locs) (hu : si u 63 x = u1) (hdg : decode cc pc = .ok (.putfield 45, 3)) (kk : ∀ (H : Heap) (locs : List Loc), cH G Q D T A u1 s H locs → W p l e R s m args below meth c H locs cells slots Q' (F0 m (pc + 3) ls rest)) : W p l e R s m args below meth c H locs cells slots Q' (F0 m pc ls (.ref (sl x (Q 74) (Q 76)) :: .ref (Q 9) :: rest)) := by
  subst hu
  exact va_put (D := gD G) (ci := 7) (v := .ref (sl x (Q 74) (Q 76))) (ty := tyX6 8) (C := RX6) (T := TX6) (N := 14) hC.1 hC.2.1 hC.2.2.2.2.1 wKin_X6 tyX6 tyX6_ok nmX6 hC.2.2.2.1 hC.2.2.2.2.2.1.1 hH.1 hH.2.1 hH.2.2 9 rfl rfl 8 (by decide) (hC.2.2.2.2.1 _ wka118) (fun _ h9 => h9) rfl (tyX6_ok 8 (by decide)) rfl rfl (Nat.le_of_ble_eq_true rfl) hdg (fun H locs a b d => kk H locs ⟨a, b, d⟩)
theorem cg_X6_48 (hC : cX p c cc nL s m args RX6 G Z A) (hH : cH G Q D T A u s H locs) (hdg : decode cc pc = .ok (.getfield 48, 3)) (kk : W p l e R s m args below meth c H locs cells slots Q' (F0 m (pc + 3) ls (.ref (sl (u.1 62) (Q 70) (Q 72)) :: rest))) : W p l e R s m args below meth c H locs cells slots Q' (F0 m pc ls (.ref (Q 9) :: rest)) :=
  va_get (D := gD G) (ci := 7) (v := .ref (sl (u.1 62) (Q 70) (Q 72))) (C := RX6) (T := TX6) (N := 14) hC.1 hC.2.1 hC.2.2.2.2.1 wKin_X6 hC.2.2.2.1 hC.2.2.2.2.2.1.1 hH.1 9 rfl rfl 9 (by decide) (hC.2.2.2.2.1 _ wka119) (fun _ h9 => h9) rfl hdg kk
theorem cp_X6_48 {x : Int32} (hC : cX p c cc nL s m args RX6 G Z A) (hH : cH G Q D T A u s H locs) (hu : si u 62 x = u1) (hdg : decode cc pc = .ok (.putfield 48, 3)) (kk : ∀ (H : Heap) (locs : List Loc), cH G Q D T A u1 s H locs → W p l e R s m args below meth c H locs cells slots Q' (F0 m (pc + 3) ls rest)) : W p l e R s m args below meth c H locs cells slots Q' (F0 m pc ls (.ref (sl x (Q 70) (Q 72)) :: .ref (Q 9) :: rest)) := by
  subst hu
  exact va_put (D := gD G) (ci := 7) (v := .ref (sl x (Q 70) (Q 72))) (ty := tyX6 9) (C := RX6) (T := TX6) (N := 14) hC.1 hC.2.1 hC.2.2.2.2.1 wKin_X6 tyX6 tyX6_ok nmX6 hC.2.2.2.1 hC.2.2.2.2.2.1.1 hH.1 hH.2.1 hH.2.2 9 rfl rfl 9 (by decide) (hC.2.2.2.2.1 _ wka119) (fun _ h9 => h9) rfl (tyX6_ok 9 (by decide)) rfl rfl (Nat.le_of_ble_eq_true rfl) hdg (fun H locs a b d => kk H locs ⟨a, b, d⟩)
theorem cg_X6_51 (hC : cX p c cc nL s m args RX6 G Z A) (hH : cH G Q D T A u s H locs) (hdg : decode cc pc = .ok (.getfield 51, 3)) (kk : W p l e R s m args below meth c H locs cells slots Q' (F0 m (pc + 3) ls (.ref (sl (u.1 64) (Q 74) (Q 76)) :: rest))) : W p l e R s m args below meth c H locs cells slots Q' (F0 m pc ls (.ref (Q 9) :: rest)) :=
  va_get (D := gD G) (ci := 7) (v := .ref (sl (u.1 64) (Q 74) (Q 76))) (C := RX6) (T := TX6) (N := 14) hC.1 hC.2.1 hC.2.2.2.2.1 wKin_X6 hC.2.2.2.1 hC.2.2.2.2.2.1.1 hH.1 9 rfl rfl 10 (by decide) (hC.2.2.2.2.1 _ wka120) (fun _ h9 => h9) rfl hdg kk
theorem cp_X6_51 {x : Int32} (hC : cX p c cc nL s m args RX6 G Z A) (hH : cH G Q D T A u s H locs) (hu : si u 64 x = u1) (hdg : decode cc pc = .ok (.putfield 51, 3)) (kk : ∀ (H : Heap) (locs : List Loc), cH G Q D T A u1 s H locs → W p l e R s m args below meth c H locs cells slots Q' (F0 m (pc + 3) ls rest)) : W p l e R s m args below meth c H locs cells slots Q' (F0 m pc ls (.ref (sl x (Q 74) (Q 76)) :: .ref (Q 9) :: rest)) := by
  subst hu
  exact va_put (D := gD G) (ci := 7) (v := .ref (sl x (Q 74) (Q 76))) (ty := tyX6 10) (C := RX6) (T := TX6) (N := 14) hC.1 hC.2.1 hC.2.2.2.2.1 wKin_X6 tyX6 tyX6_ok nmX6 hC.2.2.2.1 hC.2.2.2.2.2.1.1 hH.1 hH.2.1 hH.2.2 9 rfl rfl 10 (by decide) (hC.2.2.2.2.1 _ wka120) (fun _ h9 => h9) rfl (tyX6_ok 10 (by decide)) rfl rfl (Nat.le_of_ble_eq_true rfl) hdg (fun H locs a b d => kk H locs ⟨a, b, d⟩)
theorem cg_X6_62 (hC : cX p c cc nL s m args RX6 G Z A) (hH : cH G Q D T A u s H locs) (hdg : decode cc pc = .ok (.getfield 62, 3)) (kk : W p l e R s m args below meth c H locs cells slots Q' (F0 m (pc + 3) ls (.int (u.1 18) :: rest))) : W p l e R s m args below meth c H locs cells slots Q' (F0 m pc ls (.ref (Q 9) :: rest)) :=
  va_get (D := gD G) (ci := 7) (v := .int (u.1 18)) (C := RX6) (T := TX6) (N := 14) hC.1 hC.2.1 hC.2.2.2.2.1 wKin_X6 hC.2.2.2.1 hC.2.2.2.2.2.1.1 hH.1 9 rfl rfl 12 (by decide) (hC.2.2.2.2.1 _ wka122) (fun _ h9 => h9) rfl hdg kk
theorem cp_X6_62 {x : Int32} (hC : cX p c cc nL s m args RX6 G Z A) (hH : cH G Q D T A u s H locs) (hu : si u 18 x = u1) (hdg : decode cc pc = .ok (.putfield 62, 3)) (kk : ∀ (H : Heap) (locs : List Loc), cH G Q D T A u1 s H locs → W p l e R s m args below meth c H locs cells slots Q' (F0 m (pc + 3) ls rest)) : W p l e R s m args below meth c H locs cells slots Q' (F0 m pc ls (.int x :: .ref (Q 9) :: rest)) := by
  subst hu
  exact va_put (D := gD G) (ci := 7) (v := .int x) (ty := tyX6 12) (C := RX6) (T := TX6) (N := 14) hC.1 hC.2.1 hC.2.2.2.2.1 wKin_X6 tyX6 tyX6_ok nmX6 hC.2.2.2.1 hC.2.2.2.2.2.1.1 hH.1 hH.2.1 hH.2.2 9 rfl rfl 12 (by decide) (hC.2.2.2.2.1 _ wka122) (fun _ h9 => h9) rfl (tyX6_ok 12 (by decide)) rfl rfl (Nat.le_of_ble_eq_true rfl) hdg (fun H locs a b d => kk H locs ⟨a, b, d⟩)
theorem cg_X6_84 (hC : cX p c cc nL s m args RX6 G Z A) (hH : cH G Q D T A u s H locs) (hdg : decode cc pc = .ok (.getfield 84, 3)) (kk : W p l e R s m args below meth c H locs cells slots Q' (F0 m (pc + 3) ls (.int (u.1 17) :: rest))) : W p l e R s m args below meth c H locs cells slots Q' (F0 m pc ls (.ref (Q 9) :: rest)) :=
  va_get (D := gD G) (ci := 7) (v := .int (u.1 17)) (C := RX6) (T := TX6) (N := 14) hC.1 hC.2.1 hC.2.2.2.2.1 wKin_X6 hC.2.2.2.1 hC.2.2.2.2.2.1.1 hH.1 9 rfl rfl 11 (by decide) (hC.2.2.2.2.1 _ wka121) (fun _ h9 => h9) rfl hdg kk
theorem cp_X6_84 {x : Int32} (hC : cX p c cc nL s m args RX6 G Z A) (hH : cH G Q D T A u s H locs) (hu : si u 17 x = u1) (hdg : decode cc pc = .ok (.putfield 84, 3)) (kk : ∀ (H : Heap) (locs : List Loc), cH G Q D T A u1 s H locs → W p l e R s m args below meth c H locs cells slots Q' (F0 m (pc + 3) ls rest)) : W p l e R s m args below meth c H locs cells slots Q' (F0 m pc ls (.int x :: .ref (Q 9) :: rest)) := by
  subst hu
  exact va_put (D := gD G) (ci := 7) (v := .int x) (ty := tyX6 11) (C := RX6) (T := TX6) (N := 14) hC.1 hC.2.1 hC.2.2.2.2.1 wKin_X6 tyX6 tyX6_ok nmX6 hC.2.2.2.1 hC.2.2.2.2.2.1.1 hH.1 hH.2.1 hH.2.2 9 rfl rfl 11 (by decide) (hC.2.2.2.2.1 _ wka121) (fun _ h9 => h9) rfl (tyX6_ok 11 (by decide)) rfl rfl (Nat.le_of_ble_eq_true rfl) hdg (fun H locs a b d => kk H locs ⟨a, b, d⟩)
theorem cg_X6_102 (hC : cX p c cc nL s m args RX6 G Z A) (hH : cH G Q D T A u s H locs) (hdg : decode cc pc = .ok (.getfield 102, 3)) (kk : W p l e R s m args below meth c H locs cells slots Q' (F0 m (pc + 3) ls (.int (u.1 19) :: rest))) : W p l e R s m args below meth c H locs cells slots Q' (F0 m pc ls (.ref (Q 9) :: rest)) :=
  va_get (D := gD G) (ci := 7) (v := .int (u.1 19)) (C := RX6) (T := TX6) (N := 14) hC.1 hC.2.1 hC.2.2.2.2.1 wKin_X6 hC.2.2.2.1 hC.2.2.2.2.2.1.1 hH.1 9 rfl rfl 13 (by decide) (hC.2.2.2.2.1 _ wka123) (fun _ h9 => h9) rfl hdg kk
theorem cp_X6_102 {x : Int32} (hC : cX p c cc nL s m args RX6 G Z A) (hH : cH G Q D T A u s H locs) (hu : si u 19 x = u1) (hdg : decode cc pc = .ok (.putfield 102, 3)) (kk : ∀ (H : Heap) (locs : List Loc), cH G Q D T A u1 s H locs → W p l e R s m args below meth c H locs cells slots Q' (F0 m (pc + 3) ls rest)) : W p l e R s m args below meth c H locs cells slots Q' (F0 m pc ls (.int x :: .ref (Q 9) :: rest)) := by
  subst hu
  exact va_put (D := gD G) (ci := 7) (v := .int x) (ty := tyX6 13) (C := RX6) (T := TX6) (N := 14) hC.1 hC.2.1 hC.2.2.2.2.1 wKin_X6 tyX6 tyX6_ok nmX6 hC.2.2.2.1 hC.2.2.2.2.2.1.1 hH.1 hH.2.1 hH.2.2 9 rfl rfl 13 (by decide) (hC.2.2.2.2.1 _ wka123) (fun _ h9 => h9) rfl (tyX6_ok 13 (by decide)) rfl rfl (Nat.le_of_ble_eq_true rfl) hdg (fun H locs a b d => kk H locs ⟨a, b, d⟩)
theorem cg_X7_9 (hC : cX p c cc nL s m args RX7 G Z A) (hH : cH G Q D T A u s H locs) (hdg : decode cc pc = .ok (.getfield 9, 3)) (kk : W p l e R s m args below meth c H locs cells slots Q' (F0 m (pc + 3) ls (.ref (Q 1) :: rest))) : W p l e R s m args below meth c H locs cells slots Q' (F0 m pc ls (.ref (Q 8) :: rest)) :=
  va_get (D := gD G) (ci := 8) (v := .ref (Q 1)) (C := RX7) (T := TX7) (N := 4) hC.1 hC.2.1 hC.2.2.2.2.1 wKin_X7 hC.2.2.2.1 hC.2.2.2.2.2.1.1 hH.1 8 rfl rfl 0 (by decide) (hC.2.2.2.2.1 _ wka101) (fun _ h9 => h9) rfl hdg kk
theorem cg_X7_15 (hC : cX p c cc nL s m args RX7 G Z A) (hH : cH G Q D T A u s H locs) (hdg : decode cc pc = .ok (.getfield 15, 3)) (kk : W p l e R s m args below meth c H locs cells slots Q' (F0 m (pc + 3) ls (.ref (Q 6) :: rest))) : W p l e R s m args below meth c H locs cells slots Q' (F0 m pc ls (.ref (Q 8) :: rest)) :=
  va_get (D := gD G) (ci := 8) (v := .ref (Q 6)) (C := RX7) (T := TX7) (N := 4) hC.1 hC.2.1 hC.2.2.2.2.1 wKin_X7 hC.2.2.2.1 hC.2.2.2.2.2.1.1 hH.1 8 rfl rfl 1 (by decide) (hC.2.2.2.2.1 _ wka102) (fun _ h9 => h9) rfl hdg kk
theorem cg_X7_24 (hC : cX p c cc nL s m args RX7 G Z A) (hH : cH G Q D T A u s H locs) (hdg : decode cc pc = .ok (.getfield 24, 3)) (kk : W p l e R s m args below meth c H locs cells slots Q' (F0 m (pc + 3) ls (.ref (Q 56) :: rest))) : W p l e R s m args below meth c H locs cells slots Q' (F0 m pc ls (.ref (Q 8) :: rest)) :=
  va_get (D := gD G) (ci := 8) (v := .ref (Q 56)) (C := RX7) (T := TX7) (N := 4) hC.1 hC.2.1 hC.2.2.2.2.1 wKin_X7 hC.2.2.2.1 hC.2.2.2.2.2.1.1 hH.1 8 rfl rfl 2 (by decide) (hC.2.2.2.2.1 _ wka103) (fun _ h9 => h9) rfl hdg kk
theorem cg_X7_28 (hC : cX p c cc nL s m args RX7 G Z A) (hH : cH G Q D T A u s H locs) (hdg : decode cc pc = .ok (.getfield 28, 3)) (kk : W p l e R s m args below meth c H locs cells slots Q' (F0 m (pc + 3) ls (.ref (Q 58) :: rest))) : W p l e R s m args below meth c H locs cells slots Q' (F0 m pc ls (.ref (Q 8) :: rest)) :=
  va_get (D := gD G) (ci := 8) (v := .ref (Q 58)) (C := RX7) (T := TX7) (N := 4) hC.1 hC.2.1 hC.2.2.2.2.1 wKin_X7 hC.2.2.2.1 hC.2.2.2.2.2.1.1 hH.1 8 rfl rfl 3 (by decide) (hC.2.2.2.2.1 _ wka104) (fun _ h9 => h9) rfl hdg kk
theorem cg_X8_9 (hC : cX p c cc nL s m args RX8 G Z A) (hH : cH G Q D T A u s H locs) (hdg : decode cc pc = .ok (.getfield 9, 3)) (kk : W p l e R s m args below meth c H locs cells slots Q' (F0 m (pc + 3) ls (.ref (Q 1) :: rest))) : W p l e R s m args below meth c H locs cells slots Q' (F0 m pc ls (.ref (Q 4) :: rest)) :=
  va_get (D := gD G) (ci := 9) (v := .ref (Q 1)) (C := RX8) (T := TX8) (N := 1) hC.1 hC.2.1 hC.2.2.2.2.1 wKin_X8 hC.2.2.2.1 hC.2.2.2.2.2.1.1 hH.1 4 rfl rfl 0 (by decide) (hC.2.2.2.2.1 _ wka67) (fun _ h9 => h9) rfl hdg kk
theorem rg_0 {index : Nat} {x : Int32} (hC : cX p c cc nL s m args own G Z A) (hH : cH G Q D T A u s H locs) (hlk : Cond.methodLink own index yX9_get ∈ wK) (hR : 1 ≤ R.frames ∧ 21 ≤ R.locals) (hls : ls.size = nL) (hcat : (rest.map fun v => v.category).sum ≤ 8) (hf : cells ≤ R.cells ∧ slots ≤ R.slots) (hdg : decode cc pc = .ok (.invokevirtual index, 3)) (kk : W p l e R s m args below meth c H locs cells slots Q' (F0 m (pc + 3) ls (.int (rg (u.2 1) (u.1 60).toNatClampNeg x) :: rest))) : W p l e R s m args below meth c H locs cells slots Q' (F0 m pc ls (.int x :: .ref (Q 20) :: rest)) := rget (i := 12) (j := 13) hC hH rfl rfl (gl_top _) hlk hR hls hcat hf hdg kk
theorem rs_0 {index : Nat} {x y : Int32} (hC : cX p c cc nL s m args own G Z A) (hH : cH G Q D T A u s H locs) (hu : sf u 1 (rs (u.2 1) (u.1 60).toNatClampNeg x y) = u1) (hlk : Cond.methodLink own index yX9_set ∈ wK) (hR : 1 ≤ R.frames ∧ 22 ≤ R.locals) (hls : ls.size = nL) (hcat : (rest.map fun v => v.category).sum ≤ 8) (hf : cells ≤ R.cells ∧ slots ≤ R.slots) (hdg : decode cc pc = .ok (.invokevirtual index, 3)) (kk : ∀ (H : Heap) (locs : List Loc), cH G Q D T A u1 s H locs → W p l e R s m args below meth c H locs cells slots Q' (F0 m (pc + 3) ls rest)) : W p l e R s m args below meth c H locs cells slots Q' (F0 m pc ls (.int y :: .int x :: .ref (Q 20) :: rest)) := by
  subst hu
  exact rset (i := 12) (j := 13) hC hH rfl rfl (gl_top _) rfl hlk hR hls hcat hf hdg kk
theorem rg_1 {index : Nat} {x : Int32} (hC : cX p c cc nL s m args own G Z A) (hH : cH G Q D T A u s H locs) (hlk : Cond.methodLink own index yX9_get ∈ wK) (hR : 1 ≤ R.frames ∧ 21 ≤ R.locals) (hls : ls.size = nL) (hcat : (rest.map fun v => v.category).sum ≤ 8) (hf : cells ≤ R.cells ∧ slots ≤ R.slots) (hdg : decode cc pc = .ok (.invokevirtual index, 3)) (kk : W p l e R s m args below meth c H locs cells slots Q' (F0 m (pc + 3) ls (.int (rg (u.2 2) (u.1 65).toNatClampNeg x) :: rest))) : W p l e R s m args below meth c H locs cells slots Q' (F0 m pc ls (.int x :: .ref (Q 22) :: rest)) := rget (i := 14) (j := 15) hC hH rfl rfl (gl_top _) hlk hR hls hcat hf hdg kk
theorem rs_1 {index : Nat} {x y : Int32} (hC : cX p c cc nL s m args own G Z A) (hH : cH G Q D T A u s H locs) (hu : sf u 2 (rs (u.2 2) (u.1 65).toNatClampNeg x y) = u1) (hlk : Cond.methodLink own index yX9_set ∈ wK) (hR : 1 ≤ R.frames ∧ 22 ≤ R.locals) (hls : ls.size = nL) (hcat : (rest.map fun v => v.category).sum ≤ 8) (hf : cells ≤ R.cells ∧ slots ≤ R.slots) (hdg : decode cc pc = .ok (.invokevirtual index, 3)) (kk : ∀ (H : Heap) (locs : List Loc), cH G Q D T A u1 s H locs → W p l e R s m args below meth c H locs cells slots Q' (F0 m (pc + 3) ls rest)) : W p l e R s m args below meth c H locs cells slots Q' (F0 m pc ls (.int y :: .int x :: .ref (Q 22) :: rest)) := by
  subst hu
  exact rset (i := 14) (j := 15) hC hH rfl rfl (gl_top _) rfl hlk hR hls hcat hf hdg kk
theorem rg_2 {index : Nat} {x : Int32} (hC : cX p c cc nL s m args own G Z A) (hH : cH G Q D T A u s H locs) (hlk : Cond.methodLink own index yX9_get ∈ wK) (hR : 1 ≤ R.frames ∧ 21 ≤ R.locals) (hls : ls.size = nL) (hcat : (rest.map fun v => v.category).sum ≤ 8) (hf : cells ≤ R.cells ∧ slots ≤ R.slots) (hdg : decode cc pc = .ok (.invokevirtual index, 3)) (kk : W p l e R s m args below meth c H locs cells slots Q' (F0 m (pc + 3) ls (.int (rg (u.2 3) 500 x) :: rest))) : W p l e R s m args below meth c H locs cells slots Q' (F0 m pc ls (.int x :: .ref (Q 24) :: rest)) := rget (i := 16) (j := 17) hC hH rfl rfl (by decide) hlk hR hls hcat hf hdg kk
theorem rs_2 {index : Nat} {x y : Int32} (hC : cX p c cc nL s m args own G Z A) (hH : cH G Q D T A u s H locs) (hu : sf u 3 (rs (u.2 3) 500 x y) = u1) (hlk : Cond.methodLink own index yX9_set ∈ wK) (hR : 1 ≤ R.frames ∧ 22 ≤ R.locals) (hls : ls.size = nL) (hcat : (rest.map fun v => v.category).sum ≤ 8) (hf : cells ≤ R.cells ∧ slots ≤ R.slots) (hdg : decode cc pc = .ok (.invokevirtual index, 3)) (kk : ∀ (H : Heap) (locs : List Loc), cH G Q D T A u1 s H locs → W p l e R s m args below meth c H locs cells slots Q' (F0 m (pc + 3) ls rest)) : W p l e R s m args below meth c H locs cells slots Q' (F0 m pc ls (.int y :: .int x :: .ref (Q 24) :: rest)) := by
  subst hu
  exact rset (i := 16) (j := 17) hC hH rfl rfl (by decide) rfl hlk hR hls hcat hf hdg kk
theorem rg_3 {index : Nat} {x : Int32} (hC : cX p c cc nL s m args own G Z A) (hH : cH G Q D T A u s H locs) (hlk : Cond.methodLink own index yX9_get ∈ wK) (hR : 1 ≤ R.frames ∧ 21 ≤ R.locals) (hls : ls.size = nL) (hcat : (rest.map fun v => v.category).sum ≤ 8) (hf : cells ≤ R.cells ∧ slots ≤ R.slots) (hdg : decode cc pc = .ok (.invokevirtual index, 3)) (kk : W p l e R s m args below meth c H locs cells slots Q' (F0 m (pc + 3) ls (.int (rg (u.2 4) 3000 x) :: rest))) : W p l e R s m args below meth c H locs cells slots Q' (F0 m pc ls (.int x :: .ref (Q 26) :: rest)) := rget (i := 18) (j := 19) hC hH rfl rfl (by decide) hlk hR hls hcat hf hdg kk
theorem rs_3 {index : Nat} {x y : Int32} (hC : cX p c cc nL s m args own G Z A) (hH : cH G Q D T A u s H locs) (hu : sf u 4 (rs (u.2 4) 3000 x y) = u1) (hlk : Cond.methodLink own index yX9_set ∈ wK) (hR : 1 ≤ R.frames ∧ 22 ≤ R.locals) (hls : ls.size = nL) (hcat : (rest.map fun v => v.category).sum ≤ 8) (hf : cells ≤ R.cells ∧ slots ≤ R.slots) (hdg : decode cc pc = .ok (.invokevirtual index, 3)) (kk : ∀ (H : Heap) (locs : List Loc), cH G Q D T A u1 s H locs → W p l e R s m args below meth c H locs cells slots Q' (F0 m (pc + 3) ls rest)) : W p l e R s m args below meth c H locs cells slots Q' (F0 m pc ls (.int y :: .int x :: .ref (Q 26) :: rest)) := by
  subst hu
  exact rset (i := 18) (j := 19) hC hH rfl rfl (by decide) rfl hlk hR hls hcat hf hdg kk
theorem rg_4 {index : Nat} {x : Int32} (hC : cX p c cc nL s m args own G Z A) (hH : cH G Q D T A u s H locs) (hlk : Cond.methodLink own index yX9_get ∈ wK) (hR : 1 ≤ R.frames ∧ 21 ≤ R.locals) (hls : ls.size = nL) (hcat : (rest.map fun v => v.category).sum ≤ 8) (hf : cells ≤ R.cells ∧ slots ≤ R.slots) (hdg : decode cc pc = .ok (.invokevirtual index, 3)) (kk : W p l e R s m args below meth c H locs cells slots Q' (F0 m (pc + 3) ls (.int (rg (u.2 5) 8 x) :: rest))) : W p l e R s m args below meth c H locs cells slots Q' (F0 m pc ls (.int x :: .ref (Q 28) :: rest)) := rget (i := 20) (j := 21) hC hH rfl rfl (by decide) hlk hR hls hcat hf hdg kk
theorem rs_4 {index : Nat} {x y : Int32} (hC : cX p c cc nL s m args own G Z A) (hH : cH G Q D T A u s H locs) (hu : sf u 5 (rs (u.2 5) 8 x y) = u1) (hlk : Cond.methodLink own index yX9_set ∈ wK) (hR : 1 ≤ R.frames ∧ 22 ≤ R.locals) (hls : ls.size = nL) (hcat : (rest.map fun v => v.category).sum ≤ 8) (hf : cells ≤ R.cells ∧ slots ≤ R.slots) (hdg : decode cc pc = .ok (.invokevirtual index, 3)) (kk : ∀ (H : Heap) (locs : List Loc), cH G Q D T A u1 s H locs → W p l e R s m args below meth c H locs cells slots Q' (F0 m (pc + 3) ls rest)) : W p l e R s m args below meth c H locs cells slots Q' (F0 m pc ls (.int y :: .int x :: .ref (Q 28) :: rest)) := by
  subst hu
  exact rset (i := 20) (j := 21) hC hH rfl rfl (by decide) rfl hlk hR hls hcat hf hdg kk
theorem rg_5 {index : Nat} {x : Int32} (hC : cX p c cc nL s m args own G Z A) (hH : cH G Q D T A u s H locs) (hlk : Cond.methodLink own index yX9_get ∈ wK) (hR : 1 ≤ R.frames ∧ 21 ≤ R.locals) (hls : ls.size = nL) (hcat : (rest.map fun v => v.category).sum ≤ 8) (hf : cells ≤ R.cells ∧ slots ≤ R.slots) (hdg : decode cc pc = .ok (.invokevirtual index, 3)) (kk : W p l e R s m args below meth c H locs cells slots Q' (F0 m (pc + 3) ls (.int (rg (u.2 6) 8 x) :: rest))) : W p l e R s m args below meth c H locs cells slots Q' (F0 m pc ls (.int x :: .ref (Q 30) :: rest)) := rget (i := 22) (j := 23) hC hH rfl rfl (by decide) hlk hR hls hcat hf hdg kk
theorem rs_5 {index : Nat} {x y : Int32} (hC : cX p c cc nL s m args own G Z A) (hH : cH G Q D T A u s H locs) (hu : sf u 6 (rs (u.2 6) 8 x y) = u1) (hlk : Cond.methodLink own index yX9_set ∈ wK) (hR : 1 ≤ R.frames ∧ 22 ≤ R.locals) (hls : ls.size = nL) (hcat : (rest.map fun v => v.category).sum ≤ 8) (hf : cells ≤ R.cells ∧ slots ≤ R.slots) (hdg : decode cc pc = .ok (.invokevirtual index, 3)) (kk : ∀ (H : Heap) (locs : List Loc), cH G Q D T A u1 s H locs → W p l e R s m args below meth c H locs cells slots Q' (F0 m (pc + 3) ls rest)) : W p l e R s m args below meth c H locs cells slots Q' (F0 m pc ls (.int y :: .int x :: .ref (Q 30) :: rest)) := by
  subst hu
  exact rset (i := 22) (j := 23) hC hH rfl rfl (by decide) rfl hlk hR hls hcat hf hdg kk
theorem rg_6 {index : Nat} {x : Int32} (hC : cX p c cc nL s m args own G Z A) (hH : cH G Q D T A u s H locs) (hlk : Cond.methodLink own index yX9_get ∈ wK) (hR : 1 ≤ R.frames ∧ 21 ≤ R.locals) (hls : ls.size = nL) (hcat : (rest.map fun v => v.category).sum ≤ 8) (hf : cells ≤ R.cells ∧ slots ≤ R.slots) (hdg : decode cc pc = .ok (.invokevirtual index, 3)) (kk : W p l e R s m args below meth c H locs cells slots Q' (F0 m (pc + 3) ls (.int (rg (u.2 7) 64 x) :: rest))) : W p l e R s m args below meth c H locs cells slots Q' (F0 m pc ls (.int x :: .ref (Q 32) :: rest)) := rget (i := 24) (j := 25) hC hH rfl rfl (by decide) hlk hR hls hcat hf hdg kk
theorem rs_6 {index : Nat} {x y : Int32} (hC : cX p c cc nL s m args own G Z A) (hH : cH G Q D T A u s H locs) (hu : sf u 7 (rs (u.2 7) 64 x y) = u1) (hlk : Cond.methodLink own index yX9_set ∈ wK) (hR : 1 ≤ R.frames ∧ 22 ≤ R.locals) (hls : ls.size = nL) (hcat : (rest.map fun v => v.category).sum ≤ 8) (hf : cells ≤ R.cells ∧ slots ≤ R.slots) (hdg : decode cc pc = .ok (.invokevirtual index, 3)) (kk : ∀ (H : Heap) (locs : List Loc), cH G Q D T A u1 s H locs → W p l e R s m args below meth c H locs cells slots Q' (F0 m (pc + 3) ls rest)) : W p l e R s m args below meth c H locs cells slots Q' (F0 m pc ls (.int y :: .int x :: .ref (Q 32) :: rest)) := by
  subst hu
  exact rset (i := 24) (j := 25) hC hH rfl rfl (by decide) rfl hlk hR hls hcat hf hdg kk
theorem rs_7 {index : Nat} {x y : Int32} (hC : cX p c cc nL s m args own G Z A) (hH : cH G Q D T A u s H locs) (hu : sf u 8 (rs (u.2 8) 300 x y) = u1) (hlk : Cond.methodLink own index yX9_set ∈ wK) (hR : 1 ≤ R.frames ∧ 22 ≤ R.locals) (hls : ls.size = nL) (hcat : (rest.map fun v => v.category).sum ≤ 8) (hf : cells ≤ R.cells ∧ slots ≤ R.slots) (hdg : decode cc pc = .ok (.invokevirtual index, 3)) (kk : ∀ (H : Heap) (locs : List Loc), cH G Q D T A u1 s H locs → W p l e R s m args below meth c H locs cells slots Q' (F0 m (pc + 3) ls rest)) : W p l e R s m args below meth c H locs cells slots Q' (F0 m pc ls (.int y :: .int x :: .ref (Q 34) :: rest)) := by
  subst hu
  exact rset (i := 26) (j := 27) hC hH rfl rfl (by decide) rfl hlk hR hls hcat hf hdg kk
theorem rs_8 {index : Nat} {x y : Int32} (hC : cX p c cc nL s m args own G Z A) (hH : cH G Q D T A u s H locs) (hu : sf u 9 (rs (u.2 9) 20 x y) = u1) (hlk : Cond.methodLink own index yX9_set ∈ wK) (hR : 1 ≤ R.frames ∧ 22 ≤ R.locals) (hls : ls.size = nL) (hcat : (rest.map fun v => v.category).sum ≤ 8) (hf : cells ≤ R.cells ∧ slots ≤ R.slots) (hdg : decode cc pc = .ok (.invokevirtual index, 3)) (kk : ∀ (H : Heap) (locs : List Loc), cH G Q D T A u1 s H locs → W p l e R s m args below meth c H locs cells slots Q' (F0 m (pc + 3) ls rest)) : W p l e R s m args below meth c H locs cells slots Q' (F0 m pc ls (.int y :: .int x :: .ref (Q 36) :: rest)) := by
  subst hu
  exact rset (i := 28) (j := 29) hC hH rfl rfl (by decide) rfl hlk hR hls hcat hf hdg kk
theorem rs_9 {index : Nat} {x y : Int32} (hC : cX p c cc nL s m args own G Z A) (hH : cH G Q D T A u s H locs) (hu : sf u 10 (rs (u.2 10) 20 x y) = u1) (hlk : Cond.methodLink own index yX9_set ∈ wK) (hR : 1 ≤ R.frames ∧ 22 ≤ R.locals) (hls : ls.size = nL) (hcat : (rest.map fun v => v.category).sum ≤ 8) (hf : cells ≤ R.cells ∧ slots ≤ R.slots) (hdg : decode cc pc = .ok (.invokevirtual index, 3)) (kk : ∀ (H : Heap) (locs : List Loc), cH G Q D T A u1 s H locs → W p l e R s m args below meth c H locs cells slots Q' (F0 m (pc + 3) ls rest)) : W p l e R s m args below meth c H locs cells slots Q' (F0 m pc ls (.int y :: .int x :: .ref (Q 38) :: rest)) := by
  subst hu
  exact rset (i := 30) (j := 31) hC hH rfl rfl (by decide) rfl hlk hR hls hcat hf hdg kk
theorem rg_10 {index : Nat} {x : Int32} (hC : cX p c cc nL s m args own G Z A) (hH : cH G Q D T A u s H locs) (hlk : Cond.methodLink own index yX9_get ∈ wK) (hR : 1 ≤ R.frames ∧ 21 ≤ R.locals) (hls : ls.size = nL) (hcat : (rest.map fun v => v.category).sum ≤ 8) (hf : cells ≤ R.cells ∧ slots ≤ R.slots) (hdg : decode cc pc = .ok (.invokevirtual index, 3)) (kk : W p l e R s m args below meth c H locs cells slots Q' (F0 m (pc + 3) ls (.int (rg (u.2 11) 32 x) :: rest))) : W p l e R s m args below meth c H locs cells slots Q' (F0 m pc ls (.int x :: .ref (Q 40) :: rest)) := rget (i := 32) (j := 33) hC hH rfl rfl (by decide) hlk hR hls hcat hf hdg kk
theorem rs_10 {index : Nat} {x y : Int32} (hC : cX p c cc nL s m args own G Z A) (hH : cH G Q D T A u s H locs) (hu : sf u 11 (rs (u.2 11) 32 x y) = u1) (hlk : Cond.methodLink own index yX9_set ∈ wK) (hR : 1 ≤ R.frames ∧ 22 ≤ R.locals) (hls : ls.size = nL) (hcat : (rest.map fun v => v.category).sum ≤ 8) (hf : cells ≤ R.cells ∧ slots ≤ R.slots) (hdg : decode cc pc = .ok (.invokevirtual index, 3)) (kk : ∀ (H : Heap) (locs : List Loc), cH G Q D T A u1 s H locs → W p l e R s m args below meth c H locs cells slots Q' (F0 m (pc + 3) ls rest)) : W p l e R s m args below meth c H locs cells slots Q' (F0 m pc ls (.int y :: .int x :: .ref (Q 40) :: rest)) := by
  subst hu
  exact rset (i := 32) (j := 33) hC hH rfl rfl (by decide) rfl hlk hR hls hcat hf hdg kk
theorem rg_11 {index : Nat} {x : Int32} (hC : cX p c cc nL s m args own G Z A) (hH : cH G Q D T A u s H locs) (hlk : Cond.methodLink own index yX9_get ∈ wK) (hR : 1 ≤ R.frames ∧ 21 ≤ R.locals) (hls : ls.size = nL) (hcat : (rest.map fun v => v.category).sum ≤ 8) (hf : cells ≤ R.cells ∧ slots ≤ R.slots) (hdg : decode cc pc = .ok (.invokevirtual index, 3)) (kk : W p l e R s m args below meth c H locs cells slots Q' (F0 m (pc + 3) ls (.int (rg (u.2 12) 16 x) :: rest))) : W p l e R s m args below meth c H locs cells slots Q' (F0 m pc ls (.int x :: .ref (Q 42) :: rest)) := rget (i := 34) (j := 35) hC hH rfl rfl (by decide) hlk hR hls hcat hf hdg kk
theorem rs_11 {index : Nat} {x y : Int32} (hC : cX p c cc nL s m args own G Z A) (hH : cH G Q D T A u s H locs) (hu : sf u 12 (rs (u.2 12) 16 x y) = u1) (hlk : Cond.methodLink own index yX9_set ∈ wK) (hR : 1 ≤ R.frames ∧ 22 ≤ R.locals) (hls : ls.size = nL) (hcat : (rest.map fun v => v.category).sum ≤ 8) (hf : cells ≤ R.cells ∧ slots ≤ R.slots) (hdg : decode cc pc = .ok (.invokevirtual index, 3)) (kk : ∀ (H : Heap) (locs : List Loc), cH G Q D T A u1 s H locs → W p l e R s m args below meth c H locs cells slots Q' (F0 m (pc + 3) ls rest)) : W p l e R s m args below meth c H locs cells slots Q' (F0 m pc ls (.int y :: .int x :: .ref (Q 42) :: rest)) := by
  subst hu
  exact rset (i := 34) (j := 35) hC hH rfl rfl (by decide) rfl hlk hR hls hcat hf hdg kk
theorem rf_11 {index : Nat} {x : Int32} (hC : cX p c cc nL s m args own G Z A) (hH : cH G Q D T A u s H locs) (hu : sf u 12 (fl 16 x (u.2 12)) = u1) (hlk : Cond.methodLink own index yX9_fill ∈ wK) (hR : 2 ≤ R.frames ∧ 44 ≤ R.locals) (hls : ls.size = nL) (hcat : (rest.map fun v => v.category).sum ≤ 8) (hf : cells ≤ R.cells ∧ slots ≤ R.slots) (hdg : decode cc pc = .ok (.invokevirtual index, 3)) (kk : ∀ (H : Heap) (locs : List Loc), cH G Q D T A u1 s H locs → W p l e R s m args below meth c H locs cells slots Q' (F0 m (pc + 3) ls rest)) : W p l e R s m args below meth c H locs cells slots Q' (F0 m pc ls (.int x :: .ref (Q 42) :: rest)) := by
  subst hu
  exact rfil (i := 34) (j := 35) hC hH rfl rfl (by decide) rfl hlk hR hls hcat hf hdg kk
theorem rg_12 {index : Nat} {x : Int32} (hC : cX p c cc nL s m args own G Z A) (hH : cH G Q D T A u s H locs) (hlk : Cond.methodLink own index yX9_get ∈ wK) (hR : 1 ≤ R.frames ∧ 21 ≤ R.locals) (hls : ls.size = nL) (hcat : (rest.map fun v => v.category).sum ≤ 8) (hf : cells ≤ R.cells ∧ slots ≤ R.slots) (hdg : decode cc pc = .ok (.invokevirtual index, 3)) (kk : W p l e R s m args below meth c H locs cells slots Q' (F0 m (pc + 3) ls (.int (rg (u.2 13) 148 x) :: rest))) : W p l e R s m args below meth c H locs cells slots Q' (F0 m pc ls (.int x :: .ref (Q 44) :: rest)) := rget (i := 36) (j := 37) hC hH rfl rfl (by decide) hlk hR hls hcat hf hdg kk
theorem rs_12 {index : Nat} {x y : Int32} (hC : cX p c cc nL s m args own G Z A) (hH : cH G Q D T A u s H locs) (hu : sf u 13 (rs (u.2 13) 148 x y) = u1) (hlk : Cond.methodLink own index yX9_set ∈ wK) (hR : 1 ≤ R.frames ∧ 22 ≤ R.locals) (hls : ls.size = nL) (hcat : (rest.map fun v => v.category).sum ≤ 8) (hf : cells ≤ R.cells ∧ slots ≤ R.slots) (hdg : decode cc pc = .ok (.invokevirtual index, 3)) (kk : ∀ (H : Heap) (locs : List Loc), cH G Q D T A u1 s H locs → W p l e R s m args below meth c H locs cells slots Q' (F0 m (pc + 3) ls rest)) : W p l e R s m args below meth c H locs cells slots Q' (F0 m pc ls (.int y :: .int x :: .ref (Q 44) :: rest)) := by
  subst hu
  exact rset (i := 36) (j := 37) hC hH rfl rfl (by decide) rfl hlk hR hls hcat hf hdg kk
theorem rg_13 {index : Nat} {x : Int32} (hC : cX p c cc nL s m args own G Z A) (hH : cH G Q D T A u s H locs) (hlk : Cond.methodLink own index yX9_get ∈ wK) (hR : 1 ≤ R.frames ∧ 21 ≤ R.locals) (hls : ls.size = nL) (hcat : (rest.map fun v => v.category).sum ≤ 8) (hf : cells ≤ R.cells ∧ slots ≤ R.slots) (hdg : decode cc pc = .ok (.invokevirtual index, 3)) (kk : W p l e R s m args below meth c H locs cells slots Q' (F0 m (pc + 3) ls (.int (rg (u.2 14) 148 x) :: rest))) : W p l e R s m args below meth c H locs cells slots Q' (F0 m pc ls (.int x :: .ref (Q 46) :: rest)) := rget (i := 38) (j := 39) hC hH rfl rfl (by decide) hlk hR hls hcat hf hdg kk
theorem rs_13 {index : Nat} {x y : Int32} (hC : cX p c cc nL s m args own G Z A) (hH : cH G Q D T A u s H locs) (hu : sf u 14 (rs (u.2 14) 148 x y) = u1) (hlk : Cond.methodLink own index yX9_set ∈ wK) (hR : 1 ≤ R.frames ∧ 22 ≤ R.locals) (hls : ls.size = nL) (hcat : (rest.map fun v => v.category).sum ≤ 8) (hf : cells ≤ R.cells ∧ slots ≤ R.slots) (hdg : decode cc pc = .ok (.invokevirtual index, 3)) (kk : ∀ (H : Heap) (locs : List Loc), cH G Q D T A u1 s H locs → W p l e R s m args below meth c H locs cells slots Q' (F0 m (pc + 3) ls rest)) : W p l e R s m args below meth c H locs cells slots Q' (F0 m pc ls (.int y :: .int x :: .ref (Q 46) :: rest)) := by
  subst hu
  exact rset (i := 38) (j := 39) hC hH rfl rfl (by decide) rfl hlk hR hls hcat hf hdg kk
theorem rg_14 {index : Nat} {x : Int32} (hC : cX p c cc nL s m args own G Z A) (hH : cH G Q D T A u s H locs) (hlk : Cond.methodLink own index yX9_get ∈ wK) (hR : 1 ≤ R.frames ∧ 21 ≤ R.locals) (hls : ls.size = nL) (hcat : (rest.map fun v => v.category).sum ≤ 8) (hf : cells ≤ R.cells ∧ slots ≤ R.slots) (hdg : decode cc pc = .ok (.invokevirtual index, 3)) (kk : W p l e R s m args below meth c H locs cells slots Q' (F0 m (pc + 3) ls (.int (rg (u.2 15) 148 x) :: rest))) : W p l e R s m args below meth c H locs cells slots Q' (F0 m pc ls (.int x :: .ref (Q 48) :: rest)) := rget (i := 40) (j := 41) hC hH rfl rfl (by decide) hlk hR hls hcat hf hdg kk
theorem rs_14 {index : Nat} {x y : Int32} (hC : cX p c cc nL s m args own G Z A) (hH : cH G Q D T A u s H locs) (hu : sf u 15 (rs (u.2 15) 148 x y) = u1) (hlk : Cond.methodLink own index yX9_set ∈ wK) (hR : 1 ≤ R.frames ∧ 22 ≤ R.locals) (hls : ls.size = nL) (hcat : (rest.map fun v => v.category).sum ≤ 8) (hf : cells ≤ R.cells ∧ slots ≤ R.slots) (hdg : decode cc pc = .ok (.invokevirtual index, 3)) (kk : ∀ (H : Heap) (locs : List Loc), cH G Q D T A u1 s H locs → W p l e R s m args below meth c H locs cells slots Q' (F0 m (pc + 3) ls rest)) : W p l e R s m args below meth c H locs cells slots Q' (F0 m pc ls (.int y :: .int x :: .ref (Q 48) :: rest)) := by
  subst hu
  exact rset (i := 40) (j := 41) hC hH rfl rfl (by decide) rfl hlk hR hls hcat hf hdg kk
theorem rg_15 {index : Nat} {x : Int32} (hC : cX p c cc nL s m args own G Z A) (hH : cH G Q D T A u s H locs) (hlk : Cond.methodLink own index yX9_get ∈ wK) (hR : 1 ≤ R.frames ∧ 21 ≤ R.locals) (hls : ls.size = nL) (hcat : (rest.map fun v => v.category).sum ≤ 8) (hf : cells ≤ R.cells ∧ slots ≤ R.slots) (hdg : decode cc pc = .ok (.invokevirtual index, 3)) (kk : W p l e R s m args below meth c H locs cells slots Q' (F0 m (pc + 3) ls (.int (rg (u.2 16) 148 x) :: rest))) : W p l e R s m args below meth c H locs cells slots Q' (F0 m pc ls (.int x :: .ref (Q 50) :: rest)) := rget (i := 42) (j := 43) hC hH rfl rfl (by decide) hlk hR hls hcat hf hdg kk
theorem rs_15 {index : Nat} {x y : Int32} (hC : cX p c cc nL s m args own G Z A) (hH : cH G Q D T A u s H locs) (hu : sf u 16 (rs (u.2 16) 148 x y) = u1) (hlk : Cond.methodLink own index yX9_set ∈ wK) (hR : 1 ≤ R.frames ∧ 22 ≤ R.locals) (hls : ls.size = nL) (hcat : (rest.map fun v => v.category).sum ≤ 8) (hf : cells ≤ R.cells ∧ slots ≤ R.slots) (hdg : decode cc pc = .ok (.invokevirtual index, 3)) (kk : ∀ (H : Heap) (locs : List Loc), cH G Q D T A u1 s H locs → W p l e R s m args below meth c H locs cells slots Q' (F0 m (pc + 3) ls rest)) : W p l e R s m args below meth c H locs cells slots Q' (F0 m pc ls (.int y :: .int x :: .ref (Q 50) :: rest)) := by
  subst hu
  exact rset (i := 42) (j := 43) hC hH rfl rfl (by decide) rfl hlk hR hls hcat hf hdg kk
theorem rg_16 {index : Nat} {x : Int32} (hC : cX p c cc nL s m args own G Z A) (hH : cH G Q D T A u s H locs) (hlk : Cond.methodLink own index yX9_get ∈ wK) (hR : 1 ≤ R.frames ∧ 21 ≤ R.locals) (hls : ls.size = nL) (hcat : (rest.map fun v => v.category).sum ≤ 8) (hf : cells ≤ R.cells ∧ slots ≤ R.slots) (hdg : decode cc pc = .ok (.invokevirtual index, 3)) (kk : W p l e R s m args below meth c H locs cells slots Q' (F0 m (pc + 3) ls (.int (rg (u.2 17) 4 x) :: rest))) : W p l e R s m args below meth c H locs cells slots Q' (F0 m pc ls (.int x :: .ref (Q 52) :: rest)) := rget (i := 44) (j := 45) hC hH rfl rfl (by decide) hlk hR hls hcat hf hdg kk
theorem rs_16 {index : Nat} {x y : Int32} (hC : cX p c cc nL s m args own G Z A) (hH : cH G Q D T A u s H locs) (hu : sf u 17 (rs (u.2 17) 4 x y) = u1) (hlk : Cond.methodLink own index yX9_set ∈ wK) (hR : 1 ≤ R.frames ∧ 22 ≤ R.locals) (hls : ls.size = nL) (hcat : (rest.map fun v => v.category).sum ≤ 8) (hf : cells ≤ R.cells ∧ slots ≤ R.slots) (hdg : decode cc pc = .ok (.invokevirtual index, 3)) (kk : ∀ (H : Heap) (locs : List Loc), cH G Q D T A u1 s H locs → W p l e R s m args below meth c H locs cells slots Q' (F0 m (pc + 3) ls rest)) : W p l e R s m args below meth c H locs cells slots Q' (F0 m pc ls (.int y :: .int x :: .ref (Q 52) :: rest)) := by
  subst hu
  exact rset (i := 44) (j := 45) hC hH rfl rfl (by decide) rfl hlk hR hls hcat hf hdg kk
theorem rf_16 {index : Nat} {x : Int32} (hC : cX p c cc nL s m args own G Z A) (hH : cH G Q D T A u s H locs) (hu : sf u 17 (fl 4 x (u.2 17)) = u1) (hlk : Cond.methodLink own index yX9_fill ∈ wK) (hR : 2 ≤ R.frames ∧ 44 ≤ R.locals) (hls : ls.size = nL) (hcat : (rest.map fun v => v.category).sum ≤ 8) (hf : cells ≤ R.cells ∧ slots ≤ R.slots) (hdg : decode cc pc = .ok (.invokevirtual index, 3)) (kk : ∀ (H : Heap) (locs : List Loc), cH G Q D T A u1 s H locs → W p l e R s m args below meth c H locs cells slots Q' (F0 m (pc + 3) ls rest)) : W p l e R s m args below meth c H locs cells slots Q' (F0 m pc ls (.int x :: .ref (Q 52) :: rest)) := by
  subst hu
  exact rfil (i := 44) (j := 45) hC hH rfl rfl (by decide) rfl hlk hR hls hcat hf hdg kk
theorem rg_17 {index : Nat} {x : Int32} (hC : cX p c cc nL s m args own G Z A) (hH : cH G Q D T A u s H locs) (hlk : Cond.methodLink own index yX9_get ∈ wK) (hR : 1 ≤ R.frames ∧ 21 ≤ R.locals) (hls : ls.size = nL) (hcat : (rest.map fun v => v.category).sum ≤ 8) (hf : cells ≤ R.cells ∧ slots ≤ R.slots) (hdg : decode cc pc = .ok (.invokevirtual index, 3)) (kk : W p l e R s m args below meth c H locs cells slots Q' (F0 m (pc + 3) ls (.int (rg (u.2 18) 64 x) :: rest))) : W p l e R s m args below meth c H locs cells slots Q' (F0 m pc ls (.int x :: .ref (Q 54) :: rest)) := rget (i := 46) (j := 47) hC hH rfl rfl (by decide) hlk hR hls hcat hf hdg kk
theorem rs_17 {index : Nat} {x y : Int32} (hC : cX p c cc nL s m args own G Z A) (hH : cH G Q D T A u s H locs) (hu : sf u 18 (rs (u.2 18) 64 x y) = u1) (hlk : Cond.methodLink own index yX9_set ∈ wK) (hR : 1 ≤ R.frames ∧ 22 ≤ R.locals) (hls : ls.size = nL) (hcat : (rest.map fun v => v.category).sum ≤ 8) (hf : cells ≤ R.cells ∧ slots ≤ R.slots) (hdg : decode cc pc = .ok (.invokevirtual index, 3)) (kk : ∀ (H : Heap) (locs : List Loc), cH G Q D T A u1 s H locs → W p l e R s m args below meth c H locs cells slots Q' (F0 m (pc + 3) ls rest)) : W p l e R s m args below meth c H locs cells slots Q' (F0 m pc ls (.int y :: .int x :: .ref (Q 54) :: rest)) := by
  subst hu
  exact rset (i := 46) (j := 47) hC hH rfl rfl (by decide) rfl hlk hR hls hcat hf hdg kk
theorem rg_18 {index : Nat} {x : Int32} (hC : cX p c cc nL s m args own G Z A) (hH : cH G Q D T A u s H locs) (hlk : Cond.methodLink own index yX9_get ∈ wK) (hR : 1 ≤ R.frames ∧ 21 ≤ R.locals) (hls : ls.size = nL) (hcat : (rest.map fun v => v.category).sum ≤ 8) (hf : cells ≤ R.cells ∧ slots ≤ R.slots) (hdg : decode cc pc = .ok (.invokevirtual index, 3)) (kk : W p l e R s m args below meth c H locs cells slots Q' (F0 m (pc + 3) ls (.int (rg (u.2 19) 96 x) :: rest))) : W p l e R s m args below meth c H locs cells slots Q' (F0 m pc ls (.int x :: .ref (Q 56) :: rest)) := rget (i := 48) (j := 49) hC hH rfl rfl (by decide) hlk hR hls hcat hf hdg kk
theorem rs_18 {index : Nat} {x y : Int32} (hC : cX p c cc nL s m args own G Z A) (hH : cH G Q D T A u s H locs) (hu : sf u 19 (rs (u.2 19) 96 x y) = u1) (hlk : Cond.methodLink own index yX9_set ∈ wK) (hR : 1 ≤ R.frames ∧ 22 ≤ R.locals) (hls : ls.size = nL) (hcat : (rest.map fun v => v.category).sum ≤ 8) (hf : cells ≤ R.cells ∧ slots ≤ R.slots) (hdg : decode cc pc = .ok (.invokevirtual index, 3)) (kk : ∀ (H : Heap) (locs : List Loc), cH G Q D T A u1 s H locs → W p l e R s m args below meth c H locs cells slots Q' (F0 m (pc + 3) ls rest)) : W p l e R s m args below meth c H locs cells slots Q' (F0 m pc ls (.int y :: .int x :: .ref (Q 56) :: rest)) := by
  subst hu
  exact rset (i := 48) (j := 49) hC hH rfl rfl (by decide) rfl hlk hR hls hcat hf hdg kk
theorem rf_18 {index : Nat} {x : Int32} (hC : cX p c cc nL s m args own G Z A) (hH : cH G Q D T A u s H locs) (hu : sf u 19 (fl 96 x (u.2 19)) = u1) (hlk : Cond.methodLink own index yX9_fill ∈ wK) (hR : 2 ≤ R.frames ∧ 44 ≤ R.locals) (hls : ls.size = nL) (hcat : (rest.map fun v => v.category).sum ≤ 8) (hf : cells ≤ R.cells ∧ slots ≤ R.slots) (hdg : decode cc pc = .ok (.invokevirtual index, 3)) (kk : ∀ (H : Heap) (locs : List Loc), cH G Q D T A u1 s H locs → W p l e R s m args below meth c H locs cells slots Q' (F0 m (pc + 3) ls rest)) : W p l e R s m args below meth c H locs cells slots Q' (F0 m pc ls (.int x :: .ref (Q 56) :: rest)) := by
  subst hu
  exact rfil (i := 48) (j := 49) hC hH rfl rfl (by decide) rfl hlk hR hls hcat hf hdg kk
theorem rg_19 {index : Nat} {x : Int32} (hC : cX p c cc nL s m args own G Z A) (hH : cH G Q D T A u s H locs) (hlk : Cond.methodLink own index yX9_get ∈ wK) (hR : 1 ≤ R.frames ∧ 21 ≤ R.locals) (hls : ls.size = nL) (hcat : (rest.map fun v => v.category).sum ≤ 8) (hf : cells ≤ R.cells ∧ slots ≤ R.slots) (hdg : decode cc pc = .ok (.invokevirtual index, 3)) (kk : W p l e R s m args below meth c H locs cells slots Q' (F0 m (pc + 3) ls (.int (rg (u.2 20) 96 x) :: rest))) : W p l e R s m args below meth c H locs cells slots Q' (F0 m pc ls (.int x :: .ref (Q 58) :: rest)) := rget (i := 50) (j := 51) hC hH rfl rfl (by decide) hlk hR hls hcat hf hdg kk
theorem rs_19 {index : Nat} {x y : Int32} (hC : cX p c cc nL s m args own G Z A) (hH : cH G Q D T A u s H locs) (hu : sf u 20 (rs (u.2 20) 96 x y) = u1) (hlk : Cond.methodLink own index yX9_set ∈ wK) (hR : 1 ≤ R.frames ∧ 22 ≤ R.locals) (hls : ls.size = nL) (hcat : (rest.map fun v => v.category).sum ≤ 8) (hf : cells ≤ R.cells ∧ slots ≤ R.slots) (hdg : decode cc pc = .ok (.invokevirtual index, 3)) (kk : ∀ (H : Heap) (locs : List Loc), cH G Q D T A u1 s H locs → W p l e R s m args below meth c H locs cells slots Q' (F0 m (pc + 3) ls rest)) : W p l e R s m args below meth c H locs cells slots Q' (F0 m pc ls (.int y :: .int x :: .ref (Q 58) :: rest)) := by
  subst hu
  exact rset (i := 50) (j := 51) hC hH rfl rfl (by decide) rfl hlk hR hls hcat hf hdg kk
theorem rf_19 {index : Nat} {x : Int32} (hC : cX p c cc nL s m args own G Z A) (hH : cH G Q D T A u s H locs) (hu : sf u 20 (fl 96 x (u.2 20)) = u1) (hlk : Cond.methodLink own index yX9_fill ∈ wK) (hR : 2 ≤ R.frames ∧ 44 ≤ R.locals) (hls : ls.size = nL) (hcat : (rest.map fun v => v.category).sum ≤ 8) (hf : cells ≤ R.cells ∧ slots ≤ R.slots) (hdg : decode cc pc = .ok (.invokevirtual index, 3)) (kk : ∀ (H : Heap) (locs : List Loc), cH G Q D T A u1 s H locs → W p l e R s m args below meth c H locs cells slots Q' (F0 m (pc + 3) ls rest)) : W p l e R s m args below meth c H locs cells slots Q' (F0 m pc ls (.int x :: .ref (Q 58) :: rest)) := by
  subst hu
  exact rfil (i := 50) (j := 51) hC hH rfl rfl (by decide) rfl hlk hR hls hcat hf hdg kk
theorem rg_20 {index : Nat} {x : Int32} (hC : cX p c cc nL s m args own G Z A) (hH : cH G Q D T A u s H locs) (hlk : Cond.methodLink own index yX9_get ∈ wK) (hR : 1 ≤ R.frames ∧ 21 ≤ R.locals) (hls : ls.size = nL) (hcat : (rest.map fun v => v.category).sum ≤ 8) (hf : cells ≤ R.cells ∧ slots ≤ R.slots) (hdg : decode cc pc = .ok (.invokevirtual index, 3)) (kk : W p l e R s m args below meth c H locs cells slots Q' (F0 m (pc + 3) ls (.int (rg (u.2 21) 148 x) :: rest))) : W p l e R s m args below meth c H locs cells slots Q' (F0 m pc ls (.int x :: .ref (Q 60) :: rest)) := rget (i := 52) (j := 53) hC hH rfl rfl (by decide) hlk hR hls hcat hf hdg kk
theorem rs_20 {index : Nat} {x y : Int32} (hC : cX p c cc nL s m args own G Z A) (hH : cH G Q D T A u s H locs) (hu : sf u 21 (rs (u.2 21) 148 x y) = u1) (hlk : Cond.methodLink own index yX9_set ∈ wK) (hR : 1 ≤ R.frames ∧ 22 ≤ R.locals) (hls : ls.size = nL) (hcat : (rest.map fun v => v.category).sum ≤ 8) (hf : cells ≤ R.cells ∧ slots ≤ R.slots) (hdg : decode cc pc = .ok (.invokevirtual index, 3)) (kk : ∀ (H : Heap) (locs : List Loc), cH G Q D T A u1 s H locs → W p l e R s m args below meth c H locs cells slots Q' (F0 m (pc + 3) ls rest)) : W p l e R s m args below meth c H locs cells slots Q' (F0 m pc ls (.int y :: .int x :: .ref (Q 60) :: rest)) := by
  subst hu
  exact rset (i := 52) (j := 53) hC hH rfl rfl (by decide) rfl hlk hR hls hcat hf hdg kk
theorem rg_21 {index : Nat} {x : Int32} (hC : cX p c cc nL s m args own G Z A) (hH : cH G Q D T A u s H locs) (hlk : Cond.methodLink own index yX9_get ∈ wK) (hR : 1 ≤ R.frames ∧ 21 ≤ R.locals) (hls : ls.size = nL) (hcat : (rest.map fun v => v.category).sum ≤ 8) (hf : cells ≤ R.cells ∧ slots ≤ R.slots) (hdg : decode cc pc = .ok (.invokevirtual index, 3)) (kk : W p l e R s m args below meth c H locs cells slots Q' (F0 m (pc + 3) ls (.int (rg (u.2 22) 148 x) :: rest))) : W p l e R s m args below meth c H locs cells slots Q' (F0 m pc ls (.int x :: .ref (Q 62) :: rest)) := rget (i := 54) (j := 55) hC hH rfl rfl (by decide) hlk hR hls hcat hf hdg kk
theorem rs_21 {index : Nat} {x y : Int32} (hC : cX p c cc nL s m args own G Z A) (hH : cH G Q D T A u s H locs) (hu : sf u 22 (rs (u.2 22) 148 x y) = u1) (hlk : Cond.methodLink own index yX9_set ∈ wK) (hR : 1 ≤ R.frames ∧ 22 ≤ R.locals) (hls : ls.size = nL) (hcat : (rest.map fun v => v.category).sum ≤ 8) (hf : cells ≤ R.cells ∧ slots ≤ R.slots) (hdg : decode cc pc = .ok (.invokevirtual index, 3)) (kk : ∀ (H : Heap) (locs : List Loc), cH G Q D T A u1 s H locs → W p l e R s m args below meth c H locs cells slots Q' (F0 m (pc + 3) ls rest)) : W p l e R s m args below meth c H locs cells slots Q' (F0 m pc ls (.int y :: .int x :: .ref (Q 62) :: rest)) := by
  subst hu
  exact rset (i := 54) (j := 55) hC hH rfl rfl (by decide) rfl hlk hR hls hcat hf hdg kk
theorem rf_21 {index : Nat} {x : Int32} (hC : cX p c cc nL s m args own G Z A) (hH : cH G Q D T A u s H locs) (hu : sf u 22 (fl 148 x (u.2 22)) = u1) (hlk : Cond.methodLink own index yX9_fill ∈ wK) (hR : 2 ≤ R.frames ∧ 44 ≤ R.locals) (hls : ls.size = nL) (hcat : (rest.map fun v => v.category).sum ≤ 8) (hf : cells ≤ R.cells ∧ slots ≤ R.slots) (hdg : decode cc pc = .ok (.invokevirtual index, 3)) (kk : ∀ (H : Heap) (locs : List Loc), cH G Q D T A u1 s H locs → W p l e R s m args below meth c H locs cells slots Q' (F0 m (pc + 3) ls rest)) : W p l e R s m args below meth c H locs cells slots Q' (F0 m pc ls (.int x :: .ref (Q 62) :: rest)) := by
  subst hu
  exact rfil (i := 54) (j := 55) hC hH rfl rfl (by decide) rfl hlk hR hls hcat hf hdg kk
theorem rg_22 {index : Nat} {x : Int32} (hC : cX p c cc nL s m args own G Z A) (hH : cH G Q D T A u s H locs) (hlk : Cond.methodLink own index yX9_get ∈ wK) (hR : 1 ≤ R.frames ∧ 21 ≤ R.locals) (hls : ls.size = nL) (hcat : (rest.map fun v => v.category).sum ≤ 8) (hf : cells ≤ R.cells ∧ slots ≤ R.slots) (hdg : decode cc pc = .ok (.invokevirtual index, 3)) (kk : W p l e R s m args below meth c H locs cells slots Q' (F0 m (pc + 3) ls (.int (rg (u.2 23) 4 x) :: rest))) : W p l e R s m args below meth c H locs cells slots Q' (F0 m pc ls (.int x :: .ref (Q 64) :: rest)) := rget (i := 56) (j := 57) hC hH rfl rfl (by decide) hlk hR hls hcat hf hdg kk
theorem rs_22 {index : Nat} {x y : Int32} (hC : cX p c cc nL s m args own G Z A) (hH : cH G Q D T A u s H locs) (hu : sf u 23 (rs (u.2 23) 4 x y) = u1) (hlk : Cond.methodLink own index yX9_set ∈ wK) (hR : 1 ≤ R.frames ∧ 22 ≤ R.locals) (hls : ls.size = nL) (hcat : (rest.map fun v => v.category).sum ≤ 8) (hf : cells ≤ R.cells ∧ slots ≤ R.slots) (hdg : decode cc pc = .ok (.invokevirtual index, 3)) (kk : ∀ (H : Heap) (locs : List Loc), cH G Q D T A u1 s H locs → W p l e R s m args below meth c H locs cells slots Q' (F0 m (pc + 3) ls rest)) : W p l e R s m args below meth c H locs cells slots Q' (F0 m pc ls (.int y :: .int x :: .ref (Q 64) :: rest)) := by
  subst hu
  exact rset (i := 56) (j := 57) hC hH rfl rfl (by decide) rfl hlk hR hls hcat hf hdg kk
theorem rf_22 {index : Nat} {x : Int32} (hC : cX p c cc nL s m args own G Z A) (hH : cH G Q D T A u s H locs) (hu : sf u 23 (fl 4 x (u.2 23)) = u1) (hlk : Cond.methodLink own index yX9_fill ∈ wK) (hR : 2 ≤ R.frames ∧ 44 ≤ R.locals) (hls : ls.size = nL) (hcat : (rest.map fun v => v.category).sum ≤ 8) (hf : cells ≤ R.cells ∧ slots ≤ R.slots) (hdg : decode cc pc = .ok (.invokevirtual index, 3)) (kk : ∀ (H : Heap) (locs : List Loc), cH G Q D T A u1 s H locs → W p l e R s m args below meth c H locs cells slots Q' (F0 m (pc + 3) ls rest)) : W p l e R s m args below meth c H locs cells slots Q' (F0 m pc ls (.int x :: .ref (Q 64) :: rest)) := by
  subst hu
  exact rfil (i := 56) (j := 57) hC hH rfl rfl (by decide) rfl hlk hR hls hcat hf hdg kk
theorem rg_23 {index : Nat} {x : Int32} (hC : cX p c cc nL s m args own G Z A) (hH : cH G Q D T A u s H locs) (hlk : Cond.methodLink own index yX9_get ∈ wK) (hR : 1 ≤ R.frames ∧ 21 ≤ R.locals) (hls : ls.size = nL) (hcat : (rest.map fun v => v.category).sum ≤ 8) (hf : cells ≤ R.cells ∧ slots ≤ R.slots) (hdg : decode cc pc = .ok (.invokevirtual index, 3)) (kk : W p l e R s m args below meth c H locs cells slots Q' (F0 m (pc + 3) ls (.int (rg (u.2 24) 96 x) :: rest))) : W p l e R s m args below meth c H locs cells slots Q' (F0 m pc ls (.int x :: .ref (Q 66) :: rest)) := rget (i := 58) (j := 59) hC hH rfl rfl (by decide) hlk hR hls hcat hf hdg kk
theorem rs_23 {index : Nat} {x y : Int32} (hC : cX p c cc nL s m args own G Z A) (hH : cH G Q D T A u s H locs) (hu : sf u 24 (rs (u.2 24) 96 x y) = u1) (hlk : Cond.methodLink own index yX9_set ∈ wK) (hR : 1 ≤ R.frames ∧ 22 ≤ R.locals) (hls : ls.size = nL) (hcat : (rest.map fun v => v.category).sum ≤ 8) (hf : cells ≤ R.cells ∧ slots ≤ R.slots) (hdg : decode cc pc = .ok (.invokevirtual index, 3)) (kk : ∀ (H : Heap) (locs : List Loc), cH G Q D T A u1 s H locs → W p l e R s m args below meth c H locs cells slots Q' (F0 m (pc + 3) ls rest)) : W p l e R s m args below meth c H locs cells slots Q' (F0 m pc ls (.int y :: .int x :: .ref (Q 66) :: rest)) := by
  subst hu
  exact rset (i := 58) (j := 59) hC hH rfl rfl (by decide) rfl hlk hR hls hcat hf hdg kk
theorem rg_24 {index : Nat} {x : Int32} (hC : cX p c cc nL s m args own G Z A) (hH : cH G Q D T A u s H locs) (hlk : Cond.methodLink own index yX9_get ∈ wK) (hR : 1 ≤ R.frames ∧ 21 ≤ R.locals) (hls : ls.size = nL) (hcat : (rest.map fun v => v.category).sum ≤ 8) (hf : cells ≤ R.cells ∧ slots ≤ R.slots) (hdg : decode cc pc = .ok (.invokevirtual index, 3)) (kk : W p l e R s m args below meth c H locs cells slots Q' (F0 m (pc + 3) ls (.int (rg (u.2 25) 148 x) :: rest))) : W p l e R s m args below meth c H locs cells slots Q' (F0 m pc ls (.int x :: .ref (Q 68) :: rest)) := rget (i := 60) (j := 61) hC hH rfl rfl (by decide) hlk hR hls hcat hf hdg kk
theorem rs_24 {index : Nat} {x y : Int32} (hC : cX p c cc nL s m args own G Z A) (hH : cH G Q D T A u s H locs) (hu : sf u 25 (rs (u.2 25) 148 x y) = u1) (hlk : Cond.methodLink own index yX9_set ∈ wK) (hR : 1 ≤ R.frames ∧ 22 ≤ R.locals) (hls : ls.size = nL) (hcat : (rest.map fun v => v.category).sum ≤ 8) (hf : cells ≤ R.cells ∧ slots ≤ R.slots) (hdg : decode cc pc = .ok (.invokevirtual index, 3)) (kk : ∀ (H : Heap) (locs : List Loc), cH G Q D T A u1 s H locs → W p l e R s m args below meth c H locs cells slots Q' (F0 m (pc + 3) ls rest)) : W p l e R s m args below meth c H locs cells slots Q' (F0 m pc ls (.int y :: .int x :: .ref (Q 68) :: rest)) := by
  subst hu
  exact rset (i := 60) (j := 61) hC hH rfl rfl (by decide) rfl hlk hR hls hcat hf hdg kk
theorem rg_25 {index : Nat} {x : Int32} (hC : cX p c cc nL s m args own G Z A) (hH : cH G Q D T A u s H locs) (hlk : Cond.methodLink own index yX9_get ∈ wK) (hR : 1 ≤ R.frames ∧ 21 ≤ R.locals) (hls : ls.size = nL) (hcat : (rest.map fun v => v.category).sum ≤ 8) (hf : cells ≤ R.cells ∧ slots ≤ R.slots) (hdg : decode cc pc = .ok (.invokevirtual index, 3)) (kk : W p l e R s m args below meth c H locs cells slots Q' (F0 m (pc + 3) ls (.int (rg (u.2 26) 148 x) :: rest))) : W p l e R s m args below meth c H locs cells slots Q' (F0 m pc ls (.int x :: .ref (Q 70) :: rest)) := rget (i := 62) (j := 63) hC hH rfl rfl (by decide) hlk hR hls hcat hf hdg kk
theorem rs_25 {index : Nat} {x y : Int32} (hC : cX p c cc nL s m args own G Z A) (hH : cH G Q D T A u s H locs) (hu : sf u 26 (rs (u.2 26) 148 x y) = u1) (hlk : Cond.methodLink own index yX9_set ∈ wK) (hR : 1 ≤ R.frames ∧ 22 ≤ R.locals) (hls : ls.size = nL) (hcat : (rest.map fun v => v.category).sum ≤ 8) (hf : cells ≤ R.cells ∧ slots ≤ R.slots) (hdg : decode cc pc = .ok (.invokevirtual index, 3)) (kk : ∀ (H : Heap) (locs : List Loc), cH G Q D T A u1 s H locs → W p l e R s m args below meth c H locs cells slots Q' (F0 m (pc + 3) ls rest)) : W p l e R s m args below meth c H locs cells slots Q' (F0 m pc ls (.int y :: .int x :: .ref (Q 70) :: rest)) := by
  subst hu
  exact rset (i := 62) (j := 63) hC hH rfl rfl (by decide) rfl hlk hR hls hcat hf hdg kk
theorem rf_25 {index : Nat} {x : Int32} (hC : cX p c cc nL s m args own G Z A) (hH : cH G Q D T A u s H locs) (hu : sf u 26 (fl 148 x (u.2 26)) = u1) (hlk : Cond.methodLink own index yX9_fill ∈ wK) (hR : 2 ≤ R.frames ∧ 44 ≤ R.locals) (hls : ls.size = nL) (hcat : (rest.map fun v => v.category).sum ≤ 8) (hf : cells ≤ R.cells ∧ slots ≤ R.slots) (hdg : decode cc pc = .ok (.invokevirtual index, 3)) (kk : ∀ (H : Heap) (locs : List Loc), cH G Q D T A u1 s H locs → W p l e R s m args below meth c H locs cells slots Q' (F0 m (pc + 3) ls rest)) : W p l e R s m args below meth c H locs cells slots Q' (F0 m pc ls (.int x :: .ref (Q 70) :: rest)) := by
  subst hu
  exact rfil (i := 62) (j := 63) hC hH rfl rfl (by decide) rfl hlk hR hls hcat hf hdg kk
theorem rg_26 {index : Nat} {x : Int32} (hC : cX p c cc nL s m args own G Z A) (hH : cH G Q D T A u s H locs) (hlk : Cond.methodLink own index yX9_get ∈ wK) (hR : 1 ≤ R.frames ∧ 21 ≤ R.locals) (hls : ls.size = nL) (hcat : (rest.map fun v => v.category).sum ≤ 8) (hf : cells ≤ R.cells ∧ slots ≤ R.slots) (hdg : decode cc pc = .ok (.invokevirtual index, 3)) (kk : W p l e R s m args below meth c H locs cells slots Q' (F0 m (pc + 3) ls (.int (rg (u.2 27) 148 x) :: rest))) : W p l e R s m args below meth c H locs cells slots Q' (F0 m pc ls (.int x :: .ref (Q 72) :: rest)) := rget (i := 64) (j := 65) hC hH rfl rfl (by decide) hlk hR hls hcat hf hdg kk
theorem rs_26 {index : Nat} {x y : Int32} (hC : cX p c cc nL s m args own G Z A) (hH : cH G Q D T A u s H locs) (hu : sf u 27 (rs (u.2 27) 148 x y) = u1) (hlk : Cond.methodLink own index yX9_set ∈ wK) (hR : 1 ≤ R.frames ∧ 22 ≤ R.locals) (hls : ls.size = nL) (hcat : (rest.map fun v => v.category).sum ≤ 8) (hf : cells ≤ R.cells ∧ slots ≤ R.slots) (hdg : decode cc pc = .ok (.invokevirtual index, 3)) (kk : ∀ (H : Heap) (locs : List Loc), cH G Q D T A u1 s H locs → W p l e R s m args below meth c H locs cells slots Q' (F0 m (pc + 3) ls rest)) : W p l e R s m args below meth c H locs cells slots Q' (F0 m pc ls (.int y :: .int x :: .ref (Q 72) :: rest)) := by
  subst hu
  exact rset (i := 64) (j := 65) hC hH rfl rfl (by decide) rfl hlk hR hls hcat hf hdg kk
theorem rf_26 {index : Nat} {x : Int32} (hC : cX p c cc nL s m args own G Z A) (hH : cH G Q D T A u s H locs) (hu : sf u 27 (fl 148 x (u.2 27)) = u1) (hlk : Cond.methodLink own index yX9_fill ∈ wK) (hR : 2 ≤ R.frames ∧ 44 ≤ R.locals) (hls : ls.size = nL) (hcat : (rest.map fun v => v.category).sum ≤ 8) (hf : cells ≤ R.cells ∧ slots ≤ R.slots) (hdg : decode cc pc = .ok (.invokevirtual index, 3)) (kk : ∀ (H : Heap) (locs : List Loc), cH G Q D T A u1 s H locs → W p l e R s m args below meth c H locs cells slots Q' (F0 m (pc + 3) ls rest)) : W p l e R s m args below meth c H locs cells slots Q' (F0 m pc ls (.int x :: .ref (Q 72) :: rest)) := by
  subst hu
  exact rfil (i := 64) (j := 65) hC hH rfl rfl (by decide) rfl hlk hR hls hcat hf hdg kk
theorem rg_27 {index : Nat} {x : Int32} (hC : cX p c cc nL s m args own G Z A) (hH : cH G Q D T A u s H locs) (hlk : Cond.methodLink own index yX9_get ∈ wK) (hR : 1 ≤ R.frames ∧ 21 ≤ R.locals) (hls : ls.size = nL) (hcat : (rest.map fun v => v.category).sum ≤ 8) (hf : cells ≤ R.cells ∧ slots ≤ R.slots) (hdg : decode cc pc = .ok (.invokevirtual index, 3)) (kk : W p l e R s m args below meth c H locs cells slots Q' (F0 m (pc + 3) ls (.int (rg (u.2 28) 148 x) :: rest))) : W p l e R s m args below meth c H locs cells slots Q' (F0 m pc ls (.int x :: .ref (Q 74) :: rest)) := rget (i := 66) (j := 67) hC hH rfl rfl (by decide) hlk hR hls hcat hf hdg kk
theorem rs_27 {index : Nat} {x y : Int32} (hC : cX p c cc nL s m args own G Z A) (hH : cH G Q D T A u s H locs) (hu : sf u 28 (rs (u.2 28) 148 x y) = u1) (hlk : Cond.methodLink own index yX9_set ∈ wK) (hR : 1 ≤ R.frames ∧ 22 ≤ R.locals) (hls : ls.size = nL) (hcat : (rest.map fun v => v.category).sum ≤ 8) (hf : cells ≤ R.cells ∧ slots ≤ R.slots) (hdg : decode cc pc = .ok (.invokevirtual index, 3)) (kk : ∀ (H : Heap) (locs : List Loc), cH G Q D T A u1 s H locs → W p l e R s m args below meth c H locs cells slots Q' (F0 m (pc + 3) ls rest)) : W p l e R s m args below meth c H locs cells slots Q' (F0 m pc ls (.int y :: .int x :: .ref (Q 74) :: rest)) := by
  subst hu
  exact rset (i := 66) (j := 67) hC hH rfl rfl (by decide) rfl hlk hR hls hcat hf hdg kk
theorem rf_27 {index : Nat} {x : Int32} (hC : cX p c cc nL s m args own G Z A) (hH : cH G Q D T A u s H locs) (hu : sf u 28 (fl 148 x (u.2 28)) = u1) (hlk : Cond.methodLink own index yX9_fill ∈ wK) (hR : 2 ≤ R.frames ∧ 44 ≤ R.locals) (hls : ls.size = nL) (hcat : (rest.map fun v => v.category).sum ≤ 8) (hf : cells ≤ R.cells ∧ slots ≤ R.slots) (hdg : decode cc pc = .ok (.invokevirtual index, 3)) (kk : ∀ (H : Heap) (locs : List Loc), cH G Q D T A u1 s H locs → W p l e R s m args below meth c H locs cells slots Q' (F0 m (pc + 3) ls rest)) : W p l e R s m args below meth c H locs cells slots Q' (F0 m pc ls (.int x :: .ref (Q 74) :: rest)) := by
  subst hu
  exact rfil (i := 66) (j := 67) hC hH rfl rfl (by decide) rfl hlk hR hls hcat hf hdg kk
theorem rg_28 {index : Nat} {x : Int32} (hC : cX p c cc nL s m args own G Z A) (hH : cH G Q D T A u s H locs) (hlk : Cond.methodLink own index yX9_get ∈ wK) (hR : 1 ≤ R.frames ∧ 21 ≤ R.locals) (hls : ls.size = nL) (hcat : (rest.map fun v => v.category).sum ≤ 8) (hf : cells ≤ R.cells ∧ slots ≤ R.slots) (hdg : decode cc pc = .ok (.invokevirtual index, 3)) (kk : W p l e R s m args below meth c H locs cells slots Q' (F0 m (pc + 3) ls (.int (rg (u.2 29) 148 x) :: rest))) : W p l e R s m args below meth c H locs cells slots Q' (F0 m pc ls (.int x :: .ref (Q 76) :: rest)) := rget (i := 68) (j := 69) hC hH rfl rfl (by decide) hlk hR hls hcat hf hdg kk
theorem rs_28 {index : Nat} {x y : Int32} (hC : cX p c cc nL s m args own G Z A) (hH : cH G Q D T A u s H locs) (hu : sf u 29 (rs (u.2 29) 148 x y) = u1) (hlk : Cond.methodLink own index yX9_set ∈ wK) (hR : 1 ≤ R.frames ∧ 22 ≤ R.locals) (hls : ls.size = nL) (hcat : (rest.map fun v => v.category).sum ≤ 8) (hf : cells ≤ R.cells ∧ slots ≤ R.slots) (hdg : decode cc pc = .ok (.invokevirtual index, 3)) (kk : ∀ (H : Heap) (locs : List Loc), cH G Q D T A u1 s H locs → W p l e R s m args below meth c H locs cells slots Q' (F0 m (pc + 3) ls rest)) : W p l e R s m args below meth c H locs cells slots Q' (F0 m pc ls (.int y :: .int x :: .ref (Q 76) :: rest)) := by
  subst hu
  exact rset (i := 68) (j := 69) hC hH rfl rfl (by decide) rfl hlk hR hls hcat hf hdg kk
theorem rf_28 {index : Nat} {x : Int32} (hC : cX p c cc nL s m args own G Z A) (hH : cH G Q D T A u s H locs) (hu : sf u 29 (fl 148 x (u.2 29)) = u1) (hlk : Cond.methodLink own index yX9_fill ∈ wK) (hR : 2 ≤ R.frames ∧ 44 ≤ R.locals) (hls : ls.size = nL) (hcat : (rest.map fun v => v.category).sum ≤ 8) (hf : cells ≤ R.cells ∧ slots ≤ R.slots) (hdg : decode cc pc = .ok (.invokevirtual index, 3)) (kk : ∀ (H : Heap) (locs : List Loc), cH G Q D T A u1 s H locs → W p l e R s m args below meth c H locs cells slots Q' (F0 m (pc + 3) ls rest)) : W p l e R s m args below meth c H locs cells slots Q' (F0 m pc ls (.int x :: .ref (Q 76) :: rest)) := by
  subst hu
  exact rfil (i := 68) (j := 69) hC hH rfl rfl (by decide) rfl hlk hR hls hcat hf hdg kk
theorem rg_pm1 {index : Nat} {x g : Int32} (hC : cX p c cc nL s m args own G Z A) (hH : cH G Q D T A u s H locs) (hlk : Cond.methodLink own index yX9_get ∈ wK) (hR : 1 ≤ R.frames ∧ 21 ≤ R.locals) (hls : ls.size = nL) (hcat : (rest.map fun v => v.category).sum ≤ 8) (hf : cells ≤ R.cells ∧ slots ≤ R.slots) (hdg : decode cc pc = .ok (.invokevirtual index, 3)) (kk : W p l e R s m args below meth c H locs cells slots Q' (F0 m (pc + 3) ls (.int (rg (sl g (u.2 26) (u.2 27)) 148 x) :: rest))) : W p l e R s m args below meth c H locs cells slots Q' (F0 m pc ls (.int x :: .ref (sl g (Q 70) (Q 72)) :: rest)) := by
  unfold sl at kk ⊢
  by_cases h0 : g = 0
  · rw [if_pos h0] at kk ⊢
    exact rg_25 hC hH hlk hR hls hcat hf hdg kk
  · rw [if_neg h0] at kk ⊢
    exact rg_26 hC hH hlk hR hls hcat hf hdg kk
theorem rs_pm1 {index : Nat} {x y g : Int32} (hC : cX p c cc nL s m args own G Z A) (hH : cH G Q D T A u s H locs) (hu : sl g (sf u 26 (rs (u.2 26) 148 x y)) (sf u 27 (rs (u.2 27) 148 x y)) = u1) (hlk : Cond.methodLink own index yX9_set ∈ wK) (hR : 1 ≤ R.frames ∧ 22 ≤ R.locals) (hls : ls.size = nL) (hcat : (rest.map fun v => v.category).sum ≤ 8) (hf : cells ≤ R.cells ∧ slots ≤ R.slots) (hdg : decode cc pc = .ok (.invokevirtual index, 3)) (kk : ∀ (H : Heap) (locs : List Loc), cH G Q D T A u1 s H locs → W p l e R s m args below meth c H locs cells slots Q' (F0 m (pc + 3) ls rest)) : W p l e R s m args below meth c H locs cells slots Q' (F0 m pc ls (.int y :: .int x :: .ref (sl g (Q 70) (Q 72)) :: rest)) := by
  unfold sl at hu ⊢
  by_cases h0 : g = 0
  · rw [if_pos h0] at hu ⊢
    exact rs_25 hC hH hu hlk hR hls hcat hf hdg kk
  · rw [if_neg h0] at hu ⊢
    exact rs_26 hC hH hu hlk hR hls hcat hf hdg kk
theorem rf_pm1 {index : Nat} {x g : Int32} (hC : cX p c cc nL s m args own G Z A) (hH : cH G Q D T A u s H locs) (hu : sl g (sf u 26 (fl 148 x (u.2 26))) (sf u 27 (fl 148 x (u.2 27))) = u1) (hlk : Cond.methodLink own index yX9_fill ∈ wK) (hR : 2 ≤ R.frames ∧ 44 ≤ R.locals) (hls : ls.size = nL) (hcat : (rest.map fun v => v.category).sum ≤ 8) (hf : cells ≤ R.cells ∧ slots ≤ R.slots) (hdg : decode cc pc = .ok (.invokevirtual index, 3)) (kk : ∀ (H : Heap) (locs : List Loc), cH G Q D T A u1 s H locs → W p l e R s m args below meth c H locs cells slots Q' (F0 m (pc + 3) ls rest)) : W p l e R s m args below meth c H locs cells slots Q' (F0 m pc ls (.int x :: .ref (sl g (Q 70) (Q 72)) :: rest)) := by
  unfold sl at hu ⊢
  by_cases h0 : g = 0
  · rw [if_pos h0] at hu ⊢
    exact rf_25 hC hH hu hlk hR hls hcat hf hdg kk
  · rw [if_neg h0] at hu ⊢
    exact rf_26 hC hH hu hlk hR hls hcat hf hdg kk
theorem rg_pb1 {index : Nat} {x g : Int32} (hC : cX p c cc nL s m args own G Z A) (hH : cH G Q D T A u s H locs) (hlk : Cond.methodLink own index yX9_get ∈ wK) (hR : 1 ≤ R.frames ∧ 21 ≤ R.locals) (hls : ls.size = nL) (hcat : (rest.map fun v => v.category).sum ≤ 8) (hf : cells ≤ R.cells ∧ slots ≤ R.slots) (hdg : decode cc pc = .ok (.invokevirtual index, 3)) (kk : W p l e R s m args below meth c H locs cells slots Q' (F0 m (pc + 3) ls (.int (rg (sl g (u.2 28) (u.2 29)) 148 x) :: rest))) : W p l e R s m args below meth c H locs cells slots Q' (F0 m pc ls (.int x :: .ref (sl g (Q 74) (Q 76)) :: rest)) := by
  unfold sl at kk ⊢
  by_cases h0 : g = 0
  · rw [if_pos h0] at kk ⊢
    exact rg_27 hC hH hlk hR hls hcat hf hdg kk
  · rw [if_neg h0] at kk ⊢
    exact rg_28 hC hH hlk hR hls hcat hf hdg kk
theorem rs_pb1 {index : Nat} {x y g : Int32} (hC : cX p c cc nL s m args own G Z A) (hH : cH G Q D T A u s H locs) (hu : sl g (sf u 28 (rs (u.2 28) 148 x y)) (sf u 29 (rs (u.2 29) 148 x y)) = u1) (hlk : Cond.methodLink own index yX9_set ∈ wK) (hR : 1 ≤ R.frames ∧ 22 ≤ R.locals) (hls : ls.size = nL) (hcat : (rest.map fun v => v.category).sum ≤ 8) (hf : cells ≤ R.cells ∧ slots ≤ R.slots) (hdg : decode cc pc = .ok (.invokevirtual index, 3)) (kk : ∀ (H : Heap) (locs : List Loc), cH G Q D T A u1 s H locs → W p l e R s m args below meth c H locs cells slots Q' (F0 m (pc + 3) ls rest)) : W p l e R s m args below meth c H locs cells slots Q' (F0 m pc ls (.int y :: .int x :: .ref (sl g (Q 74) (Q 76)) :: rest)) := by
  unfold sl at hu ⊢
  by_cases h0 : g = 0
  · rw [if_pos h0] at hu ⊢
    exact rs_27 hC hH hu hlk hR hls hcat hf hdg kk
  · rw [if_neg h0] at hu ⊢
    exact rs_28 hC hH hu hlk hR hls hcat hf hdg kk
theorem rf_pb1 {index : Nat} {x g : Int32} (hC : cX p c cc nL s m args own G Z A) (hH : cH G Q D T A u s H locs) (hu : sl g (sf u 28 (fl 148 x (u.2 28))) (sf u 29 (fl 148 x (u.2 29))) = u1) (hlk : Cond.methodLink own index yX9_fill ∈ wK) (hR : 2 ≤ R.frames ∧ 44 ≤ R.locals) (hls : ls.size = nL) (hcat : (rest.map fun v => v.category).sum ≤ 8) (hf : cells ≤ R.cells ∧ slots ≤ R.slots) (hdg : decode cc pc = .ok (.invokevirtual index, 3)) (kk : ∀ (H : Heap) (locs : List Loc), cH G Q D T A u1 s H locs → W p l e R s m args below meth c H locs cells slots Q' (F0 m (pc + 3) ls rest)) : W p l e R s m args below meth c H locs cells slots Q' (F0 m pc ls (.int x :: .ref (sl g (Q 74) (Q 76)) :: rest)) := by
  unfold sl at hu ⊢
  by_cases h0 : g = 0
  · rw [if_pos h0] at hu ⊢
    exact rf_27 hC hH hu hlk hR hls hcat hf hdg kk
  · rw [if_neg h0] at hu ⊢
    exact rf_28 hC hH hu hlk hR hls hcat hf hdg kk
end CC
end
section
/-! ===== programs over the class's state: NG makes nothing, AG may make cells (their number, and their slots, come with the answer) ===== -/
abbrev NG (β : Type) : Type := MS → Option (β × MS)
abbrev AG (β : Type) : Type := MS → Option (β × MS × Nat × Nat)
def nrt {β : Type} (x : β) : NG β := fun u => some (x, u)
def art {β : Type} (x : β) : AG β := fun u => some (x, u, 0, 0)
def nog {β : Type} (b : Bool) (p : NG β) : NG β := fun u => match b with
  | true => p u
  | false => none
def nli {β : Type} (x : Int32) (c : Int32 → NG β) : NG β := c x
def ali {β : Type} (x : Int32) (c : Int32 → AG β) : AG β := c x
def noi {β : Type} (x : Option Int32) (c : Int32 → NG β) : NG β := match x with
  | some a => c a
  | none => fun _ => none
def ncl {α β : Type} (p : NG α) (c : α → NG β) : NG β := fun u => match p u with
  | some (a, v) => c a v
  | none => none
def anl {α β : Type} (p : NG α) (c : α → AG β) : AG β := fun u => match p u with
  | some (a, v) => c a v
  | none => none
def acl {α β : Type} (p : AG α) (c : α → AG β) : AG β := fun u => match p u with
  | some (a, v, c1, d1) => (match c a v with
    | some (b, w, c2, d2) => some (b, w, c1 + c2, d1 + d2)
    | none => none)
  | none => none
def nRF (k : Nat) : NG Int32 := fun u => some (u.1 k, u)
def nWF (k : Nat) (v : Int32) : NG Unit := fun u => some ((), si u k v)
def nGT (a n : Nat) (i : Int32) : NG Int32 := fun u => some (rg (u.2 a) n i, u)
def nGD (a c : Nat) (i : Int32) : NG Int32 := fun u => some (rg (u.2 a) (u.1 c).toNatClampNeg i, u)
def nGS (x : Int32) (a b : Nat) (i : Int32) : NG Int32 := fun u => some (rg (sl x (u.2 a) (u.2 b)) 148 i, u)
def nST (a n : Nat) (i v : Int32) : NG Unit := fun u => some ((), sf u a (rs (u.2 a) n i v))
def nSD (a c : Nat) (i v : Int32) : NG Unit := fun u => some ((), sf u a (rs (u.2 a) (u.1 c).toNatClampNeg i v))
def nSS (x : Int32) (a b : Nat) (i v : Int32) : NG Unit := fun u => some ((), sl x (sf u a (rs (u.2 a) 148 i v)) (sf u b (rs (u.2 b) 148 i v)))
def nFL (a n : Nat) (v : Int32) : NG Unit := fun u => some ((), sf u a (fl n v (u.2 a)))
def nFS (x : Int32) (a b : Nat) (v : Int32) : NG Unit := fun u => some ((), sl x (sf u a (fl 148 v (u.2 a))) (sf u b (fl 148 v (u.2 b))))
theorem nog_some {β : Type} {b : Bool} {p : NG β} {u : MS} {y : β × MS} (h : nog b p u = some y) : b = true ∧ p u = some y := by
  cases b with
  | true => exact ⟨rfl, h⟩
  | false => cases h
theorem nli_some {β : Type} {x : Int32} {c : Int32 → NG β} {u : MS} {y : β × MS} (h : nli x c u = some y) : ∃ v : Int32, x = v ∧ c v u = some y := ⟨x, rfl, h⟩
theorem ali_some {β : Type} {x : Int32} {c : Int32 → AG β} {u : MS} {y : β × MS × Nat × Nat} (h : ali x c u = some y) : ∃ v : Int32, x = v ∧ c v u = some y := ⟨x, rfl, h⟩
theorem noi_some {β : Type} {x : Option Int32} {c : Int32 → NG β} {u : MS} {y : β × MS} (h : noi x c u = some y) : ∃ a : Int32, x = some a ∧ c a u = some y := by
  cases x with
  | none => cases h
  | some a => exact ⟨a, rfl, h⟩
theorem ncl_some {α β : Type} {p : NG α} {c : α → NG β} {u : MS} {y : β × MS} (h : ncl p c u = some y) : ∃ (a : α) (v : MS), p u = some (a, v) ∧ c a v = some y := by
  unfold ncl at h
  cases hp : p u with
  | none => rw [hp] at h; cases h
  | some q => rw [hp] at h; exact ⟨q.1, q.2, rfl, h⟩
theorem anl_some {α β : Type} {p : NG α} {c : α → AG β} {u : MS} {y : β × MS × Nat × Nat} (h : anl p c u = some y) : ∃ (a : α) (v : MS), p u = some (a, v) ∧ c a v = some y := by
  unfold anl at h
  cases hp : p u with
  | none => rw [hp] at h; cases h
  | some q => rw [hp] at h; exact ⟨q.1, q.2, rfl, h⟩
theorem acl_some {α β : Type} {p : AG α} {c : α → AG β} {u w : MS} {b : β} {C D : Nat} (h : acl p c u = some (b, w, C, D)) : ∃ (a : α) (v : MS) (c1 d1 c2 d2 : Nat), p u = some (a, v, c1, d1) ∧ c a v = some (b, w, c2, d2) ∧ C = c1 + c2 ∧ D = d1 + d2 := by
  unfold acl at h
  cases hp : p u with
  | none => rw [hp] at h; cases h
  | some q =>
    obtain ⟨a, v, c1, d1⟩ := q
    rw [hp] at h
    have h2 : (match c a v with | some (b, w, c2, d2) => some (b, w, c1 + c2, d1 + d2) | none => none) = some (b, w, C, D) := h
    cases hk : c a v with
    | none => rw [hk] at h2; cases h2
    | some r =>
      obtain ⟨b1, v1, c2, d2⟩ := r
      rw [hk] at h2
      obtain ⟨g1, g2, g3, g4⟩ : b1 = b ∧ v1 = w ∧ C = c1 + c2 ∧ D = d1 + d2 := by cases h2; exact ⟨rfl, rfl, rfl, rfl⟩
      rw [← g1, ← g2]
      exact ⟨a, v, c1, d1, c2, d2, rfl, hk, g3, g4⟩
theorem nRF_eq {k : Nat} {u v : MS} {x : Int32} (h : nRF k u = some (x, v)) : u.1 k = x ∧ u = v := by cases h; exact ⟨rfl, rfl⟩
theorem nWF_eq {k : Nat} {y : Int32} {u v : MS} {x : Unit} (h : nWF k y u = some (x, v)) : si u k y = v := by cases h; rfl
theorem nGT_eq {a n : Nat} {i : Int32} {u v : MS} {x : Int32} (h : nGT a n i u = some (x, v)) : rg (u.2 a) n i = x ∧ u = v := by cases h; exact ⟨rfl, rfl⟩
theorem nGD_eq {a c : Nat} {i : Int32} {u v : MS} {x : Int32} (h : nGD a c i u = some (x, v)) : rg (u.2 a) (u.1 c).toNatClampNeg i = x ∧ u = v := by cases h; exact ⟨rfl, rfl⟩
theorem nGS_eq {g : Int32} {a b : Nat} {i : Int32} {u v : MS} {x : Int32} (h : nGS g a b i u = some (x, v)) : rg (sl g (u.2 a) (u.2 b)) 148 i = x ∧ u = v := by cases h; exact ⟨rfl, rfl⟩
theorem nST_eq {a n : Nat} {i y : Int32} {u v : MS} {x : Unit} (h : nST a n i y u = some (x, v)) : sf u a (rs (u.2 a) n i y) = v := by cases h; rfl
theorem nSD_eq {a c : Nat} {i y : Int32} {u v : MS} {x : Unit} (h : nSD a c i y u = some (x, v)) : sf u a (rs (u.2 a) (u.1 c).toNatClampNeg i y) = v := by cases h; rfl
theorem nSS_eq {g : Int32} {a b : Nat} {i y : Int32} {u v : MS} {x : Unit} (h : nSS g a b i y u = some (x, v)) : sl g (sf u a (rs (u.2 a) 148 i y)) (sf u b (rs (u.2 b) 148 i y)) = v := by cases h; rfl
theorem nFL_eq {a n : Nat} {y : Int32} {u v : MS} {x : Unit} (h : nFL a n y u = some (x, v)) : sf u a (fl n y (u.2 a)) = v := by cases h; rfl
theorem nFS_eq {g : Int32} {a b : Nat} {y : Int32} {u v : MS} {x : Unit} (h : nFS g a b y u = some (x, v)) : sl g (sf u a (fl 148 y (u.2 a))) (sf u b (fl 148 y (u.2 b))) = v := by cases h; rfl
theorem nrt_eq {v r : Int32} {u u1 : MS} (h : nrt v u = some (r, u1)) : some (v, u) = some (r, u1) := h
theorem art_eq {v r : Int32} {u u1 : MS} {c d : Nat} (h : art v u = some (r, u1, c, d)) : some (v, u, 0, 0) = some (r, u1, c, d) := h

def hd6 (j : Nat) : Int32 := match hdF j with
  | .int x => x
  | _ => 0
theorem hdF_int (j : Nat) : hdF j = .int (hd6 j) := by
  unfold hd6 hdF
  match j with
  | 0 => rfl
  | 1 => rfl
  | 2 => rfl
  | 3 => rfl
  | 4 => rfl
  | j + 5 => rfl

theorem c_upd2 {A : Nat → Prop} {D : va_G} {cl : List vw_C} {ws : va_W} {H H1 : Heap} (hP : va_P D cl ws H) (hD : va_D A ws) {i j h0 a0 q : Nat} {e0 e1 e3 e2 : va_E} (hi : ws[i]? = some (h0, e0)) (hj : ws[j]? = some (a0, e1)) (hij : ¬ i = j) (hk : ∀ q : Nat, q < H.size → ¬ va_A [(h0, e0), (a0, e1)] H.size q → H1[q]? = H[q]?) (hP1 : va_P D cl [(h0, e3), (q, e2)] H1) (hD1 : va_D (va_A [(h0, e0), (a0, e1)] H.size) [(h0, e3), (q, e2)]) (hF : ∀ q, va_A [(h0, e0), (a0, e1)] H.size q → A q) :
    va_P D cl ((ws.set i (h0, e3)).set j (q, e2)) H1 ∧ va_D A ((ws.set i (h0, e3)).set j (q, e2)) := by
  have hil : i < ws.length := (List.getElem?_eq_some_iff.mp hi).1
  have hjl : j < ws.length := (List.getElem?_eq_some_iff.mp hj).1
  have gj : ((ws.set i (h0, e3)).set j (q, e2))[j]? = some (q, e2) := List.getElem?_set_self (by rw [List.length_set]; exact hjl)
  have gi_ : ((ws.set i (h0, e3)).set j (q, e2))[i]? = some (h0, e3) := by rw [List.getElem?_set_ne (fun h => hij h.symm), List.getElem?_set_self hil]
  have go : ∀ k : Nat, ¬ k = i → ¬ k = j → ((ws.set i (h0, e3)).set j (q, e2))[k]? = ws[k]? := fun k h1 h2 => by rw [List.getElem?_set_ne (fun h => h2 h.symm), List.getElem?_set_ne (fun h => h1 h.symm)]
  have hq : ∀ (k : Nat) (x : Nat × va_E), ¬ k = i → ¬ k = j → ws[k]? = some x → ¬ x.1 = q := by
    intro k x h1 h2 hx e
    have hm : va_A [(h0, e0), (a0, e1)] H.size q := hD1.2 1 (q, e2) rfl
    rcases hm with ⟨k2, y, z⟩ | z
    · match k2, z with
      | 0, z => exact h1 (hD.1 k i x (h0, e0) hx hi (e.trans (congrArg Prod.fst (Option.some.inj z)).symm))
      | 1, z => exact h2 (hD.1 k j x (a0, e1) hx hj (e.trans (congrArg Prod.fst (Option.some.inj z)).symm))
      | k2 + 2, z => cases z
    · have := (hP k x hx).lt
      omega
  have hqh : ¬ h0 = q := fun e => absurd (hD1.1 0 1 (h0, e3) (q, e2) rfl rfl e) (by decide)
  refine ⟨fun k x hx => ?_, fun a b x y hx hy hxy => ?_, fun k x hx => ?_⟩
  · by_cases h2 : k = j
    · rw [h2] at hx; rw [← Option.some.inj (gj.symm.trans hx)]; exact hP1 1 _ rfl
    · by_cases h1 : k = i
      · rw [h1] at hx; rw [← Option.some.inj (gi_.symm.trans hx)]; exact hP1 0 _ rfl
      · rw [go k h1 h2] at hx
        refine (hP k x hx).kept (hk x.1 (hP k x hx).lt (fun z => ?_))
        rcases z with ⟨k2, y, z⟩ | z
        · match k2, z with
          | 0, z => exact h1 (hD.1 k i x (h0, e0) hx hi (congrArg Prod.fst (Option.some.inj z)).symm)
          | 1, z => exact h2 (hD.1 k j x (a0, e1) hx hj (congrArg Prod.fst (Option.some.inj z)).symm)
          | k2 + 2, z => cases z
        · exact absurd (hP k x hx).lt (Nat.not_lt.mpr z)
  · have key : ∀ (k : Nat) (z : Nat × va_E), ((ws.set i (h0, e3)).set j (q, e2))[k]? = some z → (k = j ∧ z.1 = q) ∨ (¬ k = j ∧ ∃ z2 : Nat × va_E, ws[k]? = some z2 ∧ z2.1 = z.1) := by
      intro k z hz
      by_cases h2 : k = j
      · rw [h2] at hz
        exact Or.inl ⟨h2, (congrArg Prod.fst (Option.some.inj (gj.symm.trans hz))).symm⟩
      · by_cases h1 : k = i
        · rw [h1] at hz
          exact Or.inr ⟨h2, (h0, e0), by rw [h1]; exact hi, show h0 = z.1 from congrArg Prod.fst (show (h0, e3) = z from Option.some.inj (gi_.symm.trans hz))⟩
        · rw [go k h1 h2] at hz
          exact Or.inr ⟨h2, z, hz, rfl⟩
    have nq : ∀ (k : Nat) (z2 : Nat × va_E), ¬ k = j → ws[k]? = some z2 → ¬ z2.1 = q := by
      intro k z2 h2 hz
      by_cases h1 : k = i
      · rw [h1] at hz
        rw [← Option.some.inj (hi.symm.trans hz)]
        exact hqh
      · exact hq k z2 h1 h2 hz
    rcases key a x hx with ⟨ea, fa⟩ | ⟨ea, xa, ga, fa⟩ <;> rcases key b y hy with ⟨eb, fb⟩ | ⟨eb, yb, gb_, fb⟩
    · exact ea.trans eb.symm
    · exact absurd (fb.trans (hxy.symm.trans fa)) (nq b yb eb gb_)
    · exact absurd (fa.trans (hxy.trans fb)) (nq a xa ea ga)
    · exact hD.1 a b xa yb ga gb_ (fa.trans (hxy.trans fb.symm))
  · by_cases h2 : k = j
    · rw [h2] at hx; rw [← Option.some.inj (gj.symm.trans hx)]; exact hF _ (hD1.2 1 (q, e2) rfl)
    · by_cases h1 : k = i
      · rw [h1] at hx; rw [← Option.some.inj (gi_.symm.trans hx)]; exact hD.2 i (h0, e0) hi
      · rw [go k h1 h2] at hx; exact hD.2 k x hx
def x_room (c k : Nat) (x : Int32) (u : MS) : Option (Int32 × MS × Nat × Nat) := if x < nI (u.1 c).toNatClampNeg then some (0, u, 0, 0) else og (decide (max (x.toNatClampNeg + 1) (2 * (u.1 c).toNatClampNeg) ≤ 16777216)) (some (0, si (sf u k (va_cpy (u.2 k) (fun _ => 0) 0 0 (u.1 c).toNatClampNeg)) c (nI (max (x.toNatClampNeg + 1) (2 * (u.1 c).toNatClampNeg))), 1, max (x.toNatClampNeg + 1) (2 * (u.1 c).toNatClampNeg)))

def lawAt (G : gG) (T : va_W) (la : Nat) (lq : Nat → Nat) (L : MS) : Prop := ∃ j : Nat → Nat, T[j 0]? = some (la, .inr (5, [.int (L.1 0), .int (L.1 1), .int (L.1 2), .int (L.1 3), .int (L.1 4), .int (L.1 5), .ref (lq 0), .ref (lq 1), .ref (lq 2)])) ∧ T[j 1]? = some (lq 0, .inr (10, [.ref (lq 3)])) ∧ T[j 4]? = some (lq 3, .inl (gI G, 300, .inl (L.2 0))) ∧ T[j 2]? = some (lq 1, .inr (10, [.ref (lq 4)])) ∧ T[j 5]? = some (lq 4, .inl (gI G, 20, .inl (L.2 1))) ∧ T[j 3]? = some (lq 2, .inr (10, [.ref (lq 5)])) ∧ T[j 6]? = some (lq 5, .inl (gI G, 20, .inl (L.2 2)))
section CL
variable {p : Program} {l : Launch} {e : Env} {R : Room} {s : State} {m : MethodId} {args : Array Value} {below : List Frame} {meth : Method} {c : Code} {H : Heap} {locs : List Loc} {Q' : State → Prop} {cc : ByteArray} {nL pc cells slots : Nat} {ls : Array Slot} {rest st0 : List Value} {G : gG} {Z : gC} {Q : Nat → Nat} {D : Nat × Nat} {T : va_W} {A : Nat → Prop} {u u1 L : MS} {own : String} {la : Nat} {lq : Nat → Nat}
theorem cW_tail (j : Nat) : (cW G Q D T u)[j + 70]? = T[j]? := rfl
theorem lawAt.he0 (hL : lawAt G T la lq L) : (cW G Q D T u)[hL.choose 0 + 70]? = some (la, .inr (5, [.int (L.1 0), .int (L.1 1), .int (L.1 2), .int (L.1 3), .int (L.1 4), .int (L.1 5), .ref (lq 0), .ref (lq 1), .ref (lq 2)])) := (cW_tail _).trans hL.choose_spec.1
theorem lg_X11_125 (hC : cX p c cc nL s m args RX11 G Z A) (hH : cH G Q D T A u s H locs) (hL : lawAt G T la lq L) (hdg : decode cc pc = .ok (.getfield 125, 3)) (kk : W p l e R s m args below meth c H locs cells slots Q' (F0 m (pc + 3) ls (.int (L.1 3) :: rest))) : W p l e R s m args below meth c H locs cells slots Q' (F0 m pc ls (.ref la :: rest)) :=
  va_getN (D := gD G) (ci := 5) (v := .int (L.1 3)) (C := RX4) (T := TX4) (N := 9) hC.1 hC.2.1 hC.2.2.2.2.1 wKin_X4 hC.2.2.2.1 hC.2.2.2.2.2.1.1 hH.1 _ hL.he0 rfl 3 (by decide) (hC.2.2.2.2.2.1.nf 1 rfl) (fun _ h9 => h9) rfl hdg kk
theorem lg_X11_249 (hC : cX p c cc nL s m args RX11 G Z A) (hH : cH G Q D T A u s H locs) (hL : lawAt G T la lq L) (hdg : decode cc pc = .ok (.getfield 249, 3)) (kk : W p l e R s m args below meth c H locs cells slots Q' (F0 m (pc + 3) ls (.int (L.1 0) :: rest))) : W p l e R s m args below meth c H locs cells slots Q' (F0 m pc ls (.ref la :: rest)) :=
  va_getN (D := gD G) (ci := 5) (v := .int (L.1 0)) (C := RX4) (T := TX4) (N := 9) hC.1 hC.2.1 hC.2.2.2.2.1 wKin_X4 hC.2.2.2.1 hC.2.2.2.2.2.1.1 hH.1 _ hL.he0 rfl 0 (by decide) (hC.2.2.2.2.2.1.nf 4 rfl) (fun _ h9 => h9) rfl hdg kk
theorem lg_X11_263 (hC : cX p c cc nL s m args RX11 G Z A) (hH : cH G Q D T A u s H locs) (hL : lawAt G T la lq L) (hdg : decode cc pc = .ok (.getfield 263, 3)) (kk : W p l e R s m args below meth c H locs cells slots Q' (F0 m (pc + 3) ls (.int (L.1 2) :: rest))) : W p l e R s m args below meth c H locs cells slots Q' (F0 m pc ls (.ref la :: rest)) :=
  va_getN (D := gD G) (ci := 5) (v := .int (L.1 2)) (C := RX4) (T := TX4) (N := 9) hC.1 hC.2.1 hC.2.2.2.2.1 wKin_X4 hC.2.2.2.1 hC.2.2.2.2.2.1.1 hH.1 _ hL.he0 rfl 2 (by decide) (hC.2.2.2.2.2.1.nf 5 rfl) (fun _ h9 => h9) rfl hdg kk
theorem lg_X11_320 (hC : cX p c cc nL s m args RX11 G Z A) (hH : cH G Q D T A u s H locs) (hL : lawAt G T la lq L) (hdg : decode cc pc = .ok (.getfield 320, 3)) (kk : W p l e R s m args below meth c H locs cells slots Q' (F0 m (pc + 3) ls (.int (L.1 4) :: rest))) : W p l e R s m args below meth c H locs cells slots Q' (F0 m pc ls (.ref la :: rest)) :=
  va_getN (D := gD G) (ci := 5) (v := .int (L.1 4)) (C := RX4) (T := TX4) (N := 9) hC.1 hC.2.1 hC.2.2.2.2.1 wKin_X4 hC.2.2.2.1 hC.2.2.2.2.2.1.1 hH.1 _ hL.he0 rfl 4 (by decide) (hC.2.2.2.2.2.1.nf 7 rfl) (fun _ h9 => h9) rfl hdg kk
theorem lg_X3_68 (hC : cX p c cc nL s m args RX3 G Z A) (hH : cH G Q D T A u s H locs) (hL : lawAt G T la lq L) (hdg : decode cc pc = .ok (.getfield 68, 3)) (kk : W p l e R s m args below meth c H locs cells slots Q' (F0 m (pc + 3) ls (.int (L.1 1) :: rest))) : W p l e R s m args below meth c H locs cells slots Q' (F0 m pc ls (.ref la :: rest)) :=
  va_getN (D := gD G) (ci := 5) (v := .int (L.1 1)) (C := RX4) (T := TX4) (N := 9) hC.1 hC.2.1 hC.2.2.2.2.1 wKin_X4 hC.2.2.2.1 hC.2.2.2.2.2.1.1 hH.1 _ hL.he0 rfl 1 (by decide) (hC.2.2.2.2.2.1.nf 8 rfl) (fun _ h9 => h9) rfl hdg kk
theorem lg_X3_80 (hC : cX p c cc nL s m args RX3 G Z A) (hH : cH G Q D T A u s H locs) (hL : lawAt G T la lq L) (hdg : decode cc pc = .ok (.getfield 80, 3)) (kk : W p l e R s m args below meth c H locs cells slots Q' (F0 m (pc + 3) ls (.int (L.1 3) :: rest))) : W p l e R s m args below meth c H locs cells slots Q' (F0 m pc ls (.ref la :: rest)) :=
  va_getN (D := gD G) (ci := 5) (v := .int (L.1 3)) (C := RX4) (T := TX4) (N := 9) hC.1 hC.2.1 hC.2.2.2.2.1 wKin_X4 hC.2.2.2.1 hC.2.2.2.2.2.1.1 hH.1 _ hL.he0 rfl 3 (by decide) (hC.2.2.2.2.2.1.nf 9 rfl) (fun _ h9 => h9) rfl hdg kk
theorem lg_X3_87 (hC : cX p c cc nL s m args RX3 G Z A) (hH : cH G Q D T A u s H locs) (hL : lawAt G T la lq L) (hdg : decode cc pc = .ok (.getfield 87, 3)) (kk : W p l e R s m args below meth c H locs cells slots Q' (F0 m (pc + 3) ls (.ref (lq 2) :: rest))) : W p l e R s m args below meth c H locs cells slots Q' (F0 m pc ls (.ref la :: rest)) :=
  va_getN (D := gD G) (ci := 5) (v := .ref (lq 2)) (C := RX4) (T := TX4) (N := 9) hC.1 hC.2.1 hC.2.2.2.2.1 wKin_X4 hC.2.2.2.1 hC.2.2.2.2.2.1.1 hH.1 _ hL.he0 rfl 8 (by decide) (hC.2.2.2.2.2.1.nf 10 rfl) (fun _ h9 => h9) rfl hdg kk
theorem lg_X3_103 (hC : cX p c cc nL s m args RX3 G Z A) (hH : cH G Q D T A u s H locs) (hL : lawAt G T la lq L) (hdg : decode cc pc = .ok (.getfield 103, 3)) (kk : W p l e R s m args below meth c H locs cells slots Q' (F0 m (pc + 3) ls (.ref (lq 1) :: rest))) : W p l e R s m args below meth c H locs cells slots Q' (F0 m pc ls (.ref la :: rest)) :=
  va_getN (D := gD G) (ci := 5) (v := .ref (lq 1)) (C := RX4) (T := TX4) (N := 9) hC.1 hC.2.1 hC.2.2.2.2.1 wKin_X4 hC.2.2.2.1 hC.2.2.2.2.2.1.1 hH.1 _ hL.he0 rfl 7 (by decide) (hC.2.2.2.2.2.1.nf 11 rfl) (fun _ h9 => h9) rfl hdg kk
theorem lg_X4_14 (hC : cX p c cc nL s m args RX4 G Z A) (hH : cH G Q D T A u s H locs) (hL : lawAt G T la lq L) (hdg : decode cc pc = .ok (.getfield 14, 3)) (kk : W p l e R s m args below meth c H locs cells slots Q' (F0 m (pc + 3) ls (.ref (lq 0) :: rest))) : W p l e R s m args below meth c H locs cells slots Q' (F0 m pc ls (.ref la :: rest)) :=
  va_get (D := gD G) (ci := 5) (v := .ref (lq 0)) (C := RX4) (T := TX4) (N := 9) hC.1 hC.2.1 hC.2.2.2.2.1 wKin_X4 hC.2.2.2.1 hC.2.2.2.2.2.1.1 hH.1 _ hL.he0 rfl 6 (by decide) (hC.2.2.2.2.1 _ wka47) (fun _ h9 => h9) rfl hdg kk
theorem lg_X4_18 (hC : cX p c cc nL s m args RX4 G Z A) (hH : cH G Q D T A u s H locs) (hL : lawAt G T la lq L) (hdg : decode cc pc = .ok (.getfield 18, 3)) (kk : W p l e R s m args below meth c H locs cells slots Q' (F0 m (pc + 3) ls (.ref (lq 1) :: rest))) : W p l e R s m args below meth c H locs cells slots Q' (F0 m pc ls (.ref la :: rest)) :=
  va_get (D := gD G) (ci := 5) (v := .ref (lq 1)) (C := RX4) (T := TX4) (N := 9) hC.1 hC.2.1 hC.2.2.2.2.1 wKin_X4 hC.2.2.2.1 hC.2.2.2.2.2.1.1 hH.1 _ hL.he0 rfl 7 (by decide) (hC.2.2.2.2.1 _ wka48) (fun _ h9 => h9) rfl hdg kk
theorem lr_0 {index : Nat} {x : Int32} (hC : cX p c cc nL s m args own G Z A) (hH : cH G Q D T A u s H locs) (hL : lawAt G T la lq L) (hlk : Cond.methodLink own index yX9_get ∈ wK) (hR : 1 ≤ R.frames ∧ 21 ≤ R.locals) (hls : ls.size = nL) (hcat : (rest.map fun v => v.category).sum ≤ 8) (hf : cells ≤ R.cells ∧ slots ≤ R.slots) (hdg : decode cc pc = .ok (.invokevirtual index, 3)) (kk : W p l e R s m args below meth c H locs cells slots Q' (F0 m (pc + 3) ls (.int (rg (L.2 0) 300 x) :: rest))) : W p l e R s m args below meth c H locs cells slots Q' (F0 m pc ls (.int x :: .ref (lq 0) :: rest)) := by
  obtain ⟨j, hj⟩ := hL
  exact rget (i := j 1 + 70) (j := j 4 + 70) hC hH ((cW_tail _).trans hj.2.1) ((cW_tail _).trans hj.2.2.1) (by decide) hlk hR hls hcat hf hdg kk
theorem lr_1 {index : Nat} {x : Int32} (hC : cX p c cc nL s m args own G Z A) (hH : cH G Q D T A u s H locs) (hL : lawAt G T la lq L) (hlk : Cond.methodLink own index yX9_get ∈ wK) (hR : 1 ≤ R.frames ∧ 21 ≤ R.locals) (hls : ls.size = nL) (hcat : (rest.map fun v => v.category).sum ≤ 8) (hf : cells ≤ R.cells ∧ slots ≤ R.slots) (hdg : decode cc pc = .ok (.invokevirtual index, 3)) (kk : W p l e R s m args below meth c H locs cells slots Q' (F0 m (pc + 3) ls (.int (rg (L.2 1) 20 x) :: rest))) : W p l e R s m args below meth c H locs cells slots Q' (F0 m pc ls (.int x :: .ref (lq 1) :: rest)) := by
  obtain ⟨j, hj⟩ := hL
  exact rget (i := j 2 + 70) (j := j 5 + 70) hC hH ((cW_tail _).trans hj.2.2.2.1) ((cW_tail _).trans hj.2.2.2.2.1) (by decide) hlk hR hls hcat hf hdg kk
theorem lr_2 {index : Nat} {x : Int32} (hC : cX p c cc nL s m args own G Z A) (hH : cH G Q D T A u s H locs) (hL : lawAt G T la lq L) (hlk : Cond.methodLink own index yX9_get ∈ wK) (hR : 1 ≤ R.frames ∧ 21 ≤ R.locals) (hls : ls.size = nL) (hcat : (rest.map fun v => v.category).sum ≤ 8) (hf : cells ≤ R.cells ∧ slots ≤ R.slots) (hdg : decode cc pc = .ok (.invokevirtual index, 3)) (kk : W p l e R s m args below meth c H locs cells slots Q' (F0 m (pc + 3) ls (.int (rg (L.2 2) 20 x) :: rest))) : W p l e R s m args below meth c H locs cells slots Q' (F0 m pc ls (.int x :: .ref (lq 2) :: rest)) := by
  obtain ⟨j, hj⟩ := hL
  exact rget (i := j 3 + 70) (j := j 6 + 70) hC hH ((cW_tail _).trans hj.2.2.2.2.2.1) ((cW_tail _).trans hj.2.2.2.2.2.2) (by decide) hlk hR hls hcat hf hdg kk
theorem mroom_0 {x r : Int32} {c1 d1 index : Nat} (hC : cX p c cc nL s m args own G Z A) (hH : cH G Q D T A u s H locs) (hF : x_room 60 1 x u = some (r, u1, c1, d1)) (hlk : Cond.methodLink own index yX9_makeRoomFor ∈ wK) (hR : 3 ≤ R.frames ∧ 85 ≤ R.locals) (hls : ls.size = nL) (hcat : (rest.map fun v => v.category).sum ≤ 8) (hf : cells + c1 ≤ R.cells ∧ slots + d1 ≤ R.slots) (hdg : decode cc pc = .ok (.invokevirtual index, 3)) (kk : ∀ (D : Nat × Nat) (H : Heap) (locs : List Loc), cH G Q D T A u1 s H locs → W p l e R s m args below meth c H locs (cells + c1) (slots + d1) Q' (F0 m (pc + 3) ls rest)) : W p l e R s m args below meth c H locs cells slots Q' (F0 m pc ls (.int x :: .ref (Q 20) :: rest)) := by
  have hle := cH.sub hC hH
  obtain ⟨hx, hb, hml, hown, hts, hB, hE, hA⟩ := hC
  have hi : (cW G Q D T u)[12]? = some (Q 20, .inr (10, [.ref D.1])) := rfl
  have hj : (cW G Q D T u)[13]? = some (D.1, .inl (gI G, (u.1 60).toNatClampNeg, .inl (u.2 1))) := rfl
  have hP2 : va_P (gD G) vwCl [(Q 20, .inr (10, [.ref D.1])), (D.1, .inl (gI G, (u.1 60).toNatClampNeg, .inl (u.2 1)))] H := fun k q hk => match k, hk with | 0, hk => by cases Option.some.inj hk; exact hH.1 12 _ hi | 1, hk => by cases Option.some.inj hk; exact hH.1 13 _ hj
  have hD2 : va_D (va_A (cW G Q D T u) H.size) [(Q 20, .inr (10, [.ref D.1])), (D.1, .inl (gI G, (u.1 60).toNatClampNeg, .inl (u.2 1)))] := c_two hH.2.1 hi hj (by decide) _
  have hFF : ∀ q, va_A [(Q 20, .inr (10, [.ref D.1])), (D.1, .inl (gI G, (u.1 60).toNatClampNeg, .inl (u.2 1)))] H.size q → A q := fun q hq => by
    rcases hq with ⟨k, e, h⟩ | h
    · exact hle q (hD2.2 k (q, e) h)
    · exact hle q (Or.inr h)
  unfold x_room at hF
  by_cases hxn : x < nI (u.1 60).toNatClampNeg
  · rw [if_pos hxn] at hF
    obtain ⟨f1, f2, f3⟩ : u = u1 ∧ 0 = c1 ∧ 0 = d1 := by cases hF; exact ⟨rfl, rfl, rfl⟩
    subst f1
    subst f2
    subst f3
    exact va_csv (va_Run.run (va_runV (As := [.int x]) (rest := rest) ⟨hx, hb, hml, hown, hts⟩ (c_Row_roomx l G _ _ _ _ x (gl_top _) hxn) (cwV 1 hts (gdV hlk wka738 wka739 wka753 gl_c_Row_roomx) rfl rfl rfl kVX9_makeRoomFor ⟨Nat.le_trans (by decide) hR.1, Nat.le_trans (by decide) hR.2⟩) (preV_p (As := [.int x]) hP2 hB rfl rfl) rfl rfl hls rfl (lv_room hcat) hdg hf)) (fun _ => kk D H locs hH)
  · rw [if_neg hxn] at hF
    obtain ⟨hg, hF⟩ := og_some hF
    have hg := of_decide_eq_true hg
    have hnb := gl_top (u.1 60)
    have hx0 : ¬ x < 0 := fun z => hxn (by
      have h1 := Int32.not_lt.mp (nI_pos (n := (u.1 60).toNatClampNeg) hnb)
      rw [Int32.lt_iff_toInt_lt] at z ⊢
      rw [Int32.le_iff_toInt_le] at h1
      omega)
    obtain ⟨j, hj2, rfl⟩ := nI_of hx0
    rw [nI_clamp hj2] at hg hF
    generalize hke : max (j + 1) (2 * (u.1 60).toNatClampNeg) = k at hg hF
    obtain ⟨f1, f2, f3⟩ : u1 = si (sf u 1 (va_cpy (u.2 1) (fun _ => 0) 0 0 (u.1 60).toNatClampNeg)) 60 (nI k) ∧ 1 = c1 ∧ k = d1 := by cases hF; exact ⟨rfl, rfl, rfl⟩
    subst f1
    subst f2
    subst f3
    have hnj : (u.1 60).toNatClampNeg ≤ j := Nat.not_lt.mp (fun z => hxn (nI_lt z hnb))
    refine va_callv (va_runV (As := [.int (nI j)]) (rest := rest) ⟨hx, hb, hml, hown, hts⟩ (c_Row_grow l G (Q 20) D.1 _ (u.2 1) j k H.size hnj hke hg) (cwV 1 hts (gdV hlk wka738 wka739 wka753 gl_c_Row_grow) rfl rfl rfl kVX9_makeRoomFor ⟨hR.1, hR.2⟩) (preV_m (As := [.int (nI j)]) hP2 hB hD2 rfl rfl) rfl rfl hls rfl (lv_room hcat) hdg hf) hH.2.2 (fun q _ h => hFF q h) hFF (fun u2 t H1 locs1 ht hvm hw hB1 hz1 hk1 hS => ?_)
    obtain ⟨q, hP1, hD1⟩ := hB1
    rw [ht] at hP1
    obtain ⟨g1, g2⟩ := c_upd2 hH.1 hH.2.1 hi hj (by decide) hk1 hP1 hD1 hFF
    have hkc : (nI k).toNatClampNeg = k := nI_clamp (by omega)
    have hcw : (((cW G Q D T u).set 12 (Q 20, .inr (10, [.ref q]))).set 13 (q, .inl (gI G, k, .inl (va_cpy (u.2 1) (fun _ => 0) 0 0 (u.1 60).toNatClampNeg)))) = cW G Q (q, D.2) T (si (sf u 1 (va_cpy (u.2 1) (fun _ => 0) 0 0 (u.1 60).toNatClampNeg)) 60 (nI k)) := by
      rw [show cW G Q (q, D.2) T (si (sf u 1 (va_cpy (u.2 1) (fun _ => 0) 0 0 (u.1 60).toNatClampNeg)) 60 (nI k)) = (((cW G Q D T u).set 12 (Q 20, .inr (10, [.ref q]))).set 13 (q, .inl (gI G, (nI k).toNatClampNeg, .inl (va_cpy (u.2 1) (fun _ => 0) 0 0 (u.1 60).toNatClampNeg)))) from rfl, hkc]
    rw [hcw] at g1 g2
    exact kk _ H1 locs1 ⟨g1, g2, hS⟩

theorem mroom_1 {x r : Int32} {c1 d1 index : Nat} (hC : cX p c cc nL s m args own G Z A) (hH : cH G Q D T A u s H locs) (hF : x_room 65 2 x u = some (r, u1, c1, d1)) (hlk : Cond.methodLink own index yX9_makeRoomFor ∈ wK) (hR : 3 ≤ R.frames ∧ 85 ≤ R.locals) (hls : ls.size = nL) (hcat : (rest.map fun v => v.category).sum ≤ 8) (hf : cells + c1 ≤ R.cells ∧ slots + d1 ≤ R.slots) (hdg : decode cc pc = .ok (.invokevirtual index, 3)) (kk : ∀ (D : Nat × Nat) (H : Heap) (locs : List Loc), cH G Q D T A u1 s H locs → W p l e R s m args below meth c H locs (cells + c1) (slots + d1) Q' (F0 m (pc + 3) ls rest)) : W p l e R s m args below meth c H locs cells slots Q' (F0 m pc ls (.int x :: .ref (Q 22) :: rest)) := by
  have hle := cH.sub hC hH
  obtain ⟨hx, hb, hml, hown, hts, hB, hE, hA⟩ := hC
  have hi : (cW G Q D T u)[14]? = some (Q 22, .inr (10, [.ref D.2])) := rfl
  have hj : (cW G Q D T u)[15]? = some (D.2, .inl (gI G, (u.1 65).toNatClampNeg, .inl (u.2 2))) := rfl
  have hP2 : va_P (gD G) vwCl [(Q 22, .inr (10, [.ref D.2])), (D.2, .inl (gI G, (u.1 65).toNatClampNeg, .inl (u.2 2)))] H := fun k q hk => match k, hk with | 0, hk => by cases Option.some.inj hk; exact hH.1 14 _ hi | 1, hk => by cases Option.some.inj hk; exact hH.1 15 _ hj
  have hD2 : va_D (va_A (cW G Q D T u) H.size) [(Q 22, .inr (10, [.ref D.2])), (D.2, .inl (gI G, (u.1 65).toNatClampNeg, .inl (u.2 2)))] := c_two hH.2.1 hi hj (by decide) _
  have hFF : ∀ q, va_A [(Q 22, .inr (10, [.ref D.2])), (D.2, .inl (gI G, (u.1 65).toNatClampNeg, .inl (u.2 2)))] H.size q → A q := fun q hq => by
    rcases hq with ⟨k, e, h⟩ | h
    · exact hle q (hD2.2 k (q, e) h)
    · exact hle q (Or.inr h)
  unfold x_room at hF
  by_cases hxn : x < nI (u.1 65).toNatClampNeg
  · rw [if_pos hxn] at hF
    obtain ⟨f1, f2, f3⟩ : u = u1 ∧ 0 = c1 ∧ 0 = d1 := by cases hF; exact ⟨rfl, rfl, rfl⟩
    subst f1
    subst f2
    subst f3
    exact va_csv (va_Run.run (va_runV (As := [.int x]) (rest := rest) ⟨hx, hb, hml, hown, hts⟩ (c_Row_roomx l G _ _ _ _ x (gl_top _) hxn) (cwV 1 hts (gdV hlk wka738 wka739 wka753 gl_c_Row_roomx) rfl rfl rfl kVX9_makeRoomFor ⟨Nat.le_trans (by decide) hR.1, Nat.le_trans (by decide) hR.2⟩) (preV_p (As := [.int x]) hP2 hB rfl rfl) rfl rfl hls rfl (lv_room hcat) hdg hf)) (fun _ => kk D H locs hH)
  · rw [if_neg hxn] at hF
    obtain ⟨hg, hF⟩ := og_some hF
    have hg := of_decide_eq_true hg
    have hnb := gl_top (u.1 65)
    have hx0 : ¬ x < 0 := fun z => hxn (by
      have h1 := Int32.not_lt.mp (nI_pos (n := (u.1 65).toNatClampNeg) hnb)
      rw [Int32.lt_iff_toInt_lt] at z ⊢
      rw [Int32.le_iff_toInt_le] at h1
      omega)
    obtain ⟨j, hj2, rfl⟩ := nI_of hx0
    rw [nI_clamp hj2] at hg hF
    generalize hke : max (j + 1) (2 * (u.1 65).toNatClampNeg) = k at hg hF
    obtain ⟨f1, f2, f3⟩ : u1 = si (sf u 2 (va_cpy (u.2 2) (fun _ => 0) 0 0 (u.1 65).toNatClampNeg)) 65 (nI k) ∧ 1 = c1 ∧ k = d1 := by cases hF; exact ⟨rfl, rfl, rfl⟩
    subst f1
    subst f2
    subst f3
    have hnj : (u.1 65).toNatClampNeg ≤ j := Nat.not_lt.mp (fun z => hxn (nI_lt z hnb))
    refine va_callv (va_runV (As := [.int (nI j)]) (rest := rest) ⟨hx, hb, hml, hown, hts⟩ (c_Row_grow l G (Q 22) D.2 _ (u.2 2) j k H.size hnj hke hg) (cwV 1 hts (gdV hlk wka738 wka739 wka753 gl_c_Row_grow) rfl rfl rfl kVX9_makeRoomFor ⟨hR.1, hR.2⟩) (preV_m (As := [.int (nI j)]) hP2 hB hD2 rfl rfl) rfl rfl hls rfl (lv_room hcat) hdg hf) hH.2.2 (fun q _ h => hFF q h) hFF (fun u2 t H1 locs1 ht hvm hw hB1 hz1 hk1 hS => ?_)
    obtain ⟨q, hP1, hD1⟩ := hB1
    rw [ht] at hP1
    obtain ⟨g1, g2⟩ := c_upd2 hH.1 hH.2.1 hi hj (by decide) hk1 hP1 hD1 hFF
    have hkc : (nI k).toNatClampNeg = k := nI_clamp (by omega)
    have hcw : (((cW G Q D T u).set 14 (Q 22, .inr (10, [.ref q]))).set 15 (q, .inl (gI G, k, .inl (va_cpy (u.2 2) (fun _ => 0) 0 0 (u.1 65).toNatClampNeg)))) = cW G Q (D.1, q) T (si (sf u 2 (va_cpy (u.2 2) (fun _ => 0) 0 0 (u.1 65).toNatClampNeg)) 65 (nI k)) := by
      rw [show cW G Q (D.1, q) T (si (sf u 2 (va_cpy (u.2 2) (fun _ => 0) 0 0 (u.1 65).toNatClampNeg)) 65 (nI k)) = (((cW G Q D T u).set 14 (Q 22, .inr (10, [.ref q]))).set 15 (q, .inl (gI G, (nI k).toNatClampNeg, .inl (va_cpy (u.2 2) (fun _ => 0) 0 0 (u.1 65).toNatClampNeg)))) from rfl, hkc]
    rw [hcw] at g1 g2
    exact kk _ H1 locs1 ⟨g1, g2, hS⟩

theorem ccV_iB {y : MethodName} {bytes : ByteArray} {maxL n index fr lo : Nat} {ret : Option FieldType} {As : List Value} {r : Int32} {q0 ci : Nat} {fs : List Value} {C : vw_C} {b : Nat} (hC : cX p c cc nL s m args own G Z A) (hH : cH G Q D T A u s H locs) (hM : Met l y (Cond.code y bytes maxL ret :: wK) { frames := fr, cells := 0, slots := 0, locals := lo } (va_Pc (.ref b :: As) (cPM G Z Q D T u H.size)) (cQi G Q T u1 r (va_A (cW G Q D T u) H.size)) 0 0 (va_A (cW G Q D T u) H.size)) (he : (cW G Q D T u)[q0]? = some (b, .inr (ci, fs))) (hc : vwCl[ci]? = some C) (kw : kcV own C.1 y bytes maxL ret index) (hd : y.cls = C.1 ∧ y.cls ≠ "java/lang/invoke/MethodHandle" ∧ y.cls ≠ "java/lang/invoke/VarHandle" ∧ (parseMethodDescriptor y.desc).map (fun d => d.parameters.length) = some n) (hR : fr + 1 ≤ R.frames ∧ 8 + (maxL + 11) + lo ≤ R.locals) (hf : cells ≤ R.cells ∧ slots ≤ R.slots) (hn : As.length = n) (hls : ls.size = nL) (hst : st0 = As.reverse ++ .ref b :: rest) (hcat : (rest.map fun v => v.category).sum ≤ 8) (hdg : decode cc pc = .ok (.invokevirtual index, 3)) (kk : ∀ (D : Nat × Nat) (H : Heap) (locs : List Loc), cH G Q D T A u1 s H locs → W p l e R s m args below meth c H locs cells slots Q' (F0 m (pc + 3) ls (.int r :: rest))) : W p l e R s m args below meth c H locs cells slots Q' (F0 m pc ls st0) := ccV_iA (mc := 0) (ms := 0) hC hH hM he hc kw hd hR hf hn hls hst hcat hdg kk
theorem ccV_vB {y : MethodName} {bytes : ByteArray} {maxL n index fr lo : Nat} {ret : Option FieldType} {As : List Value} {q0 ci : Nat} {fs : List Value} {C : vw_C} {b : Nat} (hC : cX p c cc nL s m args own G Z A) (hH : cH G Q D T A u s H locs) (hM : Met l y (Cond.code y bytes maxL ret :: wK) { frames := fr, cells := 0, slots := 0, locals := lo } (va_Pc (.ref b :: As) (cPM G Z Q D T u H.size)) (cQv G Q T u1 (va_A (cW G Q D T u) H.size)) 0 0 (va_A (cW G Q D T u) H.size)) (he : (cW G Q D T u)[q0]? = some (b, .inr (ci, fs))) (hc : vwCl[ci]? = some C) (kw : kcV own C.1 y bytes maxL ret index) (hd : y.cls = C.1 ∧ y.cls ≠ "java/lang/invoke/MethodHandle" ∧ y.cls ≠ "java/lang/invoke/VarHandle" ∧ (parseMethodDescriptor y.desc).map (fun d => d.parameters.length) = some n) (hR : fr + 1 ≤ R.frames ∧ 8 + (maxL + 11) + lo ≤ R.locals) (hf : cells ≤ R.cells ∧ slots ≤ R.slots) (hn : As.length = n) (hls : ls.size = nL) (hst : st0 = As.reverse ++ .ref b :: rest) (hcat : (rest.map fun v => v.category).sum ≤ 8) (hdg : decode cc pc = .ok (.invokevirtual index, 3)) (kk : ∀ (D : Nat × Nat) (H : Heap) (locs : List Loc), cH G Q D T A u1 s H locs → W p l e R s m args below meth c H locs cells slots Q' (F0 m (pc + 3) ls (rest))) : W p l e R s m args below meth c H locs cells slots Q' (F0 m pc ls st0) := ccV_vA (mc := 0) (ms := 0) hC hH hM he hc kw hd hR hf hn hls hst hcat hdg kk
theorem ccS_iB {y : MethodName} {bytes : ByteArray} {maxL n index fr lo : Nat} {ret : Option FieldType} {As : List Value} {r : Int32} (hC : cX p c cc nL s m args own G Z A) (hH : cH G Q D T A u s H locs) (hM : Met l y (Cond.code y bytes maxL ret :: wK) { frames := fr, cells := 0, slots := 0, locals := lo } (va_Pc (As) (cPM G Z Q D T u H.size)) (cQi G Q T u1 r (va_A (cW G Q D T u) H.size)) 0 0 (va_A (cW G Q D T u) H.size)) (kw : kcS own y bytes maxL ret index) (hd : y.cls ≠ "java/lang/invoke/MethodHandle" ∧ y.cls ≠ "java/lang/invoke/VarHandle" ∧ (parseMethodDescriptor y.desc).map (fun d => d.parameters.length) = some n) (hR : fr + 1 ≤ R.frames ∧ 8 + (maxL + 11) + lo ≤ R.locals) (hf : cells ≤ R.cells ∧ slots ≤ R.slots) (hn : As.length = n) (hls : ls.size = nL) (hst : st0 = As.reverse ++ rest) (hcat : (rest.map fun v => v.category).sum ≤ 8) (hdg : decode cc pc = .ok (.invokestatic index, 3)) (kk : ∀ (D : Nat × Nat) (H : Heap) (locs : List Loc), cH G Q D T A u1 s H locs → W p l e R s m args below meth c H locs cells slots Q' (F0 m (pc + 3) ls (.int r :: rest))) : W p l e R s m args below meth c H locs cells slots Q' (F0 m pc ls st0) := ccS_iA (mc := 0) (ms := 0) hC hH hM kw hd hR hf hn hls hst hcat hdg kk
theorem ccJ {y : MethodName} {bytes : ByteArray} {maxL n index fr lo k : Nat} {ret : Option FieldType} {As : List Value} {r : Int32} (hC : cX p c cc nL s m args own G Z A) (hH : cH G Q D T A u s H locs) (hs : k < 38) (hM : Met l y (Cond.code y bytes maxL ret :: wJ) { frames := fr, cells := 0, slots := 0, locals := lo } (va_Pc (.ref (Z.1.1 k) :: As) (sP Z.1 A)) (vp_Si (fun x : Int32 => x = r)) 0 0 (fun _ => False)) (kw : Cond.code y bytes maxL ret ∈ wJ ∧ Cond.methodLink own index y ∈ wK ∧ Cond.instanceMethod y ∈ wJ ∧ Cond.selects "java/lang/String" y y ∈ wJ ∧ Cond.initialized "java/lang/String" ∈ wJ)
    (hd : y.cls = "java/lang/String" ∧ y.cls ≠ "java/lang/invoke/MethodHandle" ∧ y.cls ≠ "java/lang/invoke/VarHandle" ∧ (parseMethodDescriptor y.desc).map (fun d => d.parameters.length) = some n) (hR : fr + 1 ≤ R.frames ∧ 8 + (maxL + 11) + lo ≤ R.locals) (hn : As.length = n) (hls : ls.size = nL) (hst : st0 = As.reverse ++ .ref (Z.1.1 k) :: rest) (hcat : (rest.map fun v => v.category).sum ≤ 8) (hdg : decode cc pc = .ok (.invokevirtual index, 3)) (kk : W p l e R s m args below meth c H locs 0 0 Q' (F0 m (pc + 3) ls (.int r :: rest))) : W p l e R s m args below meth c H locs 0 0 Q' (F0 m pc ls st0) := by
  obtain ⟨hx, hb, hml, hown, hts, hB, hE, hA⟩ := hC
  refine vp_callSi (va_Run.run (jcallV (rest := rest) ⟨hx, hb, hml, hown, hts⟩ hE.1 hH.2.2 hs hM (gdV kw.2.1 (wJK _ kw.2.2.1) (wJK _ kw.2.2.2.1) (wJK _ kw.2.2.2.2) (fun w hw => ⟨wJK _ (jgood kw.1 w hw).1, (jgood kw.1 w hw).2⟩)) hd hR hn hls hst hcat hdg ⟨Nat.zero_le _, Nat.zero_le _⟩)) (fun x hx9 => ?_)
  subst hx9
  exact kk
theorem ccSN {fr lo : Nat} {As : List Value} {r : Int32} (hC : cX p c cc nL s m args RX0 G Z A) (hH : cH G Q D T A u s H locs) (hM : Met l yX11_isClass (Cond.code yX11_isClass cX11_isClass 1 (some .boolean) :: wK) { frames := fr, cells := 0, slots := 0, locals := lo } (va_Pc As (cPM G Z Q D T u H.size)) (cQi G Q T u1 r (va_A (cW G Q D T u) H.size)) 0 0 (va_A (cW G Q D T u) H.size)) (hR : decide (fr + 1 ≤ R.frames ∧ 8 + (1 + 11) + lo ≤ R.locals) = true) (hn : As.length = 1) (hls : ls.size = nL) (hst : st0 = As.reverse ++ rest) (hcat : (rest.map fun v => v.category).sum ≤ 8) (hdg : decode cc pc = .ok (.invokestatic 55, 3)) (kk : ∀ (D : Nat × Nat) (H : Heap) (locs : List Loc), cH G Q D T A u1 s H locs → W p l e R s m args below meth c H locs 0 0 Q' (F0 m (pc + 3) ls (.int r :: rest))) : W p l e R s m args below meth c H locs 0 0 Q' (F0 m pc ls st0) := by
  have hle := cH.sub hC hH
  obtain ⟨hx, hb, hml, hown, hts, hB, hE, hA⟩ := hC
  refine va_calli (va_runSN (As := As) (rest := rest) ⟨hx, hb, hml, hown, hts⟩ hM ⟨va_cnB 1 hts (cgood wkc_X11_isClass) rfl rfl rfl (hB.nmt 0 rfl) (hts _ wka755) kSX11_isClass (of_decide_eq_true hR), hts _ wka728, trivial⟩ ⟨cPM.blind, fun U hU hW => ⟨rfl, cH.pre ⟨hx, hb, hml, hown, hts, hB, hE, hA⟩ hH U hU hW⟩⟩ rfl hn hls hst (lv_room hcat) hdg ⟨Nat.zero_le _, Nat.zero_le _⟩) hH.2.2 (fun q _ h => hle q h) hle (fun r2 u2 t H1 locs1 ht hvm hw hB1 hz1 hk1 hS => ?_)
  obtain ⟨D1, b1, b2⟩ := hB1
  rw [ht] at b1
  subst hw
  exact kk D1 H1 locs1 ⟨b1, b2.weaken (fun _ _ _ h => hle _ h), hS⟩
end CL
end
