section
/-! ===== the reference's world: one state u (int fields u.1 k, arrays u.2 k), its cells mW G Q u ===== -/
def si (u : MS) (k : Nat) (v : Int32) : MS := (fun j => if j = k then v else u.1 j, u.2)
def wa (u : MS) (k : Nat) (i v : Int32) : MS := (u.1, fun a => if a = k then upd (u.2 k) i.toNatClampNeg v else u.2 a)
def ra (u : MS) (k : Nat) (i : Int32) : Int32 := u.2 k i.toNatClampNeg
def rz (u : MS) (i : Int32) : Int32 := if u.1 41 = 0 then ra u 40 i else ra u 56 i
def mF (Q : Nat → Nat) (u : MS) : List Value := [.ref (Q 0), .ref (Q 1), .int (u.1 2), .int (u.1 3), .int (u.1 4), .ref (Q 5), .ref (Q 6), .ref (Q 7), .ref (Q 8), .ref (Q 9), .ref (Q 10), .ref (Q 11), .ref (Q 12), .ref (Q 13), .ref (Q 14), .ref (Q 15), .ref (Q 16), .ref (Q 17), .ref (Q 18), .ref (Q 19), .ref (Q 20), .ref (Q 21), .ref (Q 22), .ref (Q 23), .ref (Q 24), .ref (Q 25), .ref (Q 26), .int (u.1 27), .int (u.1 28), .int (u.1 29), .int (u.1 30), .int (u.1 31), .ref (Q 32), .ref (Q 33), .ref (Q 34), .ref (Q 35), .ref (Q 36), .ref (Q 37), .ref (Q 38), .ref (Q 39), .ref (Q 40), .ref (if u.1 41 = 0 then Q 40 else Q 56), .int (u.1 42), .int (u.1 43), .int (u.1 44), .int (u.1 45), .int (u.1 46), .int (u.1 47), .int (u.1 48), .int (u.1 49), .int (u.1 50), .int (u.1 51), .ref (Q 52), .int (u.1 53), .ref (Q 54), .int (u.1 55), .ref (Q 56), .ref (Q 57), .ref (Q 58), .ref (Q 59), .ref (Q 60), .ref (Q 61), .ref (Q 62), .ref (Q 63), .ref (Q 64), .ref (Q 65), .ref (Q 66), .ref (Q 67), .ref (Q 68), .int (u.1 69), .ref (Q 70), .ref (Q 71)]
def mW (G : gG) (Q : Nat → Nat) (u : MS) : va_W := [(Q 72, .inr (14, mF Q u)), (Q 0, .inl (gI G, 4, .inl (u.2 0))), (Q 1, .inl (gI G, 4, .inl (u.2 1))), (Q 5, .inl (gI G, 96, .inl (u.2 5))), (Q 6, .inl (gI G, 96, .inl (u.2 6))), (Q 7, .inl (gI G, 96, .inl (u.2 7))), (Q 8, .inl (gI G, 96, .inl (u.2 8))), (Q 9, .inl (gI G, 96, .inl (u.2 9))), (Q 10, .inl (gI G, 96, .inl (u.2 10))), (Q 11, .inl (gI G, 96, .inl (u.2 11))), (Q 12, .inl (gI G, 4, .inl (u.2 12))), (Q 13, .inl (gI G, 4, .inl (u.2 13))), (Q 14, .inl (gI G, 128, .inl (u.2 14))), (Q 15, .inl (gI G, 160, .inl (u.2 15))), (Q 16, .inl (gI G, 160, .inl (u.2 16))), (Q 17, .inl (gI G, 160, .inl (u.2 17))), (Q 18, .inl (gI G, 160, .inl (u.2 18))), (Q 19, .inl (gI G, 160, .inl (u.2 19))), (Q 20, .inl (gI G, 160, .inl (u.2 20))), (Q 21, .inl (gI G, 160, .inl (u.2 21))), (Q 22, .inl (gI G, 4, .inl (u.2 22))), (Q 23, .inl (gI G, 4, .inl (u.2 23))), (Q 24, .inl (gI G, 64, .inl (u.2 24))), (Q 25, .inl (gZ G, 4, .inl (u.2 25))), (Q 26, .inl (gZ G, 4, .inl (u.2 26))), (Q 32, .inl (gB G, 80, .inl (u.2 32))), (Q 33, .inl (gI G, 8, .inl (u.2 33))), (Q 34, .inl (gI G, 21, .inl (u.2 34))), (Q 35, .inl (gI G, 20, .inl (u.2 35))), (Q 36, .inl (gI G, 300, .inl (u.2 36))), (Q 37, .inl (gI G, 300, .inl (u.2 37))), (Q 38, .inl (gI G, 301, .inl (u.2 38))), (Q 40, .inl (gB G, 3000, .inl (u.2 40))), (Q 52, .inl (gI G, 2000, .inl (u.2 52))), (Q 54, .inl (gB G, 24000, .inl (u.2 54))), (Q 56, .inl (gB G, 3000, .inl (u.2 56))), (Q 57, .inl (gI G, 32, .inl (u.2 57))), (Q 58, .inl (gI G, 32, .inl (u.2 58))), (Q 59, .inl (gI G, 16, .inl (u.2 59))), (Q 60, .inl (gZ G, 32, .inl (u.2 60))), (Q 61, .inl (gI G, 160, .inl (u.2 61))), (Q 62, .inl (gI G, 160, .inl (u.2 62))), (Q 63, .inl (gI G, 160, .inl (u.2 63))), (Q 64, .inl (gI G, 160, .inl (u.2 64))), (Q 65, .inl (gI G, 160, .inl (u.2 65))), (Q 66, .inl (gI G, 160, .inl (u.2 66))), (Q 67, .inl (gI G, 160, .inl (u.2 67))), (Q 68, .inl (gI G, 160, .inl (u.2 68))), (Q 70, .inl (gI G, 96, .inl (u.2 70))), (Q 71, .inl (gI G, 4, .inl (u.2 71))), (Q 39, .inr (13, [.null, .null, .null, .null, .null, .int 0]))]
def mA (Q : Nat → Nat) (sz : Nat) : Nat → Prop := fun q => (∃ k, k < 73 ∧ ¬ k = 41 ∧ q = Q k) ∨ sz ≤ q
theorem mA.le {Q : Nat → Nat} {a b : Nat} (h : a ≤ b) : ∀ q, mA Q b q → mA Q a q := fun q hq => hq.elim Or.inl (fun z => Or.inr (Nat.le_trans h z))
def wMa : List Cond := [.methodLink RX13 1 objectInit, .classLink RX13 105 RX12, .methodLink RX13 107 yX12_init, .methodLink RX13 173 yX13_anew, .constant RX13 185 (200000), .fieldLink RX13 9 "JudoHallModel" "low" "[I", .fieldLink RX13 13 "JudoHallModel" "high" "[I", .fieldLink RX13 176 "JudoHallModel" "fighters" "I", .fieldLink RX13 179 "JudoHallModel" "minute" "I", .fieldLink RX13 182 "JudoHallModel" "restMinutes" "I", .fieldLink RX13 16 "JudoHallModel" "classOf" "[I", .fieldLink RX13 19 "JudoHallModel" "club" "[I", .fieldLink RX13 22 "JudoHallModel" "grams" "[I", .fieldLink RX13 25 "JudoHallModel" "scale" "[I", .fieldLink RX13 28 "JudoHallModel" "seedOf" "[I", .fieldLink RX13 31 "JudoHallModel" "placeOf" "[I", .fieldLink RX13 34 "JudoHallModel" "lastEnd" "[I", .fieldLink RX13 37 "JudoHallModel" "drawn" "[I", .fieldLink RX13 40 "JudoHallModel" "places" "[I", .fieldLink RX13 43 "JudoHallModel" "who" "[I", .fieldLink RX13 46 "JudoHallModel" "result" "[I", .fieldLink RX13 49 "JudoHallModel" "white" "[I", .fieldLink RX13 52 "JudoHallModel" "blue" "[I", .fieldLink RX13 55 "JudoHallModel" "winner" "[I", .fieldLink RX13 58 "JudoHallModel" "endLine" "[I", .fieldLink RX13 61 "JudoHallModel" "points" "[I", .fieldLink RX13 64 "JudoHallModel" "endMinute" "[I", .fieldLink RX13 67 "JudoHallModel" "on" "[I", .fieldLink RX13 70 "JudoHallModel" "left" "[I", .fieldLink RX13 73 "JudoHallModel" "has" "[I", .fieldLink RX13 76 "JudoHallModel" "isExtra" "[Z", .fieldLink RX13 80 "JudoHallModel" "waits" "[Z", .fieldLink RX13 195 "JudoHallModel" "time" "I", .fieldLink RX13 198 "JudoHallModel" "golden" "I", .fieldLink RX13 186 "JudoHallModel" "signs" "I", .fieldLink RX13 189 "JudoHallModel" "lines" "I", .fieldLink RX13 192 "JudoHallModel" "parts" "I", .fieldLink RX13 83 "JudoHallModel" "signName" "[B", .fieldLink RX13 87 "JudoHallModel" "signSize" "[I", .fieldLink RX13 90 "JudoHallModel" "lineFrom" "[I", .fieldLink RX13 93 "JudoHallModel" "linePoints" "[I", .fieldLink RX13 96 "JudoHallModel" "part" "[I", .fieldLink RX13 99 "JudoHallModel" "partOf" "[I", .fieldLink RX13 102 "JudoHallModel" "pile" "[I", .fieldLink RX13 108 "JudoHallModel" "stop" "LJudoHallModel$Stop;", .fieldLink RX13 112 "JudoHallModel" "tape" "[B", .fieldLink RX13 115 "JudoHallModel" "source" "[B", .fieldLink RX13 457 "JudoHallModel" "taped" "I", .fieldLink RX13 265 "JudoHallModel" "size" "I", .fieldLink RX13 271 "JudoHallModel" "from" "I", .fieldLink RX13 268 "JudoHallModel" "behind" "I", .fieldLink RX13 277 "JudoHallModel" "hand" "I", .fieldLink RX13 286 "JudoHallModel" "value" "I", .fieldLink RX13 363 "JudoHallModel" "open" "I", .fieldLink RX13 262 "JudoHallModel" "fault" "I", .fieldLink RX13 118 "JudoHallModel" "faultAt" "I", .fieldLink RX13 345 "JudoHallModel" "waiting" "I", .fieldLink RX13 122 "JudoHallModel" "log" "[I", .fieldLink RX13 418 "JudoHallModel" "entries" "I", .fieldLink RX13 125 "JudoHallModel" "texts" "[B", .fieldLink RX13 460 "JudoHallModel" "textEnd" "I", .fieldLink RX13 128 "JudoHallModel" "kept" "[B", .fieldLink RX13 131 "JudoHallModel" "row" "[I", .fieldLink RX13 134 "JudoHallModel" "rowOfHalf" "[I", .fieldLink RX13 137 "JudoHallModel" "others" "[I", .fieldLink RX13 140 "JudoHallModel" "isTaken" "[Z", .fieldLink RX13 143 "JudoHallModel" "planMat" "[I", .fieldLink RX13 146 "JudoHallModel" "planBegin" "[I", .fieldLink RX13 149 "JudoHallModel" "newMat" "[I", .fieldLink RX13 152 "JudoHallModel" "newBegin" "[I", .fieldLink RX13 155 "JudoHallModel" "state" "[I", .fieldLink RX13 158 "JudoHallModel" "queue" "[I", .fieldLink RX13 161 "JudoHallModel" "knownWhite" "[I", .fieldLink RX13 164 "JudoHallModel" "knownBlue" "[I", .fieldLink RX13 583 "JudoHallModel" "hasPlan" "Z", .fieldLink RX13 167 "JudoHallModel" "freshAt" "[I", .fieldLink RX13 170 "JudoHallModel" "freeAt" "[I", .methodLink RX13 421 yX13_does, .methodLink RX13 424 yX13_takeLaws, .methodLink RX13 454 yX13_readLaws, .methodLink RX13 315 yX13_scan, .methodLink RX13 274 yX13_byteAt, .methodLink RX13 280 yX13_isLetter, .methodLink RX13 283 yX13_isDigit, .methodLink RX13 291 yJ0_indexOf_0f7a4, .methodLink RX13 348 yX13_need, .methodLink RX13 308 yX13_is, .methodLink RX13 304 yX13_isText, .methodLink RX13 296 yJ0_length_8abf5, .methodLink RX13 300 yJ0_charAt_5068e, .methodLink RX13 311 yX13_wrong, .methodLink RX13 352 yX13_number, .methodLink RX13 357 yX13_name, .methodLink RX13 341 yX13_isQuoted, .methodLink RX13 360 yX13_findSign, .methodLink RX13 366 yX13_readOr, .methodLink RX13 376 yX13_readAnd, .methodLink RX13 386 yX13_readNot, .methodLink RX13 369 yX13_counts, .methodLink RX13 389 yX13_opens, .methodLink RX13 382 yX13_release, .methodLink RX13 372 yX13_put, .methodLink RX13 396 yX13_readSum, .methodLink RX13 411 yX13_readTerm, .methodLink RX13 379 yX13_hold, .methodLink RX13 427 yX13_comes, .methodLink RX13 203 yX13_in, .methodLink RX13 430 yX13_draws, .methodLink RX13 481 yX13_weighed, .methodLink RX13 218 yX13_fights, .methodLink RX13 211 yX13_rounds, .methodLink RX13 207 yX13_halving, .methodLink RX13 488 yX13_makeRow, .methodLink RX13 491 yX13_settle, .methodLink RX13 495 yX13_isOther, .methodLink RX13 498 yX13_bestPlace, .methodLink RX13 436 Lib.Math.min.name, .methodLink RX13 433 yX13_begins, .methodLink RX13 252 yX13_sideOf, .methodLink RX13 225 yX13_pair, .methodLink RX13 229 yX13_isSecond, .methodLink RX13 233 yX13_halfOf, .methodLink RX13 236 yX13_stepOf, .methodLink RX13 239 yX13_second, .methodLink RX13 249 yX13_loserTo, .methodLink RX13 221 yX13_base, .methodLink RX13 246 yX13_winnerOf, .methodLink RX13 243 yX13_roundOf, .methodLink RX13 530 yX13_goesOver, .methodLink RX13 441 yX13_asked, .methodLink RX13 533 yX13_holds, .methodLink RX13 255 yX13_termOf, .methodLink RX13 259 yX13_joined, .methodLink RX13 448 yX13_ends, .methodLink RX13 445 yX13_passes, .methodLink RX13 451 yX13_struck, .methodLink RX13 517 yX13_matOf, .methodLink RX13 463 yX13_lawsAgain, .methodLink RX13 466 yX13_act, .methodLink RX13 469 yX13_lay, .methodLink RX13 214 yX13_isClass, .constantLong RX13 201 (3), .constantLong RX13 472 (200000), .constantLong RX13 474 (15), .methodLink RX13 476 yX13_isFighter, .constantLong RX13 479 (8), .constantLong RX13 484 (2), .constantLong RX13 486 (32), .constantLong RX13 501 (100), .constantLong RX13 503 (99), .methodLink RX13 505 yX13_isWalk, .methodLink RX13 508 yX13_isFight, .methodLink RX13 511 Lib.Math.max.name, .methodLink RX13 514 yX13_isReady, .constantLong RX13 520 (1440), .constantLong RX13 522 (120), .methodLink RX13 524 yX13_isMat, .methodLink RX13 527 yX13_rests, .constantLong RX13 537 (9999), .constantLong RX13 539 (10), .constantLong RX13 541 (9), .constantLong RX13 543 (20), .constantLong RX13 545 (19), .methodLink RX13 547 yX13_about, .methodLink RX13 550 yX13_ordered, .methodLink RX13 565 yX13_isAhead, .methodLink RX13 556 yX13_won, .methodLink RX13 559 yX13_sum, .methodLink RX13 562 yX13_alike, .methodLink RX13 553 yX13_finalOf, .constantLong RX13 569 (4), .constantLong RX13 571 (60), .methodLink RX13 573 yX13_tires, .methodLink RX13 576 yX13_stage, .methodLink RX13 579 yX13_mayBegin, .methodLink RX13 587 yX13_isOver, .constant RX13 582 (100000), .static yX13_in, .instanceMethod yX13_anew, .selects RX13 yX13_anew yX13_anew, .static yX13_isClass, .instanceMethod yX13_halving, .selects RX13 yX13_halving yX13_halving, .instanceMethod yX13_rounds, .selects RX13 yX13_rounds yX13_rounds, .instanceMethod yX13_fights, .selects RX13 yX13_fights yX13_fights, .instanceMethod yX13_isFight, .selects RX13 yX13_isFight yX13_isFight, .instanceMethod yX13_base, .selects RX13 yX13_base yX13_base, .instanceMethod yX13_isSecond, .selects RX13 yX13_isSecond yX13_isSecond, .instanceMethod yX13_finalOf, .selects RX13 yX13_finalOf yX13_finalOf, .instanceMethod yX13_roundOf, .selects RX13 yX13_roundOf yX13_roundOf, .instanceMethod yX13_halfOf, .selects RX13 yX13_halfOf yX13_halfOf, .instanceMethod yX13_stepOf, .selects RX13 yX13_stepOf yX13_stepOf, .instanceMethod yX13_sideOf, .selects RX13 yX13_sideOf yX13_sideOf, .instanceMethod yX13_pair, .selects RX13 yX13_pair yX13_pair, .instanceMethod yX13_second, .selects RX13 yX13_second yX13_second, .instanceMethod yX13_loserTo, .selects RX13 yX13_loserTo yX13_loserTo, .instanceMethod yX13_winnerOf, .selects RX13 yX13_winnerOf yX13_winnerOf, .instanceMethod yX13_isWalk, .selects RX13 yX13_isWalk yX13_isWalk, .instanceMethod yX13_isReady, .selects RX13 yX13_isReady yX13_isReady, .instanceMethod yX13_holds, .selects RX13 yX13_holds yX13_holds, .instanceMethod yX13_termOf, .selects RX13 yX13_termOf yX13_termOf, .static yX13_joined, .instanceMethod yX13_wrong, .selects RX13 yX13_wrong yX13_wrong, .instanceMethod yX13_byteAt, .selects RX13 yX13_byteAt yX13_byteAt, .static yX13_isLetter, .static yX13_isDigit, .instanceMethod yX13_scan, .selects RX13 yX13_scan yX13_scan, .instanceMethod yX13_isText, .selects RX13 yX13_isText yX13_isText, .instanceMethod yX13_is, .selects RX13 yX13_is yX13_is, .instanceMethod yX13_need, .selects RX13 yX13_need yX13_need, .instanceMethod yX13_number, .selects RX13 yX13_number yX13_number, .instanceMethod yX13_isQuoted, .selects RX13 yX13_isQuoted yX13_isQuoted, .instanceMethod yX13_findSign, .selects RX13 yX13_findSign yX13_findSign, .instanceMethod yX13_name, .selects RX13 yX13_name yX13_name, .instanceMethod yX13_readLaws, .selects RX13 yX13_readLaws yX13_readLaws, .instanceMethod yX13_counts, .selects RX13 yX13_counts yX13_counts, .instanceMethod yX13_put, .selects RX13 yX13_put yX13_put, .instanceMethod yX13_hold, .selects RX13 yX13_hold yX13_hold, .instanceMethod yX13_release, .selects RX13 yX13_release yX13_release, .instanceMethod yX13_readOr, .selects RX13 yX13_readOr yX13_readOr, .instanceMethod yX13_readAnd, .selects RX13 yX13_readAnd yX13_readAnd, .instanceMethod yX13_opens, .selects RX13 yX13_opens yX13_opens, .instanceMethod yX13_readNot, .selects RX13 yX13_readNot yX13_readNot, .instanceMethod yX13_readSum, .selects RX13 yX13_readSum yX13_readSum, .instanceMethod yX13_readTerm, .selects RX13 yX13_readTerm yX13_readTerm, .instanceMethod yX13_act, .selects RX13 yX13_act yX13_act, .instanceMethod yX13_does, .selects RX13 yX13_does yX13_does, .instanceMethod yX13_undo, .selects RX13 yX13_undo yX13_undo, .instanceMethod yX13_takeLaws, .selects RX13 yX13_takeLaws yX13_takeLaws, .instanceMethod yX13_lawsAgain, .selects RX13 yX13_lawsAgain yX13_lawsAgain, .instanceMethod yX13_laws, .selects RX13 yX13_laws yX13_laws, .instanceMethod yX13_feed, .selects RX13 yX13_feed yX13_feed, .instanceMethod yX13_lay, .selects RX13 yX13_lay yX13_lay, .instanceMethod yX13_end, .selects RX13 yX13_end yX13_end, .instanceMethod yX13_fault, .selects RX13 yX13_fault yX13_fault, .instanceMethod yX13_isFighter, .selects RX13 yX13_isFighter yX13_isFighter, .instanceMethod yX13_limit, .selects RX13 yX13_limit yX13_limit, .instanceMethod yX13_enter, .selects RX13 yX13_enter yX13_enter, .instanceMethod yX13_comes, .selects RX13 yX13_comes yX13_comes, .instanceMethod yX13_weigh, .selects RX13 yX13_weigh yX13_weigh, .instanceMethod yX13_seed, .selects RX13 yX13_seed yX13_seed, .instanceMethod yX13_weighed, .selects RX13 yX13_weighed yX13_weighed, .instanceMethod yX13_draw, .selects RX13 yX13_draw yX13_draw, .instanceMethod yX13_makeRow, .selects RX13 yX13_makeRow yX13_makeRow, .instanceMethod yX13_draws, .selects RX13 yX13_draws yX13_draws, .instanceMethod yX13_isOther, .selects RX13 yX13_isOther yX13_isOther, .instanceMethod yX13_settle, .selects RX13 yX13_settle yX13_settle, .instanceMethod yX13_bestPlace, .selects RX13 yX13_bestPlace yX13_bestPlace, .instanceMethod yX13_fighter, .selects RX13 yX13_fighter yX13_fighter, .instanceMethod yX13_about, .selects RX13 yX13_about yX13_about, .instanceMethod yX13_matOf, .selects RX13 yX13_matOf yX13_matOf, .instanceMethod yX13_fight, .selects RX13 yX13_fight yX13_fight, .instanceMethod yX13_now, .selects RX13 yX13_now yX13_now, .instanceMethod yX13_rest, .selects RX13 yX13_rest yX13_rest, .static yX13_isMat, .instanceMethod yX13_rests, .selects RX13 yX13_rests yX13_rests, .instanceMethod yX13_begin, .selects RX13 yX13_begin yX13_begin, .instanceMethod yX13_begins, .selects RX13 yX13_begins yX13_begins, .instanceMethod yX13_asked, .selects RX13 yX13_asked yX13_asked, .instanceMethod yX13_passes, .selects RX13 yX13_passes yX13_passes, .instanceMethod yX13_goesOver, .selects RX13 yX13_goesOver yX13_goesOver, .instanceMethod yX13_ends, .selects RX13 yX13_ends yX13_ends, .instanceMethod yX13_event, .selects RX13 yX13_event yX13_event, .instanceMethod yX13_tick, .selects RX13 yX13_tick yX13_tick, .instanceMethod yX13_decide, .selects RX13 yX13_decide yX13_decide, .instanceMethod yX13_mat, .selects RX13 yX13_mat yX13_mat, .instanceMethod yX13_strike, .selects RX13 yX13_strike yX13_strike, .instanceMethod yX13_struck, .selects RX13 yX13_struck yX13_struck, .instanceMethod yX13_medal, .selects RX13 yX13_medal yX13_medal, .instanceMethod yX13_won, .selects RX13 yX13_won yX13_won, .instanceMethod yX13_sum, .selects RX13 yX13_sum yX13_sum, .instanceMethod yX13_alike, .selects RX13 yX13_alike yX13_alike, .instanceMethod yX13_isAhead, .selects RX13 yX13_isAhead yX13_isAhead, .instanceMethod yX13_ordered, .selects RX13 yX13_ordered yX13_ordered, .instanceMethod yX13_stage, .selects RX13 yX13_stage yX13_stage, .instanceMethod yX13_plan, .selects RX13 yX13_plan yX13_plan, .instanceMethod yX13_tires, .selects RX13 yX13_tires yX13_tires, .instanceMethod yX13_isOver, .selects RX13 yX13_isOver yX13_isOver, .instanceMethod yX13_mayBegin, .selects RX13 yX13_mayBegin yX13_mayBegin, .instanceMethod yX13_planned, .selects RX13 yX13_planned yX13_planned, .instanceMethod yX13_count, .selects RX13 yX13_count yX13_count, .initialized RX13, .static Lib.Math.max.name, .static Lib.Math.min.name, .initialized RJ9, .code Lib.Math.max.name Lib.Math.max.code 2 (some .int), .code Lib.Math.min.name Lib.Math.min.code 2 (some .int)]
def wMc : List Cond := [.code yX13_in cX13_in 6 (some .boolean), .code yX13_anew cX13_anew 3 none, .code yX13_isClass cX13_isClass 1 (some .boolean), .code yX13_halving cX13_halving 3 (some .int), .code yX13_rounds cX13_rounds 2 (some .int), .code yX13_fights cX13_fights 3 (some .int), .code yX13_isFight cX13_isFight 3 (some .boolean), .code yX13_base cX13_base 3 (some .int), .code yX13_isSecond cX13_isSecond 3 (some .boolean), .code yX13_finalOf cX13_finalOf 2 (some .int), .code yX13_roundOf cX13_roundOf 4 (some .int), .code yX13_halfOf cX13_halfOf 3 (some .int), .code yX13_stepOf cX13_stepOf 3 (some .int), .code yX13_sideOf cX13_sideOf 7 (some .int), .code yX13_pair cX13_pair 6 (some .int), .code yX13_second cX13_second 5 (some .int), .code yX13_loserTo cX13_loserTo 7 (some .int), .code yX13_winnerOf cX13_winnerOf 5 (some .int), .code yX13_isWalk cX13_isWalk 5 (some .boolean), .code yX13_isReady cX13_isReady 3 (some .boolean), .code yX13_holds cX13_holds 7 (some .boolean), .code yX13_termOf cX13_termOf 5 (some .int), .code yX13_joined cX13_joined 3 (some .int), .code yX13_wrong cX13_wrong 3 (some (.object "JudoHallModel$Stop")), .code yX13_byteAt cX13_byteAt 2 (some .int), .code yX13_isLetter cX13_isLetter 1 (some .boolean), .code yX13_isDigit cX13_isDigit 1 (some .boolean), .code yX13_scan cX13_scan 3 none, .code yX13_isText cX13_isText 4 (some .boolean), .code yX13_is cX13_is 2 (some .boolean), .code yX13_need cX13_need 2 none, .code yX13_number cX13_number 2 (some .int), .code yX13_isQuoted cX13_isQuoted 1 (some .boolean), .code yX13_findSign cX13_findSign 4 (some .int), .code yX13_name cX13_name 1 none, .code yX13_readLaws cX13_readLaws 2 none, .code yX13_counts cX13_counts 1 none, .code yX13_put cX13_put 3 none, .code yX13_hold cX13_hold 1 none, .code yX13_release cX13_release 2 none, .code yX13_readOr cX13_readOr 1 none, .code yX13_readAnd cX13_readAnd 1 none, .code yX13_opens cX13_opens 1 none, .code yX13_readNot cX13_readNot 2 none, .code yX13_readSum cX13_readSum 2 none, .code yX13_readTerm cX13_readTerm 3 none, .code yX13_act cX13_act 5 (some .int), .code yX13_does cX13_does 7 (some .int), .code yX13_undo cX13_undo 3 (some .int), .codeWith yX13_takeLaws cX13_takeLaws 6 (some .int) [(51, 55, 58, 105)], .code yX13_lawsAgain cX13_lawsAgain 3 none, .codeWith yX13_laws cX13_laws 6 (some .int) [(75, 79, 82, 105)], .code yX13_feed cX13_feed 6 (some .int), .code yX13_lay cX13_lay 3 none, .code yX13_end cX13_end 2 (some .int), .code yX13_fault cX13_fault 2 (some .int), .code yX13_isFighter cX13_isFighter 2 (some .boolean), .code yX13_limit cX13_limit 6 (some .int), .code yX13_enter cX13_enter 3 (some .int), .code yX13_comes cX13_comes 4 (some .int), .code yX13_weigh cX13_weigh 3 (some .int), .code yX13_seed cX13_seed 5 (some .int), .code yX13_weighed cX13_weighed 4 (some .int), .code yX13_draw cX13_draw 2 (some .int), .code yX13_makeRow cX13_makeRow 6 none, .code yX13_draws cX13_draws 7 (some .int), .code yX13_isOther cX13_isOther 3 (some .boolean), .code yX13_settle cX13_settle 4 none, .code yX13_bestPlace cX13_bestPlace 12 (some .int), .code yX13_fighter cX13_fighter 3 (some .int), .code yX13_about cX13_about 5 (some .int), .code yX13_matOf cX13_matOf 4 (some .int), .code yX13_fight cX13_fight 6 (some .int), .code yX13_now cX13_now 2 (some .int), .code yX13_rest cX13_rest 2 (some .int), .code yX13_isMat cX13_isMat 1 (some .boolean), .code yX13_rests cX13_rests 4 (some .boolean), .code yX13_begin cX13_begin 4 (some .int), .code yX13_begins cX13_begins 6 (some .int), .code yX13_asked cX13_asked 6 (some .int), .code yX13_passes cX13_passes 4 (some .int), .code yX13_goesOver cX13_goesOver 2 none, .code yX13_ends cX13_ends 6 (some .int), .code yX13_event cX13_event 4 (some .int), .code yX13_tick cX13_tick 3 (some .int), .code yX13_decide cX13_decide 3 (some .int), .code yX13_mat cX13_mat 3 (some .int), .code yX13_strike cX13_strike 3 (some .int), .code yX13_struck cX13_struck 7 (some .int), .code yX13_medal cX13_medal 4 (some .int), .code yX13_won cX13_won 5 (some .int), .code yX13_sum cX13_sum 5 (some .int), .code yX13_alike cX13_alike 5 (some .int), .code yX13_isAhead cX13_isAhead 7 (some .boolean), .code yX13_ordered cX13_ordered 7 (some .int), .code yX13_stage cX13_stage 4 (some .int), .code yX13_plan cX13_plan 10 (some .int), .code yX13_tires cX13_tires 3 none, .code yX13_isOver cX13_isOver 6 (some .boolean), .code yX13_mayBegin cX13_mayBegin 8 (some .boolean), .code yX13_planned cX13_planned 4 (some .int), .code yX13_count cX13_count 4 (some .int)]
def wM : List Cond := wsX130 ++ (wMa ++ (wMc ++ wJ))
theorem gd_wM : ∀ w ∈ wM, Gd w := List.forall_mem_append.mpr ⟨gd_wsX130, List.forall_mem_append.mpr ⟨gdl wMa (by decide +kernel), List.forall_mem_append.mpr ⟨gdl wMc (by decide +kernel), gd_wJ⟩⟩⟩
theorem in_wMa : ∀ w ∈ wMa, w ∈ lw_tbl := inT2 wMa [(6, 199), (6, 200), (6, 237), (7, 20), (7, 24), (7, 25), (7, 26), (7, 27), (7, 28), (7, 29), (7, 30), (7, 31), (7, 32), (7, 33), (7, 34), (7, 35), (7, 36), (7, 37), (7, 38), (7, 39), (7, 40), (7, 41), (7, 42), (7, 43), (7, 44), (7, 45), (7, 46), (7, 47), (7, 48), (7, 49), (7, 50), (7, 51), (7, 52), (7, 53), (7, 54), (7, 55), (7, 56), (7, 57), (7, 58), (7, 59), (7, 60), (7, 61), (7, 62), (7, 63), (7, 64), (7, 65), (7, 66), (7, 67), (7, 68), (7, 69), (7, 70), (7, 71), (7, 72), (7, 73), (7, 74), (7, 75), (7, 76), (7, 77), (7, 78), (7, 79), (7, 80), (7, 81), (7, 82), (7, 83), (7, 84), (7, 85), (7, 86), (7, 87), (7, 88), (7, 89), (7, 90), (7, 91), (7, 92), (7, 93), (7, 94), (7, 95), (7, 96), (8, 6), (8, 10), (8, 14), (8, 18), (8, 22), (8, 26), (8, 29), (8, 33), (8, 89), (8, 93), (8, 97), (8, 101), (8, 102), (8, 103), (8, 107), (8, 114), (8, 118), (8, 132), (8, 136), (8, 140), (8, 144), (8, 148), (8, 152), (8, 156), (8, 160), (8, 166), (8, 170), (8, 176), (8, 186), (8, 190), (8, 193), (8, 197), (8, 201), (8, 205), (8, 209), (8, 213), (8, 217), (8, 221), (8, 225), (8, 229), (8, 230), (8, 234), (8, 238), (9, 2), (9, 6), (9, 10), (9, 14), (9, 18), (9, 22), (9, 26), (9, 30), (9, 34), (9, 38), (9, 42), (9, 46), (9, 50), (9, 53), (9, 57), (9, 61), (9, 65), (9, 73), (9, 77), (9, 85), (9, 101), (9, 104), (9, 105), (9, 110), (9, 115), (9, 123), (9, 128), (9, 129), (9, 138), (9, 139), (9, 140), (9, 148), (9, 152), (9, 153), (9, 161), (9, 166), (9, 171), (9, 174), (9, 186), (9, 195), (9, 196), (9, 197), (9, 198), (9, 207), (9, 208), (9, 212), (9, 216), (9, 220), (9, 224), (9, 228), (9, 236), (9, 237), (9, 238), (10, 2), (10, 6), (10, 10), (10, 14), (8, 191), (7, 22), (0, 82), (9, 102), (8, 211), (0, 111), (8, 207), (0, 110), (8, 203), (0, 109), (9, 150), (0, 140), (9, 24), (0, 124), (9, 4), (0, 119), (9, 230), (0, 148), (9, 32), (0, 126), (9, 8), (0, 120), (9, 12), (0, 121), (8, 236), (0, 117), (9, 0), (0, 118), (9, 16), (0, 122), (9, 20), (0, 123), (9, 28), (0, 125), (9, 142), (0, 139), (9, 155), (0, 141), (9, 44), (0, 129), (9, 48), (0, 130), (9, 51), (8, 105), (0, 91), (8, 24), (0, 87), (8, 27), (8, 30), (8, 20), (0, 86), (8, 99), (0, 90), (8, 95), (0, 89), (8, 91), (0, 88), (8, 109), (0, 92), (8, 120), (0, 94), (8, 134), (0, 95), (8, 116), (0, 93), (8, 16), (0, 85), (8, 150), (0, 99), (8, 162), (0, 102), (8, 178), (0, 105), (8, 158), (0, 101), (8, 138), (0, 96), (8, 142), (0, 97), (8, 154), (0, 100), (8, 146), (0, 98), (8, 168), (0, 103), (8, 172), (0, 104), (9, 79), (0, 136), (8, 8), (0, 83), (8, 3), (8, 4), (8, 12), (0, 84), (9, 75), (0, 135), (9, 70), (9, 71), (9, 82), (9, 83), (9, 87), (0, 137), (9, 90), (9, 91), (9, 94), (9, 95), (9, 117), (0, 138), (9, 98), (9, 99), (9, 107), (9, 108), (8, 188), (0, 106), (9, 112), (9, 113), (9, 120), (9, 121), (8, 199), (0, 108), (9, 125), (9, 126), (8, 215), (0, 112), (8, 195), (0, 107), (8, 223), (0, 114), (8, 219), (0, 113), (8, 227), (0, 115), (9, 131), (9, 132), (9, 135), (9, 136), (9, 67), (0, 134), (9, 145), (9, 146), (9, 158), (9, 159), (9, 163), (9, 164), (9, 172), (9, 176), (0, 142), (9, 168), (9, 169), (8, 232), (0, 116), (9, 40), (0, 128), (9, 59), (0, 132), (9, 36), (0, 127), (9, 55), (0, 131), (9, 179), (9, 180), (9, 183), (9, 184), (9, 188), (9, 189), (9, 192), (9, 193), (9, 200), (9, 201), (9, 63), (0, 133), (9, 204), (9, 205), (9, 218), (0, 145), (9, 222), (0, 146), (9, 226), (0, 147), (9, 214), (0, 144), (9, 210), (0, 143), (10, 4), (0, 150), (9, 233), (9, 234), (10, 0), (0, 149), (10, 12), (0, 152), (10, 8), (0, 151), (10, 16), (10, 17), (10, 20), (10, 21), (1, 18), (1, 51), (4, 63), (1, 4), (1, 52), (4, 64)] (by decide +kernel)
theorem ktX13_in : Cond.code yX13_in cX13_in 6 (some .boolean) ∈ lw_tbl := cxq_mem2 8 192 (by decide +kernel)
theorem ktX13_anew : Cond.code yX13_anew cX13_anew 3 none ∈ lw_tbl := cxq_mem2 7 23 (by decide +kernel)
theorem ktX13_isClass : Cond.code yX13_isClass cX13_isClass 1 (some .boolean) ∈ lw_tbl := cxq_mem2 9 103 (by decide +kernel)
theorem ktX13_halving : Cond.code yX13_halving cX13_halving 3 (some .int) ∈ lw_tbl := cxq_mem2 8 212 (by decide +kernel)
theorem ktX13_rounds : Cond.code yX13_rounds cX13_rounds 2 (some .int) ∈ lw_tbl := cxq_mem2 8 208 (by decide +kernel)
theorem ktX13_fights : Cond.code yX13_fights cX13_fights 3 (some .int) ∈ lw_tbl := cxq_mem2 8 204 (by decide +kernel)
theorem ktX13_isFight : Cond.code yX13_isFight cX13_isFight 3 (some .boolean) ∈ lw_tbl := cxq_mem2 9 151 (by decide +kernel)
theorem ktX13_base : Cond.code yX13_base cX13_base 3 (some .int) ∈ lw_tbl := cxq_mem2 9 25 (by decide +kernel)
theorem ktX13_isSecond : Cond.code yX13_isSecond cX13_isSecond 3 (some .boolean) ∈ lw_tbl := cxq_mem2 9 5 (by decide +kernel)
theorem ktX13_finalOf : Cond.code yX13_finalOf cX13_finalOf 2 (some .int) ∈ lw_tbl := cxq_mem2 9 231 (by decide +kernel)
theorem ktX13_roundOf : Cond.code yX13_roundOf cX13_roundOf 4 (some .int) ∈ lw_tbl := cxq_mem2 9 33 (by decide +kernel)
theorem ktX13_halfOf : Cond.code yX13_halfOf cX13_halfOf 3 (some .int) ∈ lw_tbl := cxq_mem2 9 9 (by decide +kernel)
theorem ktX13_stepOf : Cond.code yX13_stepOf cX13_stepOf 3 (some .int) ∈ lw_tbl := cxq_mem2 9 13 (by decide +kernel)
theorem ktX13_sideOf : Cond.code yX13_sideOf cX13_sideOf 7 (some .int) ∈ lw_tbl := cxq_mem2 8 237 (by decide +kernel)
theorem ktX13_pair : Cond.code yX13_pair cX13_pair 6 (some .int) ∈ lw_tbl := cxq_mem2 9 1 (by decide +kernel)
theorem ktX13_second : Cond.code yX13_second cX13_second 5 (some .int) ∈ lw_tbl := cxq_mem2 9 17 (by decide +kernel)
theorem ktX13_loserTo : Cond.code yX13_loserTo cX13_loserTo 7 (some .int) ∈ lw_tbl := cxq_mem2 9 21 (by decide +kernel)
theorem ktX13_winnerOf : Cond.code yX13_winnerOf cX13_winnerOf 5 (some .int) ∈ lw_tbl := cxq_mem2 9 29 (by decide +kernel)
theorem ktX13_isWalk : Cond.code yX13_isWalk cX13_isWalk 5 (some .boolean) ∈ lw_tbl := cxq_mem2 9 143 (by decide +kernel)
theorem ktX13_isReady : Cond.code yX13_isReady cX13_isReady 3 (some .boolean) ∈ lw_tbl := cxq_mem2 9 156 (by decide +kernel)
theorem ktX13_holds : Cond.code yX13_holds cX13_holds 7 (some .boolean) ∈ lw_tbl := cxq_mem2 9 45 (by decide +kernel)
theorem ktX13_termOf : Cond.code yX13_termOf cX13_termOf 5 (some .int) ∈ lw_tbl := cxq_mem2 9 49 (by decide +kernel)
theorem ktX13_joined : Cond.code yX13_joined cX13_joined 3 (some .int) ∈ lw_tbl := cxq_mem2 9 52 (by decide +kernel)
theorem ktX13_wrong : Cond.code yX13_wrong cX13_wrong 3 (some (.object "JudoHallModel$Stop")) ∈ lw_tbl := cxq_mem2 8 106 (by decide +kernel)
theorem ktX13_byteAt : Cond.code yX13_byteAt cX13_byteAt 2 (some .int) ∈ lw_tbl := cxq_mem2 8 25 (by decide +kernel)
theorem ktX13_isLetter : Cond.code yX13_isLetter cX13_isLetter 1 (some .boolean) ∈ lw_tbl := cxq_mem2 8 28 (by decide +kernel)
theorem ktX13_isDigit : Cond.code yX13_isDigit cX13_isDigit 1 (some .boolean) ∈ lw_tbl := cxq_mem2 8 31 (by decide +kernel)
theorem ktX13_scan : Cond.code yX13_scan cX13_scan 3 none ∈ lw_tbl := cxq_mem2 8 21 (by decide +kernel)
theorem ktX13_isText : Cond.code yX13_isText cX13_isText 4 (some .boolean) ∈ lw_tbl := cxq_mem2 8 100 (by decide +kernel)
theorem ktX13_is : Cond.code yX13_is cX13_is 2 (some .boolean) ∈ lw_tbl := cxq_mem2 8 96 (by decide +kernel)
theorem ktX13_need : Cond.code yX13_need cX13_need 2 none ∈ lw_tbl := cxq_mem2 8 92 (by decide +kernel)
theorem ktX13_number : Cond.code yX13_number cX13_number 2 (some .int) ∈ lw_tbl := cxq_mem2 8 110 (by decide +kernel)
theorem ktX13_isQuoted : Cond.code yX13_isQuoted cX13_isQuoted 1 (some .boolean) ∈ lw_tbl := cxq_mem2 8 121 (by decide +kernel)
theorem ktX13_findSign : Cond.code yX13_findSign cX13_findSign 4 (some .int) ∈ lw_tbl := cxq_mem2 8 135 (by decide +kernel)
theorem ktX13_name : Cond.code yX13_name cX13_name 1 none ∈ lw_tbl := cxq_mem2 8 117 (by decide +kernel)
theorem ktX13_readLaws : Cond.code yX13_readLaws cX13_readLaws 2 none ∈ lw_tbl := cxq_mem2 8 17 (by decide +kernel)
theorem ktX13_counts : Cond.code yX13_counts cX13_counts 1 none ∈ lw_tbl := cxq_mem2 8 151 (by decide +kernel)
theorem ktX13_put : Cond.code yX13_put cX13_put 3 none ∈ lw_tbl := cxq_mem2 8 163 (by decide +kernel)
theorem ktX13_hold : Cond.code yX13_hold cX13_hold 1 none ∈ lw_tbl := cxq_mem2 8 179 (by decide +kernel)
theorem ktX13_release : Cond.code yX13_release cX13_release 2 none ∈ lw_tbl := cxq_mem2 8 159 (by decide +kernel)
theorem ktX13_readOr : Cond.code yX13_readOr cX13_readOr 1 none ∈ lw_tbl := cxq_mem2 8 139 (by decide +kernel)
theorem ktX13_readAnd : Cond.code yX13_readAnd cX13_readAnd 1 none ∈ lw_tbl := cxq_mem2 8 143 (by decide +kernel)
theorem ktX13_opens : Cond.code yX13_opens cX13_opens 1 none ∈ lw_tbl := cxq_mem2 8 155 (by decide +kernel)
theorem ktX13_readNot : Cond.code yX13_readNot cX13_readNot 2 none ∈ lw_tbl := cxq_mem2 8 147 (by decide +kernel)
theorem ktX13_readSum : Cond.code yX13_readSum cX13_readSum 2 none ∈ lw_tbl := cxq_mem2 8 169 (by decide +kernel)
theorem ktX13_readTerm : Cond.code yX13_readTerm cX13_readTerm 3 none ∈ lw_tbl := cxq_mem2 8 173 (by decide +kernel)
theorem ktX13_act : Cond.code yX13_act cX13_act 5 (some .int) ∈ lw_tbl := cxq_mem2 9 80 (by decide +kernel)
theorem ktX13_does : Cond.code yX13_does cX13_does 7 (some .int) ∈ lw_tbl := cxq_mem2 8 9 (by decide +kernel)
theorem ktX13_undo : Cond.code yX13_undo cX13_undo 3 (some .int) ∈ lw_tbl := cxq_mem2 8 5 (by decide +kernel)
theorem ktX13_takeLaws : Cond.codeWith yX13_takeLaws cX13_takeLaws 6 (some .int) [(51, 55, 58, 105)] ∈ lw_tbl := List.mem_of_getElem? (i := 1846) (by decide +kernel)
theorem ktX13_lawsAgain : Cond.code yX13_lawsAgain cX13_lawsAgain 3 none ∈ lw_tbl := cxq_mem2 9 76 (by decide +kernel)
theorem ktX13_laws : Cond.codeWith yX13_laws cX13_laws 6 (some .int) [(75, 79, 82, 105)] ∈ lw_tbl := List.mem_of_getElem? (i := 2145) (by decide +kernel)
theorem ktX13_feed : Cond.code yX13_feed cX13_feed 6 (some .int) ∈ lw_tbl := cxq_mem2 9 84 (by decide +kernel)
theorem ktX13_lay : Cond.code yX13_lay cX13_lay 3 none ∈ lw_tbl := cxq_mem2 9 88 (by decide +kernel)
theorem ktX13_end : Cond.code yX13_end cX13_end 2 (some .int) ∈ lw_tbl := cxq_mem2 9 92 (by decide +kernel)
theorem ktX13_fault : Cond.code yX13_fault cX13_fault 2 (some .int) ∈ lw_tbl := cxq_mem2 9 96 (by decide +kernel)
theorem ktX13_isFighter : Cond.code yX13_isFighter cX13_isFighter 2 (some .boolean) ∈ lw_tbl := cxq_mem2 9 118 (by decide +kernel)
theorem ktX13_limit : Cond.code yX13_limit cX13_limit 6 (some .int) ∈ lw_tbl := cxq_mem2 9 100 (by decide +kernel)
theorem ktX13_enter : Cond.code yX13_enter cX13_enter 3 (some .int) ∈ lw_tbl := cxq_mem2 9 109 (by decide +kernel)
theorem ktX13_comes : Cond.code yX13_comes cX13_comes 4 (some .int) ∈ lw_tbl := cxq_mem2 8 189 (by decide +kernel)
theorem ktX13_weigh : Cond.code yX13_weigh cX13_weigh 3 (some .int) ∈ lw_tbl := cxq_mem2 9 114 (by decide +kernel)
theorem ktX13_seed : Cond.code yX13_seed cX13_seed 5 (some .int) ∈ lw_tbl := cxq_mem2 9 122 (by decide +kernel)
theorem ktX13_weighed : Cond.code yX13_weighed cX13_weighed 4 (some .int) ∈ lw_tbl := cxq_mem2 8 200 (by decide +kernel)
theorem ktX13_draw : Cond.code yX13_draw cX13_draw 2 (some .int) ∈ lw_tbl := cxq_mem2 9 127 (by decide +kernel)
theorem ktX13_makeRow : Cond.code yX13_makeRow cX13_makeRow 6 none ∈ lw_tbl := cxq_mem2 8 216 (by decide +kernel)
theorem ktX13_draws : Cond.code yX13_draws cX13_draws 7 (some .int) ∈ lw_tbl := cxq_mem2 8 196 (by decide +kernel)
theorem ktX13_isOther : Cond.code yX13_isOther cX13_isOther 3 (some .boolean) ∈ lw_tbl := cxq_mem2 8 224 (by decide +kernel)
theorem ktX13_settle : Cond.code yX13_settle cX13_settle 4 none ∈ lw_tbl := cxq_mem2 8 220 (by decide +kernel)
theorem ktX13_bestPlace : Cond.code yX13_bestPlace cX13_bestPlace 12 (some .int) ∈ lw_tbl := cxq_mem2 8 228 (by decide +kernel)
theorem ktX13_fighter : Cond.code yX13_fighter cX13_fighter 3 (some .int) ∈ lw_tbl := cxq_mem2 9 133 (by decide +kernel)
theorem ktX13_about : Cond.code yX13_about cX13_about 5 (some .int) ∈ lw_tbl := cxq_mem2 9 137 (by decide +kernel)
theorem ktX13_matOf : Cond.code yX13_matOf cX13_matOf 4 (some .int) ∈ lw_tbl := cxq_mem2 9 68 (by decide +kernel)
theorem ktX13_fight : Cond.code yX13_fight cX13_fight 6 (some .int) ∈ lw_tbl := cxq_mem2 9 147 (by decide +kernel)
theorem ktX13_now : Cond.code yX13_now cX13_now 2 (some .int) ∈ lw_tbl := cxq_mem2 9 160 (by decide +kernel)
theorem ktX13_rest : Cond.code yX13_rest cX13_rest 2 (some .int) ∈ lw_tbl := cxq_mem2 9 165 (by decide +kernel)
theorem ktX13_isMat : Cond.code yX13_isMat cX13_isMat 1 (some .boolean) ∈ lw_tbl := cxq_mem2 9 173 (by decide +kernel)
theorem ktX13_rests : Cond.code yX13_rests cX13_rests 4 (some .boolean) ∈ lw_tbl := cxq_mem2 9 177 (by decide +kernel)
theorem ktX13_begin : Cond.code yX13_begin cX13_begin 4 (some .int) ∈ lw_tbl := cxq_mem2 9 170 (by decide +kernel)
theorem ktX13_begins : Cond.code yX13_begins cX13_begins 6 (some .int) ∈ lw_tbl := cxq_mem2 8 233 (by decide +kernel)
theorem ktX13_asked : Cond.code yX13_asked cX13_asked 6 (some .int) ∈ lw_tbl := cxq_mem2 9 41 (by decide +kernel)
theorem ktX13_passes : Cond.code yX13_passes cX13_passes 4 (some .int) ∈ lw_tbl := cxq_mem2 9 60 (by decide +kernel)
theorem ktX13_goesOver : Cond.code yX13_goesOver cX13_goesOver 2 none ∈ lw_tbl := cxq_mem2 9 37 (by decide +kernel)
theorem ktX13_ends : Cond.code yX13_ends cX13_ends 6 (some .int) ∈ lw_tbl := cxq_mem2 9 56 (by decide +kernel)
theorem ktX13_event : Cond.code yX13_event cX13_event 4 (some .int) ∈ lw_tbl := cxq_mem2 9 181 (by decide +kernel)
theorem ktX13_tick : Cond.code yX13_tick cX13_tick 3 (some .int) ∈ lw_tbl := cxq_mem2 9 185 (by decide +kernel)
theorem ktX13_decide : Cond.code yX13_decide cX13_decide 3 (some .int) ∈ lw_tbl := cxq_mem2 9 190 (by decide +kernel)
theorem ktX13_mat : Cond.code yX13_mat cX13_mat 3 (some .int) ∈ lw_tbl := cxq_mem2 9 194 (by decide +kernel)
theorem ktX13_strike : Cond.code yX13_strike cX13_strike 3 (some .int) ∈ lw_tbl := cxq_mem2 9 202 (by decide +kernel)
theorem ktX13_struck : Cond.code yX13_struck cX13_struck 7 (some .int) ∈ lw_tbl := cxq_mem2 9 64 (by decide +kernel)
theorem ktX13_medal : Cond.code yX13_medal cX13_medal 4 (some .int) ∈ lw_tbl := cxq_mem2 9 206 (by decide +kernel)
theorem ktX13_won : Cond.code yX13_won cX13_won 5 (some .int) ∈ lw_tbl := cxq_mem2 9 219 (by decide +kernel)
theorem ktX13_sum : Cond.code yX13_sum cX13_sum 5 (some .int) ∈ lw_tbl := cxq_mem2 9 223 (by decide +kernel)
theorem ktX13_alike : Cond.code yX13_alike cX13_alike 5 (some .int) ∈ lw_tbl := cxq_mem2 9 227 (by decide +kernel)
theorem ktX13_isAhead : Cond.code yX13_isAhead cX13_isAhead 7 (some .boolean) ∈ lw_tbl := cxq_mem2 9 215 (by decide +kernel)
theorem ktX13_ordered : Cond.code yX13_ordered cX13_ordered 7 (some .int) ∈ lw_tbl := cxq_mem2 9 211 (by decide +kernel)
theorem ktX13_stage : Cond.code yX13_stage cX13_stage 4 (some .int) ∈ lw_tbl := cxq_mem2 10 5 (by decide +kernel)
theorem ktX13_plan : Cond.code yX13_plan cX13_plan 10 (some .int) ∈ lw_tbl := cxq_mem2 9 235 (by decide +kernel)
theorem ktX13_tires : Cond.code yX13_tires cX13_tires 3 none ∈ lw_tbl := cxq_mem2 10 1 (by decide +kernel)
theorem ktX13_isOver : Cond.code yX13_isOver cX13_isOver 6 (some .boolean) ∈ lw_tbl := cxq_mem2 10 13 (by decide +kernel)
theorem ktX13_mayBegin : Cond.code yX13_mayBegin cX13_mayBegin 8 (some .boolean) ∈ lw_tbl := cxq_mem2 10 9 (by decide +kernel)
theorem ktX13_planned : Cond.code yX13_planned cX13_planned 4 (some .int) ∈ lw_tbl := cxq_mem2 10 18 (by decide +kernel)
theorem ktX13_count : Cond.code yX13_count cX13_count 4 (some .int) ∈ lw_tbl := cxq_mem2 10 22 (by decide +kernel)
set_option maxRecDepth 100000 in
theorem in_wMc : ∀ w ∈ wMc, w ∈ lw_tbl := List.forall_mem_cons.mpr ⟨ktX13_in, List.forall_mem_cons.mpr ⟨ktX13_anew, List.forall_mem_cons.mpr ⟨ktX13_isClass, List.forall_mem_cons.mpr ⟨ktX13_halving, List.forall_mem_cons.mpr ⟨ktX13_rounds, List.forall_mem_cons.mpr ⟨ktX13_fights, List.forall_mem_cons.mpr ⟨ktX13_isFight, List.forall_mem_cons.mpr ⟨ktX13_base, List.forall_mem_cons.mpr ⟨ktX13_isSecond, List.forall_mem_cons.mpr ⟨ktX13_finalOf, List.forall_mem_cons.mpr ⟨ktX13_roundOf, List.forall_mem_cons.mpr ⟨ktX13_halfOf, List.forall_mem_cons.mpr ⟨ktX13_stepOf, List.forall_mem_cons.mpr ⟨ktX13_sideOf, List.forall_mem_cons.mpr ⟨ktX13_pair, List.forall_mem_cons.mpr ⟨ktX13_second, List.forall_mem_cons.mpr ⟨ktX13_loserTo, List.forall_mem_cons.mpr ⟨ktX13_winnerOf, List.forall_mem_cons.mpr ⟨ktX13_isWalk, List.forall_mem_cons.mpr ⟨ktX13_isReady, List.forall_mem_cons.mpr ⟨ktX13_holds, List.forall_mem_cons.mpr ⟨ktX13_termOf, List.forall_mem_cons.mpr ⟨ktX13_joined, List.forall_mem_cons.mpr ⟨ktX13_wrong, List.forall_mem_cons.mpr ⟨ktX13_byteAt, List.forall_mem_cons.mpr ⟨ktX13_isLetter, List.forall_mem_cons.mpr ⟨ktX13_isDigit, List.forall_mem_cons.mpr ⟨ktX13_scan, List.forall_mem_cons.mpr ⟨ktX13_isText, List.forall_mem_cons.mpr ⟨ktX13_is, List.forall_mem_cons.mpr ⟨ktX13_need, List.forall_mem_cons.mpr ⟨ktX13_number, List.forall_mem_cons.mpr ⟨ktX13_isQuoted, List.forall_mem_cons.mpr ⟨ktX13_findSign, List.forall_mem_cons.mpr ⟨ktX13_name, List.forall_mem_cons.mpr ⟨ktX13_readLaws, List.forall_mem_cons.mpr ⟨ktX13_counts, List.forall_mem_cons.mpr ⟨ktX13_put, List.forall_mem_cons.mpr ⟨ktX13_hold, List.forall_mem_cons.mpr ⟨ktX13_release, List.forall_mem_cons.mpr ⟨ktX13_readOr, List.forall_mem_cons.mpr ⟨ktX13_readAnd, List.forall_mem_cons.mpr ⟨ktX13_opens, List.forall_mem_cons.mpr ⟨ktX13_readNot, List.forall_mem_cons.mpr ⟨ktX13_readSum, List.forall_mem_cons.mpr ⟨ktX13_readTerm, List.forall_mem_cons.mpr ⟨ktX13_act, List.forall_mem_cons.mpr ⟨ktX13_does, List.forall_mem_cons.mpr ⟨ktX13_undo, List.forall_mem_cons.mpr ⟨ktX13_takeLaws, List.forall_mem_cons.mpr ⟨ktX13_lawsAgain, List.forall_mem_cons.mpr ⟨ktX13_laws, List.forall_mem_cons.mpr ⟨ktX13_feed, List.forall_mem_cons.mpr ⟨ktX13_lay, List.forall_mem_cons.mpr ⟨ktX13_end, List.forall_mem_cons.mpr ⟨ktX13_fault, List.forall_mem_cons.mpr ⟨ktX13_isFighter, List.forall_mem_cons.mpr ⟨ktX13_limit, List.forall_mem_cons.mpr ⟨ktX13_enter, List.forall_mem_cons.mpr ⟨ktX13_comes, List.forall_mem_cons.mpr ⟨ktX13_weigh, List.forall_mem_cons.mpr ⟨ktX13_seed, List.forall_mem_cons.mpr ⟨ktX13_weighed, List.forall_mem_cons.mpr ⟨ktX13_draw, List.forall_mem_cons.mpr ⟨ktX13_makeRow, List.forall_mem_cons.mpr ⟨ktX13_draws, List.forall_mem_cons.mpr ⟨ktX13_isOther, List.forall_mem_cons.mpr ⟨ktX13_settle, List.forall_mem_cons.mpr ⟨ktX13_bestPlace, List.forall_mem_cons.mpr ⟨ktX13_fighter, List.forall_mem_cons.mpr ⟨ktX13_about, List.forall_mem_cons.mpr ⟨ktX13_matOf, List.forall_mem_cons.mpr ⟨ktX13_fight, List.forall_mem_cons.mpr ⟨ktX13_now, List.forall_mem_cons.mpr ⟨ktX13_rest, List.forall_mem_cons.mpr ⟨ktX13_isMat, List.forall_mem_cons.mpr ⟨ktX13_rests, List.forall_mem_cons.mpr ⟨ktX13_begin, List.forall_mem_cons.mpr ⟨ktX13_begins, List.forall_mem_cons.mpr ⟨ktX13_asked, List.forall_mem_cons.mpr ⟨ktX13_passes, List.forall_mem_cons.mpr ⟨ktX13_goesOver, List.forall_mem_cons.mpr ⟨ktX13_ends, List.forall_mem_cons.mpr ⟨ktX13_event, List.forall_mem_cons.mpr ⟨ktX13_tick, List.forall_mem_cons.mpr ⟨ktX13_decide, List.forall_mem_cons.mpr ⟨ktX13_mat, List.forall_mem_cons.mpr ⟨ktX13_strike, List.forall_mem_cons.mpr ⟨ktX13_struck, List.forall_mem_cons.mpr ⟨ktX13_medal, List.forall_mem_cons.mpr ⟨ktX13_won, List.forall_mem_cons.mpr ⟨ktX13_sum, List.forall_mem_cons.mpr ⟨ktX13_alike, List.forall_mem_cons.mpr ⟨ktX13_isAhead, List.forall_mem_cons.mpr ⟨ktX13_ordered, List.forall_mem_cons.mpr ⟨ktX13_stage, List.forall_mem_cons.mpr ⟨ktX13_plan, List.forall_mem_cons.mpr ⟨ktX13_tires, List.forall_mem_cons.mpr ⟨ktX13_isOver, List.forall_mem_cons.mpr ⟨ktX13_mayBegin, List.forall_mem_cons.mpr ⟨ktX13_planned, List.forall_mem_cons.mpr ⟨ktX13_count, (fun _ h => absurd h List.not_mem_nil)⟩⟩⟩⟩⟩⟩⟩⟩⟩⟩⟩⟩⟩⟩⟩⟩⟩⟩⟩⟩⟩⟩⟩⟩⟩⟩⟩⟩⟩⟩⟩⟩⟩⟩⟩⟩⟩⟩⟩⟩⟩⟩⟩⟩⟩⟩⟩⟩⟩⟩⟩⟩⟩⟩⟩⟩⟩⟩⟩⟩⟩⟩⟩⟩⟩⟩⟩⟩⟩⟩⟩⟩⟩⟩⟩⟩⟩⟩⟩⟩⟩⟩⟩⟩⟩⟩⟩⟩⟩⟩⟩⟩⟩⟩⟩⟩⟩⟩⟩⟩⟩⟩
theorem in_wM : ∀ w ∈ wM, w ∈ lw_tbl := List.forall_mem_append.mpr ⟨in_wsX130, List.forall_mem_append.mpr ⟨in_wMa, List.forall_mem_append.mpr ⟨in_wMc, in_wJ⟩⟩⟩
theorem wMin : ∀ w ∈ u_ws RX13 TX13 72, w ∈ wM := fun _ h => List.mem_append_left _ h
theorem wma1 : Cond.classLink RX13 105 RX12 ∈ wM := List.mem_append_right _ (List.mem_append_left _ (List.mem_of_getElem? (i := 1) rfl))
theorem wma3 : Cond.methodLink RX13 173 yX13_anew ∈ wM := List.mem_append_right _ (List.mem_append_left _ (List.mem_of_getElem? (i := 3) rfl))
theorem wma4 : Cond.constant RX13 185 (200000) ∈ wM := List.mem_append_right _ (List.mem_append_left _ (List.mem_of_getElem? (i := 4) rfl))
theorem wma5 : Cond.fieldLink RX13 9 "JudoHallModel" "low" "[I" ∈ wM := List.mem_append_right _ (List.mem_append_left _ (List.mem_of_getElem? (i := 5) rfl))
theorem wma6 : Cond.fieldLink RX13 13 "JudoHallModel" "high" "[I" ∈ wM := List.mem_append_right _ (List.mem_append_left _ (List.mem_of_getElem? (i := 6) rfl))
theorem wma7 : Cond.fieldLink RX13 176 "JudoHallModel" "fighters" "I" ∈ wM := List.mem_append_right _ (List.mem_append_left _ (List.mem_of_getElem? (i := 7) rfl))
theorem wma8 : Cond.fieldLink RX13 179 "JudoHallModel" "minute" "I" ∈ wM := List.mem_append_right _ (List.mem_append_left _ (List.mem_of_getElem? (i := 8) rfl))
theorem wma9 : Cond.fieldLink RX13 182 "JudoHallModel" "restMinutes" "I" ∈ wM := List.mem_append_right _ (List.mem_append_left _ (List.mem_of_getElem? (i := 9) rfl))
theorem wma10 : Cond.fieldLink RX13 16 "JudoHallModel" "classOf" "[I" ∈ wM := List.mem_append_right _ (List.mem_append_left _ (List.mem_of_getElem? (i := 10) rfl))
theorem wma11 : Cond.fieldLink RX13 19 "JudoHallModel" "club" "[I" ∈ wM := List.mem_append_right _ (List.mem_append_left _ (List.mem_of_getElem? (i := 11) rfl))
theorem wma12 : Cond.fieldLink RX13 22 "JudoHallModel" "grams" "[I" ∈ wM := List.mem_append_right _ (List.mem_append_left _ (List.mem_of_getElem? (i := 12) rfl))
theorem wma13 : Cond.fieldLink RX13 25 "JudoHallModel" "scale" "[I" ∈ wM := List.mem_append_right _ (List.mem_append_left _ (List.mem_of_getElem? (i := 13) rfl))
theorem wma14 : Cond.fieldLink RX13 28 "JudoHallModel" "seedOf" "[I" ∈ wM := List.mem_append_right _ (List.mem_append_left _ (List.mem_of_getElem? (i := 14) rfl))
theorem wma15 : Cond.fieldLink RX13 31 "JudoHallModel" "placeOf" "[I" ∈ wM := List.mem_append_right _ (List.mem_append_left _ (List.mem_of_getElem? (i := 15) rfl))
theorem wma16 : Cond.fieldLink RX13 34 "JudoHallModel" "lastEnd" "[I" ∈ wM := List.mem_append_right _ (List.mem_append_left _ (List.mem_of_getElem? (i := 16) rfl))
theorem wma17 : Cond.fieldLink RX13 37 "JudoHallModel" "drawn" "[I" ∈ wM := List.mem_append_right _ (List.mem_append_left _ (List.mem_of_getElem? (i := 17) rfl))
theorem wma18 : Cond.fieldLink RX13 40 "JudoHallModel" "places" "[I" ∈ wM := List.mem_append_right _ (List.mem_append_left _ (List.mem_of_getElem? (i := 18) rfl))
theorem wma19 : Cond.fieldLink RX13 43 "JudoHallModel" "who" "[I" ∈ wM := List.mem_append_right _ (List.mem_append_left _ (List.mem_of_getElem? (i := 19) rfl))
theorem wma20 : Cond.fieldLink RX13 46 "JudoHallModel" "result" "[I" ∈ wM := List.mem_append_right _ (List.mem_append_left _ (List.mem_of_getElem? (i := 20) rfl))
theorem wma21 : Cond.fieldLink RX13 49 "JudoHallModel" "white" "[I" ∈ wM := List.mem_append_right _ (List.mem_append_left _ (List.mem_of_getElem? (i := 21) rfl))
theorem wma22 : Cond.fieldLink RX13 52 "JudoHallModel" "blue" "[I" ∈ wM := List.mem_append_right _ (List.mem_append_left _ (List.mem_of_getElem? (i := 22) rfl))
theorem wma23 : Cond.fieldLink RX13 55 "JudoHallModel" "winner" "[I" ∈ wM := List.mem_append_right _ (List.mem_append_left _ (List.mem_of_getElem? (i := 23) rfl))
theorem wma24 : Cond.fieldLink RX13 58 "JudoHallModel" "endLine" "[I" ∈ wM := List.mem_append_right _ (List.mem_append_left _ (List.mem_of_getElem? (i := 24) rfl))
theorem wma25 : Cond.fieldLink RX13 61 "JudoHallModel" "points" "[I" ∈ wM := List.mem_append_right _ (List.mem_append_left _ (List.mem_of_getElem? (i := 25) rfl))
theorem wma26 : Cond.fieldLink RX13 64 "JudoHallModel" "endMinute" "[I" ∈ wM := List.mem_append_right _ (List.mem_append_left _ (List.mem_of_getElem? (i := 26) rfl))
theorem wma27 : Cond.fieldLink RX13 67 "JudoHallModel" "on" "[I" ∈ wM := List.mem_append_right _ (List.mem_append_left _ (List.mem_of_getElem? (i := 27) rfl))
theorem wma28 : Cond.fieldLink RX13 70 "JudoHallModel" "left" "[I" ∈ wM := List.mem_append_right _ (List.mem_append_left _ (List.mem_of_getElem? (i := 28) rfl))
theorem wma29 : Cond.fieldLink RX13 73 "JudoHallModel" "has" "[I" ∈ wM := List.mem_append_right _ (List.mem_append_left _ (List.mem_of_getElem? (i := 29) rfl))
theorem wma30 : Cond.fieldLink RX13 76 "JudoHallModel" "isExtra" "[Z" ∈ wM := List.mem_append_right _ (List.mem_append_left _ (List.mem_of_getElem? (i := 30) rfl))
theorem wma31 : Cond.fieldLink RX13 80 "JudoHallModel" "waits" "[Z" ∈ wM := List.mem_append_right _ (List.mem_append_left _ (List.mem_of_getElem? (i := 31) rfl))
theorem wma32 : Cond.fieldLink RX13 195 "JudoHallModel" "time" "I" ∈ wM := List.mem_append_right _ (List.mem_append_left _ (List.mem_of_getElem? (i := 32) rfl))
theorem wma33 : Cond.fieldLink RX13 198 "JudoHallModel" "golden" "I" ∈ wM := List.mem_append_right _ (List.mem_append_left _ (List.mem_of_getElem? (i := 33) rfl))
theorem wma34 : Cond.fieldLink RX13 186 "JudoHallModel" "signs" "I" ∈ wM := List.mem_append_right _ (List.mem_append_left _ (List.mem_of_getElem? (i := 34) rfl))
theorem wma35 : Cond.fieldLink RX13 189 "JudoHallModel" "lines" "I" ∈ wM := List.mem_append_right _ (List.mem_append_left _ (List.mem_of_getElem? (i := 35) rfl))
theorem wma36 : Cond.fieldLink RX13 192 "JudoHallModel" "parts" "I" ∈ wM := List.mem_append_right _ (List.mem_append_left _ (List.mem_of_getElem? (i := 36) rfl))
theorem wma37 : Cond.fieldLink RX13 83 "JudoHallModel" "signName" "[B" ∈ wM := List.mem_append_right _ (List.mem_append_left _ (List.mem_of_getElem? (i := 37) rfl))
theorem wma38 : Cond.fieldLink RX13 87 "JudoHallModel" "signSize" "[I" ∈ wM := List.mem_append_right _ (List.mem_append_left _ (List.mem_of_getElem? (i := 38) rfl))
theorem wma39 : Cond.fieldLink RX13 90 "JudoHallModel" "lineFrom" "[I" ∈ wM := List.mem_append_right _ (List.mem_append_left _ (List.mem_of_getElem? (i := 39) rfl))
theorem wma40 : Cond.fieldLink RX13 93 "JudoHallModel" "linePoints" "[I" ∈ wM := List.mem_append_right _ (List.mem_append_left _ (List.mem_of_getElem? (i := 40) rfl))
theorem wma41 : Cond.fieldLink RX13 96 "JudoHallModel" "part" "[I" ∈ wM := List.mem_append_right _ (List.mem_append_left _ (List.mem_of_getElem? (i := 41) rfl))
theorem wma42 : Cond.fieldLink RX13 99 "JudoHallModel" "partOf" "[I" ∈ wM := List.mem_append_right _ (List.mem_append_left _ (List.mem_of_getElem? (i := 42) rfl))
theorem wma43 : Cond.fieldLink RX13 102 "JudoHallModel" "pile" "[I" ∈ wM := List.mem_append_right _ (List.mem_append_left _ (List.mem_of_getElem? (i := 43) rfl))
theorem wma44 : Cond.fieldLink RX13 108 "JudoHallModel" "stop" "LJudoHallModel$Stop;" ∈ wM := List.mem_append_right _ (List.mem_append_left _ (List.mem_of_getElem? (i := 44) rfl))
theorem wma45 : Cond.fieldLink RX13 112 "JudoHallModel" "tape" "[B" ∈ wM := List.mem_append_right _ (List.mem_append_left _ (List.mem_of_getElem? (i := 45) rfl))
theorem wma46 : Cond.fieldLink RX13 115 "JudoHallModel" "source" "[B" ∈ wM := List.mem_append_right _ (List.mem_append_left _ (List.mem_of_getElem? (i := 46) rfl))
theorem wma47 : Cond.fieldLink RX13 457 "JudoHallModel" "taped" "I" ∈ wM := List.mem_append_right _ (List.mem_append_left _ (List.mem_of_getElem? (i := 47) rfl))
theorem wma48 : Cond.fieldLink RX13 265 "JudoHallModel" "size" "I" ∈ wM := List.mem_append_right _ (List.mem_append_left _ (List.mem_of_getElem? (i := 48) rfl))
theorem wma49 : Cond.fieldLink RX13 271 "JudoHallModel" "from" "I" ∈ wM := List.mem_append_right _ (List.mem_append_left _ (List.mem_of_getElem? (i := 49) rfl))
theorem wma50 : Cond.fieldLink RX13 268 "JudoHallModel" "behind" "I" ∈ wM := List.mem_append_right _ (List.mem_append_left _ (List.mem_of_getElem? (i := 50) rfl))
theorem wma51 : Cond.fieldLink RX13 277 "JudoHallModel" "hand" "I" ∈ wM := List.mem_append_right _ (List.mem_append_left _ (List.mem_of_getElem? (i := 51) rfl))
theorem wma52 : Cond.fieldLink RX13 286 "JudoHallModel" "value" "I" ∈ wM := List.mem_append_right _ (List.mem_append_left _ (List.mem_of_getElem? (i := 52) rfl))
theorem wma53 : Cond.fieldLink RX13 363 "JudoHallModel" "open" "I" ∈ wM := List.mem_append_right _ (List.mem_append_left _ (List.mem_of_getElem? (i := 53) rfl))
theorem wma54 : Cond.fieldLink RX13 262 "JudoHallModel" "fault" "I" ∈ wM := List.mem_append_right _ (List.mem_append_left _ (List.mem_of_getElem? (i := 54) rfl))
theorem wma55 : Cond.fieldLink RX13 118 "JudoHallModel" "faultAt" "I" ∈ wM := List.mem_append_right _ (List.mem_append_left _ (List.mem_of_getElem? (i := 55) rfl))
theorem wma56 : Cond.fieldLink RX13 345 "JudoHallModel" "waiting" "I" ∈ wM := List.mem_append_right _ (List.mem_append_left _ (List.mem_of_getElem? (i := 56) rfl))
theorem wma57 : Cond.fieldLink RX13 122 "JudoHallModel" "log" "[I" ∈ wM := List.mem_append_right _ (List.mem_append_left _ (List.mem_of_getElem? (i := 57) rfl))
theorem wma58 : Cond.fieldLink RX13 418 "JudoHallModel" "entries" "I" ∈ wM := List.mem_append_right _ (List.mem_append_left _ (List.mem_of_getElem? (i := 58) rfl))
theorem wma59 : Cond.fieldLink RX13 125 "JudoHallModel" "texts" "[B" ∈ wM := List.mem_append_right _ (List.mem_append_left _ (List.mem_of_getElem? (i := 59) rfl))
theorem wma60 : Cond.fieldLink RX13 460 "JudoHallModel" "textEnd" "I" ∈ wM := List.mem_append_right _ (List.mem_append_left _ (List.mem_of_getElem? (i := 60) rfl))
theorem wma61 : Cond.fieldLink RX13 128 "JudoHallModel" "kept" "[B" ∈ wM := List.mem_append_right _ (List.mem_append_left _ (List.mem_of_getElem? (i := 61) rfl))
theorem wma62 : Cond.fieldLink RX13 131 "JudoHallModel" "row" "[I" ∈ wM := List.mem_append_right _ (List.mem_append_left _ (List.mem_of_getElem? (i := 62) rfl))
theorem wma63 : Cond.fieldLink RX13 134 "JudoHallModel" "rowOfHalf" "[I" ∈ wM := List.mem_append_right _ (List.mem_append_left _ (List.mem_of_getElem? (i := 63) rfl))
theorem wma64 : Cond.fieldLink RX13 137 "JudoHallModel" "others" "[I" ∈ wM := List.mem_append_right _ (List.mem_append_left _ (List.mem_of_getElem? (i := 64) rfl))
theorem wma65 : Cond.fieldLink RX13 140 "JudoHallModel" "isTaken" "[Z" ∈ wM := List.mem_append_right _ (List.mem_append_left _ (List.mem_of_getElem? (i := 65) rfl))
theorem wma66 : Cond.fieldLink RX13 143 "JudoHallModel" "planMat" "[I" ∈ wM := List.mem_append_right _ (List.mem_append_left _ (List.mem_of_getElem? (i := 66) rfl))
theorem wma67 : Cond.fieldLink RX13 146 "JudoHallModel" "planBegin" "[I" ∈ wM := List.mem_append_right _ (List.mem_append_left _ (List.mem_of_getElem? (i := 67) rfl))
theorem wma68 : Cond.fieldLink RX13 149 "JudoHallModel" "newMat" "[I" ∈ wM := List.mem_append_right _ (List.mem_append_left _ (List.mem_of_getElem? (i := 68) rfl))
theorem wma69 : Cond.fieldLink RX13 152 "JudoHallModel" "newBegin" "[I" ∈ wM := List.mem_append_right _ (List.mem_append_left _ (List.mem_of_getElem? (i := 69) rfl))
theorem wma70 : Cond.fieldLink RX13 155 "JudoHallModel" "state" "[I" ∈ wM := List.mem_append_right _ (List.mem_append_left _ (List.mem_of_getElem? (i := 70) rfl))
theorem wma71 : Cond.fieldLink RX13 158 "JudoHallModel" "queue" "[I" ∈ wM := List.mem_append_right _ (List.mem_append_left _ (List.mem_of_getElem? (i := 71) rfl))
theorem wma72 : Cond.fieldLink RX13 161 "JudoHallModel" "knownWhite" "[I" ∈ wM := List.mem_append_right _ (List.mem_append_left _ (List.mem_of_getElem? (i := 72) rfl))
theorem wma73 : Cond.fieldLink RX13 164 "JudoHallModel" "knownBlue" "[I" ∈ wM := List.mem_append_right _ (List.mem_append_left _ (List.mem_of_getElem? (i := 73) rfl))
theorem wma74 : Cond.fieldLink RX13 583 "JudoHallModel" "hasPlan" "Z" ∈ wM := List.mem_append_right _ (List.mem_append_left _ (List.mem_of_getElem? (i := 74) rfl))
theorem wma75 : Cond.fieldLink RX13 167 "JudoHallModel" "freshAt" "[I" ∈ wM := List.mem_append_right _ (List.mem_append_left _ (List.mem_of_getElem? (i := 75) rfl))
theorem wma76 : Cond.fieldLink RX13 170 "JudoHallModel" "freeAt" "[I" ∈ wM := List.mem_append_right _ (List.mem_append_left _ (List.mem_of_getElem? (i := 76) rfl))
theorem wma77 : Cond.methodLink RX13 421 yX13_does ∈ wM := List.mem_append_right _ (List.mem_append_left _ (List.mem_of_getElem? (i := 77) rfl))
theorem wma78 : Cond.methodLink RX13 424 yX13_takeLaws ∈ wM := List.mem_append_right _ (List.mem_append_left _ (List.mem_of_getElem? (i := 78) rfl))
theorem wma79 : Cond.methodLink RX13 454 yX13_readLaws ∈ wM := List.mem_append_right _ (List.mem_append_left _ (List.mem_of_getElem? (i := 79) rfl))
theorem wma80 : Cond.methodLink RX13 315 yX13_scan ∈ wM := List.mem_append_right _ (List.mem_append_left _ (List.mem_of_getElem? (i := 80) rfl))
theorem wma81 : Cond.methodLink RX13 274 yX13_byteAt ∈ wM := List.mem_append_right _ (List.mem_append_left _ (List.mem_of_getElem? (i := 81) rfl))
theorem wma82 : Cond.methodLink RX13 280 yX13_isLetter ∈ wM := List.mem_append_right _ (List.mem_append_left _ (List.mem_of_getElem? (i := 82) rfl))
theorem wma83 : Cond.methodLink RX13 283 yX13_isDigit ∈ wM := List.mem_append_right _ (List.mem_append_left _ (List.mem_of_getElem? (i := 83) rfl))
theorem wma84 : Cond.methodLink RX13 291 yJ0_indexOf_0f7a4 ∈ wM := List.mem_append_right _ (List.mem_append_left _ (List.mem_of_getElem? (i := 84) rfl))
theorem wma85 : Cond.methodLink RX13 348 yX13_need ∈ wM := List.mem_append_right _ (List.mem_append_left _ (List.mem_of_getElem? (i := 85) rfl))
theorem wma86 : Cond.methodLink RX13 308 yX13_is ∈ wM := List.mem_append_right _ (List.mem_append_left _ (List.mem_of_getElem? (i := 86) rfl))
theorem wma87 : Cond.methodLink RX13 304 yX13_isText ∈ wM := List.mem_append_right _ (List.mem_append_left _ (List.mem_of_getElem? (i := 87) rfl))
theorem wma88 : Cond.methodLink RX13 296 yJ0_length_8abf5 ∈ wM := List.mem_append_right _ (List.mem_append_left _ (List.mem_of_getElem? (i := 88) rfl))
theorem wma89 : Cond.methodLink RX13 300 yJ0_charAt_5068e ∈ wM := List.mem_append_right _ (List.mem_append_left _ (List.mem_of_getElem? (i := 89) rfl))
theorem wma90 : Cond.methodLink RX13 311 yX13_wrong ∈ wM := List.mem_append_right _ (List.mem_append_left _ (List.mem_of_getElem? (i := 90) rfl))
theorem wma91 : Cond.methodLink RX13 352 yX13_number ∈ wM := List.mem_append_right _ (List.mem_append_left _ (List.mem_of_getElem? (i := 91) rfl))
theorem wma92 : Cond.methodLink RX13 357 yX13_name ∈ wM := List.mem_append_right _ (List.mem_append_left _ (List.mem_of_getElem? (i := 92) rfl))
theorem wma93 : Cond.methodLink RX13 341 yX13_isQuoted ∈ wM := List.mem_append_right _ (List.mem_append_left _ (List.mem_of_getElem? (i := 93) rfl))
theorem wma94 : Cond.methodLink RX13 360 yX13_findSign ∈ wM := List.mem_append_right _ (List.mem_append_left _ (List.mem_of_getElem? (i := 94) rfl))
theorem wma95 : Cond.methodLink RX13 366 yX13_readOr ∈ wM := List.mem_append_right _ (List.mem_append_left _ (List.mem_of_getElem? (i := 95) rfl))
theorem wma96 : Cond.methodLink RX13 376 yX13_readAnd ∈ wM := List.mem_append_right _ (List.mem_append_left _ (List.mem_of_getElem? (i := 96) rfl))
theorem wma97 : Cond.methodLink RX13 386 yX13_readNot ∈ wM := List.mem_append_right _ (List.mem_append_left _ (List.mem_of_getElem? (i := 97) rfl))
theorem wma98 : Cond.methodLink RX13 369 yX13_counts ∈ wM := List.mem_append_right _ (List.mem_append_left _ (List.mem_of_getElem? (i := 98) rfl))
theorem wma99 : Cond.methodLink RX13 389 yX13_opens ∈ wM := List.mem_append_right _ (List.mem_append_left _ (List.mem_of_getElem? (i := 99) rfl))
theorem wma100 : Cond.methodLink RX13 382 yX13_release ∈ wM := List.mem_append_right _ (List.mem_append_left _ (List.mem_of_getElem? (i := 100) rfl))
theorem wma101 : Cond.methodLink RX13 372 yX13_put ∈ wM := List.mem_append_right _ (List.mem_append_left _ (List.mem_of_getElem? (i := 101) rfl))
theorem wma102 : Cond.methodLink RX13 396 yX13_readSum ∈ wM := List.mem_append_right _ (List.mem_append_left _ (List.mem_of_getElem? (i := 102) rfl))
theorem wma103 : Cond.methodLink RX13 411 yX13_readTerm ∈ wM := List.mem_append_right _ (List.mem_append_left _ (List.mem_of_getElem? (i := 103) rfl))
theorem wma104 : Cond.methodLink RX13 379 yX13_hold ∈ wM := List.mem_append_right _ (List.mem_append_left _ (List.mem_of_getElem? (i := 104) rfl))
theorem wma105 : Cond.methodLink RX13 427 yX13_comes ∈ wM := List.mem_append_right _ (List.mem_append_left _ (List.mem_of_getElem? (i := 105) rfl))
theorem wma106 : Cond.methodLink RX13 203 yX13_in ∈ wM := List.mem_append_right _ (List.mem_append_left _ (List.mem_of_getElem? (i := 106) rfl))
theorem wma107 : Cond.methodLink RX13 430 yX13_draws ∈ wM := List.mem_append_right _ (List.mem_append_left _ (List.mem_of_getElem? (i := 107) rfl))
theorem wma108 : Cond.methodLink RX13 481 yX13_weighed ∈ wM := List.mem_append_right _ (List.mem_append_left _ (List.mem_of_getElem? (i := 108) rfl))
theorem wma109 : Cond.methodLink RX13 218 yX13_fights ∈ wM := List.mem_append_right _ (List.mem_append_left _ (List.mem_of_getElem? (i := 109) rfl))
theorem wma110 : Cond.methodLink RX13 211 yX13_rounds ∈ wM := List.mem_append_right _ (List.mem_append_left _ (List.mem_of_getElem? (i := 110) rfl))
theorem wma111 : Cond.methodLink RX13 207 yX13_halving ∈ wM := List.mem_append_right _ (List.mem_append_left _ (List.mem_of_getElem? (i := 111) rfl))
theorem wma112 : Cond.methodLink RX13 488 yX13_makeRow ∈ wM := List.mem_append_right _ (List.mem_append_left _ (List.mem_of_getElem? (i := 112) rfl))
theorem wma113 : Cond.methodLink RX13 491 yX13_settle ∈ wM := List.mem_append_right _ (List.mem_append_left _ (List.mem_of_getElem? (i := 113) rfl))
theorem wma114 : Cond.methodLink RX13 495 yX13_isOther ∈ wM := List.mem_append_right _ (List.mem_append_left _ (List.mem_of_getElem? (i := 114) rfl))
theorem wma115 : Cond.methodLink RX13 498 yX13_bestPlace ∈ wM := List.mem_append_right _ (List.mem_append_left _ (List.mem_of_getElem? (i := 115) rfl))
theorem wma116 : Cond.methodLink RX13 436 Lib.Math.min.name ∈ wM := List.mem_append_right _ (List.mem_append_left _ (List.mem_of_getElem? (i := 116) rfl))
theorem wma117 : Cond.methodLink RX13 433 yX13_begins ∈ wM := List.mem_append_right _ (List.mem_append_left _ (List.mem_of_getElem? (i := 117) rfl))
theorem wma118 : Cond.methodLink RX13 252 yX13_sideOf ∈ wM := List.mem_append_right _ (List.mem_append_left _ (List.mem_of_getElem? (i := 118) rfl))
theorem wma119 : Cond.methodLink RX13 225 yX13_pair ∈ wM := List.mem_append_right _ (List.mem_append_left _ (List.mem_of_getElem? (i := 119) rfl))
theorem wma120 : Cond.methodLink RX13 229 yX13_isSecond ∈ wM := List.mem_append_right _ (List.mem_append_left _ (List.mem_of_getElem? (i := 120) rfl))
theorem wma121 : Cond.methodLink RX13 233 yX13_halfOf ∈ wM := List.mem_append_right _ (List.mem_append_left _ (List.mem_of_getElem? (i := 121) rfl))
theorem wma122 : Cond.methodLink RX13 236 yX13_stepOf ∈ wM := List.mem_append_right _ (List.mem_append_left _ (List.mem_of_getElem? (i := 122) rfl))
theorem wma123 : Cond.methodLink RX13 239 yX13_second ∈ wM := List.mem_append_right _ (List.mem_append_left _ (List.mem_of_getElem? (i := 123) rfl))
theorem wma124 : Cond.methodLink RX13 249 yX13_loserTo ∈ wM := List.mem_append_right _ (List.mem_append_left _ (List.mem_of_getElem? (i := 124) rfl))
theorem wma125 : Cond.methodLink RX13 221 yX13_base ∈ wM := List.mem_append_right _ (List.mem_append_left _ (List.mem_of_getElem? (i := 125) rfl))
theorem wma126 : Cond.methodLink RX13 246 yX13_winnerOf ∈ wM := List.mem_append_right _ (List.mem_append_left _ (List.mem_of_getElem? (i := 126) rfl))
theorem wma127 : Cond.methodLink RX13 243 yX13_roundOf ∈ wM := List.mem_append_right _ (List.mem_append_left _ (List.mem_of_getElem? (i := 127) rfl))
theorem wma128 : Cond.methodLink RX13 530 yX13_goesOver ∈ wM := List.mem_append_right _ (List.mem_append_left _ (List.mem_of_getElem? (i := 128) rfl))
theorem wma129 : Cond.methodLink RX13 441 yX13_asked ∈ wM := List.mem_append_right _ (List.mem_append_left _ (List.mem_of_getElem? (i := 129) rfl))
theorem wma130 : Cond.methodLink RX13 533 yX13_holds ∈ wM := List.mem_append_right _ (List.mem_append_left _ (List.mem_of_getElem? (i := 130) rfl))
theorem wma131 : Cond.methodLink RX13 255 yX13_termOf ∈ wM := List.mem_append_right _ (List.mem_append_left _ (List.mem_of_getElem? (i := 131) rfl))
theorem wma132 : Cond.methodLink RX13 259 yX13_joined ∈ wM := List.mem_append_right _ (List.mem_append_left _ (List.mem_of_getElem? (i := 132) rfl))
theorem wma133 : Cond.methodLink RX13 448 yX13_ends ∈ wM := List.mem_append_right _ (List.mem_append_left _ (List.mem_of_getElem? (i := 133) rfl))
theorem wma134 : Cond.methodLink RX13 445 yX13_passes ∈ wM := List.mem_append_right _ (List.mem_append_left _ (List.mem_of_getElem? (i := 134) rfl))
theorem wma135 : Cond.methodLink RX13 451 yX13_struck ∈ wM := List.mem_append_right _ (List.mem_append_left _ (List.mem_of_getElem? (i := 135) rfl))
theorem wma136 : Cond.methodLink RX13 517 yX13_matOf ∈ wM := List.mem_append_right _ (List.mem_append_left _ (List.mem_of_getElem? (i := 136) rfl))
theorem wma137 : Cond.methodLink RX13 463 yX13_lawsAgain ∈ wM := List.mem_append_right _ (List.mem_append_left _ (List.mem_of_getElem? (i := 137) rfl))
theorem wma138 : Cond.methodLink RX13 466 yX13_act ∈ wM := List.mem_append_right _ (List.mem_append_left _ (List.mem_of_getElem? (i := 138) rfl))
theorem wma139 : Cond.methodLink RX13 469 yX13_lay ∈ wM := List.mem_append_right _ (List.mem_append_left _ (List.mem_of_getElem? (i := 139) rfl))
theorem wma140 : Cond.methodLink RX13 214 yX13_isClass ∈ wM := List.mem_append_right _ (List.mem_append_left _ (List.mem_of_getElem? (i := 140) rfl))
theorem wma141 : Cond.constantLong RX13 201 (3) ∈ wM := List.mem_append_right _ (List.mem_append_left _ (List.mem_of_getElem? (i := 141) rfl))
theorem wma142 : Cond.constantLong RX13 472 (200000) ∈ wM := List.mem_append_right _ (List.mem_append_left _ (List.mem_of_getElem? (i := 142) rfl))
theorem wma143 : Cond.constantLong RX13 474 (15) ∈ wM := List.mem_append_right _ (List.mem_append_left _ (List.mem_of_getElem? (i := 143) rfl))
theorem wma144 : Cond.methodLink RX13 476 yX13_isFighter ∈ wM := List.mem_append_right _ (List.mem_append_left _ (List.mem_of_getElem? (i := 144) rfl))
theorem wma145 : Cond.constantLong RX13 479 (8) ∈ wM := List.mem_append_right _ (List.mem_append_left _ (List.mem_of_getElem? (i := 145) rfl))
theorem wma146 : Cond.constantLong RX13 484 (2) ∈ wM := List.mem_append_right _ (List.mem_append_left _ (List.mem_of_getElem? (i := 146) rfl))
theorem wma147 : Cond.constantLong RX13 486 (32) ∈ wM := List.mem_append_right _ (List.mem_append_left _ (List.mem_of_getElem? (i := 147) rfl))
theorem wma148 : Cond.constantLong RX13 501 (100) ∈ wM := List.mem_append_right _ (List.mem_append_left _ (List.mem_of_getElem? (i := 148) rfl))
theorem wma149 : Cond.constantLong RX13 503 (99) ∈ wM := List.mem_append_right _ (List.mem_append_left _ (List.mem_of_getElem? (i := 149) rfl))
theorem wma150 : Cond.methodLink RX13 505 yX13_isWalk ∈ wM := List.mem_append_right _ (List.mem_append_left _ (List.mem_of_getElem? (i := 150) rfl))
theorem wma151 : Cond.methodLink RX13 508 yX13_isFight ∈ wM := List.mem_append_right _ (List.mem_append_left _ (List.mem_of_getElem? (i := 151) rfl))
theorem wma152 : Cond.methodLink RX13 511 Lib.Math.max.name ∈ wM := List.mem_append_right _ (List.mem_append_left _ (List.mem_of_getElem? (i := 152) rfl))
theorem wma153 : Cond.methodLink RX13 514 yX13_isReady ∈ wM := List.mem_append_right _ (List.mem_append_left _ (List.mem_of_getElem? (i := 153) rfl))
theorem wma154 : Cond.constantLong RX13 520 (1440) ∈ wM := List.mem_append_right _ (List.mem_append_left _ (List.mem_of_getElem? (i := 154) rfl))
theorem wma155 : Cond.constantLong RX13 522 (120) ∈ wM := List.mem_append_right _ (List.mem_append_left _ (List.mem_of_getElem? (i := 155) rfl))
theorem wma156 : Cond.methodLink RX13 524 yX13_isMat ∈ wM := List.mem_append_right _ (List.mem_append_left _ (List.mem_of_getElem? (i := 156) rfl))
theorem wma157 : Cond.methodLink RX13 527 yX13_rests ∈ wM := List.mem_append_right _ (List.mem_append_left _ (List.mem_of_getElem? (i := 157) rfl))
theorem wma158 : Cond.constantLong RX13 537 (9999) ∈ wM := List.mem_append_right _ (List.mem_append_left _ (List.mem_of_getElem? (i := 158) rfl))
theorem wma159 : Cond.constantLong RX13 539 (10) ∈ wM := List.mem_append_right _ (List.mem_append_left _ (List.mem_of_getElem? (i := 159) rfl))
theorem wma160 : Cond.constantLong RX13 541 (9) ∈ wM := List.mem_append_right _ (List.mem_append_left _ (List.mem_of_getElem? (i := 160) rfl))
theorem wma161 : Cond.constantLong RX13 543 (20) ∈ wM := List.mem_append_right _ (List.mem_append_left _ (List.mem_of_getElem? (i := 161) rfl))
theorem wma162 : Cond.constantLong RX13 545 (19) ∈ wM := List.mem_append_right _ (List.mem_append_left _ (List.mem_of_getElem? (i := 162) rfl))
theorem wma163 : Cond.methodLink RX13 547 yX13_about ∈ wM := List.mem_append_right _ (List.mem_append_left _ (List.mem_of_getElem? (i := 163) rfl))
theorem wma164 : Cond.methodLink RX13 550 yX13_ordered ∈ wM := List.mem_append_right _ (List.mem_append_left _ (List.mem_of_getElem? (i := 164) rfl))
theorem wma165 : Cond.methodLink RX13 565 yX13_isAhead ∈ wM := List.mem_append_right _ (List.mem_append_left _ (List.mem_of_getElem? (i := 165) rfl))
theorem wma166 : Cond.methodLink RX13 556 yX13_won ∈ wM := List.mem_append_right _ (List.mem_append_left _ (List.mem_of_getElem? (i := 166) rfl))
theorem wma167 : Cond.methodLink RX13 559 yX13_sum ∈ wM := List.mem_append_right _ (List.mem_append_left _ (List.mem_of_getElem? (i := 167) rfl))
theorem wma168 : Cond.methodLink RX13 562 yX13_alike ∈ wM := List.mem_append_right _ (List.mem_append_left _ (List.mem_of_getElem? (i := 168) rfl))
theorem wma169 : Cond.methodLink RX13 553 yX13_finalOf ∈ wM := List.mem_append_right _ (List.mem_append_left _ (List.mem_of_getElem? (i := 169) rfl))
theorem wma170 : Cond.constantLong RX13 569 (4) ∈ wM := List.mem_append_right _ (List.mem_append_left _ (List.mem_of_getElem? (i := 170) rfl))
theorem wma171 : Cond.constantLong RX13 571 (60) ∈ wM := List.mem_append_right _ (List.mem_append_left _ (List.mem_of_getElem? (i := 171) rfl))
theorem wma172 : Cond.methodLink RX13 573 yX13_tires ∈ wM := List.mem_append_right _ (List.mem_append_left _ (List.mem_of_getElem? (i := 172) rfl))
theorem wma173 : Cond.methodLink RX13 576 yX13_stage ∈ wM := List.mem_append_right _ (List.mem_append_left _ (List.mem_of_getElem? (i := 173) rfl))
theorem wma174 : Cond.methodLink RX13 579 yX13_mayBegin ∈ wM := List.mem_append_right _ (List.mem_append_left _ (List.mem_of_getElem? (i := 174) rfl))
theorem wma175 : Cond.methodLink RX13 587 yX13_isOver ∈ wM := List.mem_append_right _ (List.mem_append_left _ (List.mem_of_getElem? (i := 175) rfl))
theorem wma176 : Cond.constant RX13 582 (100000) ∈ wM := List.mem_append_right _ (List.mem_append_left _ (List.mem_of_getElem? (i := 176) rfl))
theorem wma177 : Cond.static yX13_in ∈ wM := List.mem_append_right _ (List.mem_append_left _ (List.mem_of_getElem? (i := 177) rfl))
theorem wma178 : Cond.instanceMethod yX13_anew ∈ wM := List.mem_append_right _ (List.mem_append_left _ (List.mem_of_getElem? (i := 178) rfl))
theorem wma179 : Cond.selects RX13 yX13_anew yX13_anew ∈ wM := List.mem_append_right _ (List.mem_append_left _ (List.mem_of_getElem? (i := 179) rfl))
theorem wma180 : Cond.static yX13_isClass ∈ wM := List.mem_append_right _ (List.mem_append_left _ (List.mem_of_getElem? (i := 180) rfl))
theorem wma181 : Cond.instanceMethod yX13_halving ∈ wM := List.mem_append_right _ (List.mem_append_left _ (List.mem_of_getElem? (i := 181) rfl))
theorem wma182 : Cond.selects RX13 yX13_halving yX13_halving ∈ wM := List.mem_append_right _ (List.mem_append_left _ (List.mem_of_getElem? (i := 182) rfl))
theorem wma183 : Cond.instanceMethod yX13_rounds ∈ wM := List.mem_append_right _ (List.mem_append_left _ (List.mem_of_getElem? (i := 183) rfl))
theorem wma184 : Cond.selects RX13 yX13_rounds yX13_rounds ∈ wM := List.mem_append_right _ (List.mem_append_left _ (List.mem_of_getElem? (i := 184) rfl))
theorem wma185 : Cond.instanceMethod yX13_fights ∈ wM := List.mem_append_right _ (List.mem_append_left _ (List.mem_of_getElem? (i := 185) rfl))
theorem wma186 : Cond.selects RX13 yX13_fights yX13_fights ∈ wM := List.mem_append_right _ (List.mem_append_left _ (List.mem_of_getElem? (i := 186) rfl))
theorem wma187 : Cond.instanceMethod yX13_isFight ∈ wM := List.mem_append_right _ (List.mem_append_left _ (List.mem_of_getElem? (i := 187) rfl))
theorem wma188 : Cond.selects RX13 yX13_isFight yX13_isFight ∈ wM := List.mem_append_right _ (List.mem_append_left _ (List.mem_of_getElem? (i := 188) rfl))
theorem wma189 : Cond.instanceMethod yX13_base ∈ wM := List.mem_append_right _ (List.mem_append_left _ (List.mem_of_getElem? (i := 189) rfl))
theorem wma190 : Cond.selects RX13 yX13_base yX13_base ∈ wM := List.mem_append_right _ (List.mem_append_left _ (List.mem_of_getElem? (i := 190) rfl))
theorem wma191 : Cond.instanceMethod yX13_isSecond ∈ wM := List.mem_append_right _ (List.mem_append_left _ (List.mem_of_getElem? (i := 191) rfl))
theorem wma192 : Cond.selects RX13 yX13_isSecond yX13_isSecond ∈ wM := List.mem_append_right _ (List.mem_append_left _ (List.mem_of_getElem? (i := 192) rfl))
theorem wma193 : Cond.instanceMethod yX13_finalOf ∈ wM := List.mem_append_right _ (List.mem_append_left _ (List.mem_of_getElem? (i := 193) rfl))
theorem wma194 : Cond.selects RX13 yX13_finalOf yX13_finalOf ∈ wM := List.mem_append_right _ (List.mem_append_left _ (List.mem_of_getElem? (i := 194) rfl))
theorem wma195 : Cond.instanceMethod yX13_roundOf ∈ wM := List.mem_append_right _ (List.mem_append_left _ (List.mem_of_getElem? (i := 195) rfl))
theorem wma196 : Cond.selects RX13 yX13_roundOf yX13_roundOf ∈ wM := List.mem_append_right _ (List.mem_append_left _ (List.mem_of_getElem? (i := 196) rfl))
theorem wma197 : Cond.instanceMethod yX13_halfOf ∈ wM := List.mem_append_right _ (List.mem_append_left _ (List.mem_of_getElem? (i := 197) rfl))
theorem wma198 : Cond.selects RX13 yX13_halfOf yX13_halfOf ∈ wM := List.mem_append_right _ (List.mem_append_left _ (List.mem_of_getElem? (i := 198) rfl))
theorem wma199 : Cond.instanceMethod yX13_stepOf ∈ wM := List.mem_append_right _ (List.mem_append_left _ (List.mem_of_getElem? (i := 199) rfl))
theorem wma200 : Cond.selects RX13 yX13_stepOf yX13_stepOf ∈ wM := List.mem_append_right _ (List.mem_append_left _ (List.mem_of_getElem? (i := 200) rfl))
theorem wma201 : Cond.instanceMethod yX13_sideOf ∈ wM := List.mem_append_right _ (List.mem_append_left _ (List.mem_of_getElem? (i := 201) rfl))
theorem wma202 : Cond.selects RX13 yX13_sideOf yX13_sideOf ∈ wM := List.mem_append_right _ (List.mem_append_left _ (List.mem_of_getElem? (i := 202) rfl))
theorem wma203 : Cond.instanceMethod yX13_pair ∈ wM := List.mem_append_right _ (List.mem_append_left _ (List.mem_of_getElem? (i := 203) rfl))
theorem wma204 : Cond.selects RX13 yX13_pair yX13_pair ∈ wM := List.mem_append_right _ (List.mem_append_left _ (List.mem_of_getElem? (i := 204) rfl))
theorem wma205 : Cond.instanceMethod yX13_second ∈ wM := List.mem_append_right _ (List.mem_append_left _ (List.mem_of_getElem? (i := 205) rfl))
theorem wma206 : Cond.selects RX13 yX13_second yX13_second ∈ wM := List.mem_append_right _ (List.mem_append_left _ (List.mem_of_getElem? (i := 206) rfl))
theorem wma207 : Cond.instanceMethod yX13_loserTo ∈ wM := List.mem_append_right _ (List.mem_append_left _ (List.mem_of_getElem? (i := 207) rfl))
theorem wma208 : Cond.selects RX13 yX13_loserTo yX13_loserTo ∈ wM := List.mem_append_right _ (List.mem_append_left _ (List.mem_of_getElem? (i := 208) rfl))
theorem wma209 : Cond.instanceMethod yX13_winnerOf ∈ wM := List.mem_append_right _ (List.mem_append_left _ (List.mem_of_getElem? (i := 209) rfl))
theorem wma210 : Cond.selects RX13 yX13_winnerOf yX13_winnerOf ∈ wM := List.mem_append_right _ (List.mem_append_left _ (List.mem_of_getElem? (i := 210) rfl))
theorem wma211 : Cond.instanceMethod yX13_isWalk ∈ wM := List.mem_append_right _ (List.mem_append_left _ (List.mem_of_getElem? (i := 211) rfl))
theorem wma212 : Cond.selects RX13 yX13_isWalk yX13_isWalk ∈ wM := List.mem_append_right _ (List.mem_append_left _ (List.mem_of_getElem? (i := 212) rfl))
theorem wma213 : Cond.instanceMethod yX13_isReady ∈ wM := List.mem_append_right _ (List.mem_append_left _ (List.mem_of_getElem? (i := 213) rfl))
theorem wma214 : Cond.selects RX13 yX13_isReady yX13_isReady ∈ wM := List.mem_append_right _ (List.mem_append_left _ (List.mem_of_getElem? (i := 214) rfl))
theorem wma215 : Cond.instanceMethod yX13_holds ∈ wM := List.mem_append_right _ (List.mem_append_left _ (List.mem_of_getElem? (i := 215) rfl))
theorem wma216 : Cond.selects RX13 yX13_holds yX13_holds ∈ wM := List.mem_append_right _ (List.mem_append_left _ (List.mem_of_getElem? (i := 216) rfl))
theorem wma217 : Cond.instanceMethod yX13_termOf ∈ wM := List.mem_append_right _ (List.mem_append_left _ (List.mem_of_getElem? (i := 217) rfl))
theorem wma218 : Cond.selects RX13 yX13_termOf yX13_termOf ∈ wM := List.mem_append_right _ (List.mem_append_left _ (List.mem_of_getElem? (i := 218) rfl))
theorem wma219 : Cond.static yX13_joined ∈ wM := List.mem_append_right _ (List.mem_append_left _ (List.mem_of_getElem? (i := 219) rfl))
theorem wma220 : Cond.instanceMethod yX13_wrong ∈ wM := List.mem_append_right _ (List.mem_append_left _ (List.mem_of_getElem? (i := 220) rfl))
theorem wma221 : Cond.selects RX13 yX13_wrong yX13_wrong ∈ wM := List.mem_append_right _ (List.mem_append_left _ (List.mem_of_getElem? (i := 221) rfl))
theorem wma222 : Cond.instanceMethod yX13_byteAt ∈ wM := List.mem_append_right _ (List.mem_append_left _ (List.mem_of_getElem? (i := 222) rfl))
theorem wma223 : Cond.selects RX13 yX13_byteAt yX13_byteAt ∈ wM := List.mem_append_right _ (List.mem_append_left _ (List.mem_of_getElem? (i := 223) rfl))
theorem wma224 : Cond.static yX13_isLetter ∈ wM := List.mem_append_right _ (List.mem_append_left _ (List.mem_of_getElem? (i := 224) rfl))
theorem wma225 : Cond.static yX13_isDigit ∈ wM := List.mem_append_right _ (List.mem_append_left _ (List.mem_of_getElem? (i := 225) rfl))
theorem wma226 : Cond.instanceMethod yX13_scan ∈ wM := List.mem_append_right _ (List.mem_append_left _ (List.mem_of_getElem? (i := 226) rfl))
theorem wma227 : Cond.selects RX13 yX13_scan yX13_scan ∈ wM := List.mem_append_right _ (List.mem_append_left _ (List.mem_of_getElem? (i := 227) rfl))
theorem wma228 : Cond.instanceMethod yX13_isText ∈ wM := List.mem_append_right _ (List.mem_append_left _ (List.mem_of_getElem? (i := 228) rfl))
theorem wma229 : Cond.selects RX13 yX13_isText yX13_isText ∈ wM := List.mem_append_right _ (List.mem_append_left _ (List.mem_of_getElem? (i := 229) rfl))
theorem wma230 : Cond.instanceMethod yX13_is ∈ wM := List.mem_append_right _ (List.mem_append_left _ (List.mem_of_getElem? (i := 230) rfl))
theorem wma231 : Cond.selects RX13 yX13_is yX13_is ∈ wM := List.mem_append_right _ (List.mem_append_left _ (List.mem_of_getElem? (i := 231) rfl))
theorem wma232 : Cond.instanceMethod yX13_need ∈ wM := List.mem_append_right _ (List.mem_append_left _ (List.mem_of_getElem? (i := 232) rfl))
theorem wma233 : Cond.selects RX13 yX13_need yX13_need ∈ wM := List.mem_append_right _ (List.mem_append_left _ (List.mem_of_getElem? (i := 233) rfl))
theorem wma234 : Cond.instanceMethod yX13_number ∈ wM := List.mem_append_right _ (List.mem_append_left _ (List.mem_of_getElem? (i := 234) rfl))
theorem wma235 : Cond.selects RX13 yX13_number yX13_number ∈ wM := List.mem_append_right _ (List.mem_append_left _ (List.mem_of_getElem? (i := 235) rfl))
theorem wma236 : Cond.instanceMethod yX13_isQuoted ∈ wM := List.mem_append_right _ (List.mem_append_left _ (List.mem_of_getElem? (i := 236) rfl))
theorem wma237 : Cond.selects RX13 yX13_isQuoted yX13_isQuoted ∈ wM := List.mem_append_right _ (List.mem_append_left _ (List.mem_of_getElem? (i := 237) rfl))
theorem wma238 : Cond.instanceMethod yX13_findSign ∈ wM := List.mem_append_right _ (List.mem_append_left _ (List.mem_of_getElem? (i := 238) rfl))
theorem wma239 : Cond.selects RX13 yX13_findSign yX13_findSign ∈ wM := List.mem_append_right _ (List.mem_append_left _ (List.mem_of_getElem? (i := 239) rfl))
theorem wma240 : Cond.instanceMethod yX13_name ∈ wM := List.mem_append_right _ (List.mem_append_left _ (List.mem_of_getElem? (i := 240) rfl))
theorem wma241 : Cond.selects RX13 yX13_name yX13_name ∈ wM := List.mem_append_right _ (List.mem_append_left _ (List.mem_of_getElem? (i := 241) rfl))
theorem wma242 : Cond.instanceMethod yX13_readLaws ∈ wM := List.mem_append_right _ (List.mem_append_left _ (List.mem_of_getElem? (i := 242) rfl))
theorem wma243 : Cond.selects RX13 yX13_readLaws yX13_readLaws ∈ wM := List.mem_append_right _ (List.mem_append_left _ (List.mem_of_getElem? (i := 243) rfl))
theorem wma244 : Cond.instanceMethod yX13_counts ∈ wM := List.mem_append_right _ (List.mem_append_left _ (List.mem_of_getElem? (i := 244) rfl))
theorem wma245 : Cond.selects RX13 yX13_counts yX13_counts ∈ wM := List.mem_append_right _ (List.mem_append_left _ (List.mem_of_getElem? (i := 245) rfl))
theorem wma246 : Cond.instanceMethod yX13_put ∈ wM := List.mem_append_right _ (List.mem_append_left _ (List.mem_of_getElem? (i := 246) rfl))
theorem wma247 : Cond.selects RX13 yX13_put yX13_put ∈ wM := List.mem_append_right _ (List.mem_append_left _ (List.mem_of_getElem? (i := 247) rfl))
theorem wma248 : Cond.instanceMethod yX13_hold ∈ wM := List.mem_append_right _ (List.mem_append_left _ (List.mem_of_getElem? (i := 248) rfl))
theorem wma249 : Cond.selects RX13 yX13_hold yX13_hold ∈ wM := List.mem_append_right _ (List.mem_append_left _ (List.mem_of_getElem? (i := 249) rfl))
theorem wma250 : Cond.instanceMethod yX13_release ∈ wM := List.mem_append_right _ (List.mem_append_left _ (List.mem_of_getElem? (i := 250) rfl))
theorem wma251 : Cond.selects RX13 yX13_release yX13_release ∈ wM := List.mem_append_right _ (List.mem_append_left _ (List.mem_of_getElem? (i := 251) rfl))
theorem wma252 : Cond.instanceMethod yX13_readOr ∈ wM := List.mem_append_right _ (List.mem_append_left _ (List.mem_of_getElem? (i := 252) rfl))
theorem wma253 : Cond.selects RX13 yX13_readOr yX13_readOr ∈ wM := List.mem_append_right _ (List.mem_append_left _ (List.mem_of_getElem? (i := 253) rfl))
theorem wma254 : Cond.instanceMethod yX13_readAnd ∈ wM := List.mem_append_right _ (List.mem_append_left _ (List.mem_of_getElem? (i := 254) rfl))
theorem wma255 : Cond.selects RX13 yX13_readAnd yX13_readAnd ∈ wM := List.mem_append_right _ (List.mem_append_left _ (List.mem_of_getElem? (i := 255) rfl))
theorem wma256 : Cond.instanceMethod yX13_opens ∈ wM := List.mem_append_right _ (List.mem_append_left _ (List.mem_of_getElem? (i := 256) rfl))
theorem wma257 : Cond.selects RX13 yX13_opens yX13_opens ∈ wM := List.mem_append_right _ (List.mem_append_left _ (List.mem_of_getElem? (i := 257) rfl))
theorem wma258 : Cond.instanceMethod yX13_readNot ∈ wM := List.mem_append_right _ (List.mem_append_left _ (List.mem_of_getElem? (i := 258) rfl))
theorem wma259 : Cond.selects RX13 yX13_readNot yX13_readNot ∈ wM := List.mem_append_right _ (List.mem_append_left _ (List.mem_of_getElem? (i := 259) rfl))
theorem wma260 : Cond.instanceMethod yX13_readSum ∈ wM := List.mem_append_right _ (List.mem_append_left _ (List.mem_of_getElem? (i := 260) rfl))
theorem wma261 : Cond.selects RX13 yX13_readSum yX13_readSum ∈ wM := List.mem_append_right _ (List.mem_append_left _ (List.mem_of_getElem? (i := 261) rfl))
theorem wma262 : Cond.instanceMethod yX13_readTerm ∈ wM := List.mem_append_right _ (List.mem_append_left _ (List.mem_of_getElem? (i := 262) rfl))
theorem wma263 : Cond.selects RX13 yX13_readTerm yX13_readTerm ∈ wM := List.mem_append_right _ (List.mem_append_left _ (List.mem_of_getElem? (i := 263) rfl))
theorem wma264 : Cond.instanceMethod yX13_act ∈ wM := List.mem_append_right _ (List.mem_append_left _ (List.mem_of_getElem? (i := 264) rfl))
theorem wma265 : Cond.selects RX13 yX13_act yX13_act ∈ wM := List.mem_append_right _ (List.mem_append_left _ (List.mem_of_getElem? (i := 265) rfl))
theorem wma266 : Cond.instanceMethod yX13_does ∈ wM := List.mem_append_right _ (List.mem_append_left _ (List.mem_of_getElem? (i := 266) rfl))
theorem wma267 : Cond.selects RX13 yX13_does yX13_does ∈ wM := List.mem_append_right _ (List.mem_append_left _ (List.mem_of_getElem? (i := 267) rfl))
theorem wma270 : Cond.instanceMethod yX13_takeLaws ∈ wM := List.mem_append_right _ (List.mem_append_left _ (List.mem_of_getElem? (i := 270) rfl))
theorem wma271 : Cond.selects RX13 yX13_takeLaws yX13_takeLaws ∈ wM := List.mem_append_right _ (List.mem_append_left _ (List.mem_of_getElem? (i := 271) rfl))
theorem wma272 : Cond.instanceMethod yX13_lawsAgain ∈ wM := List.mem_append_right _ (List.mem_append_left _ (List.mem_of_getElem? (i := 272) rfl))
theorem wma273 : Cond.selects RX13 yX13_lawsAgain yX13_lawsAgain ∈ wM := List.mem_append_right _ (List.mem_append_left _ (List.mem_of_getElem? (i := 273) rfl))
theorem wma278 : Cond.instanceMethod yX13_lay ∈ wM := List.mem_append_right _ (List.mem_append_left _ (List.mem_of_getElem? (i := 278) rfl))
theorem wma279 : Cond.selects RX13 yX13_lay yX13_lay ∈ wM := List.mem_append_right _ (List.mem_append_left _ (List.mem_of_getElem? (i := 279) rfl))
theorem wma284 : Cond.instanceMethod yX13_isFighter ∈ wM := List.mem_append_right _ (List.mem_append_left _ (List.mem_of_getElem? (i := 284) rfl))
theorem wma285 : Cond.selects RX13 yX13_isFighter yX13_isFighter ∈ wM := List.mem_append_right _ (List.mem_append_left _ (List.mem_of_getElem? (i := 285) rfl))
theorem wma290 : Cond.instanceMethod yX13_comes ∈ wM := List.mem_append_right _ (List.mem_append_left _ (List.mem_of_getElem? (i := 290) rfl))
theorem wma291 : Cond.selects RX13 yX13_comes yX13_comes ∈ wM := List.mem_append_right _ (List.mem_append_left _ (List.mem_of_getElem? (i := 291) rfl))
theorem wma296 : Cond.instanceMethod yX13_weighed ∈ wM := List.mem_append_right _ (List.mem_append_left _ (List.mem_of_getElem? (i := 296) rfl))
theorem wma297 : Cond.selects RX13 yX13_weighed yX13_weighed ∈ wM := List.mem_append_right _ (List.mem_append_left _ (List.mem_of_getElem? (i := 297) rfl))
theorem wma300 : Cond.instanceMethod yX13_makeRow ∈ wM := List.mem_append_right _ (List.mem_append_left _ (List.mem_of_getElem? (i := 300) rfl))
theorem wma301 : Cond.selects RX13 yX13_makeRow yX13_makeRow ∈ wM := List.mem_append_right _ (List.mem_append_left _ (List.mem_of_getElem? (i := 301) rfl))
theorem wma302 : Cond.instanceMethod yX13_draws ∈ wM := List.mem_append_right _ (List.mem_append_left _ (List.mem_of_getElem? (i := 302) rfl))
theorem wma303 : Cond.selects RX13 yX13_draws yX13_draws ∈ wM := List.mem_append_right _ (List.mem_append_left _ (List.mem_of_getElem? (i := 303) rfl))
theorem wma304 : Cond.instanceMethod yX13_isOther ∈ wM := List.mem_append_right _ (List.mem_append_left _ (List.mem_of_getElem? (i := 304) rfl))
theorem wma305 : Cond.selects RX13 yX13_isOther yX13_isOther ∈ wM := List.mem_append_right _ (List.mem_append_left _ (List.mem_of_getElem? (i := 305) rfl))
theorem wma306 : Cond.instanceMethod yX13_settle ∈ wM := List.mem_append_right _ (List.mem_append_left _ (List.mem_of_getElem? (i := 306) rfl))
theorem wma307 : Cond.selects RX13 yX13_settle yX13_settle ∈ wM := List.mem_append_right _ (List.mem_append_left _ (List.mem_of_getElem? (i := 307) rfl))
theorem wma308 : Cond.instanceMethod yX13_bestPlace ∈ wM := List.mem_append_right _ (List.mem_append_left _ (List.mem_of_getElem? (i := 308) rfl))
theorem wma309 : Cond.selects RX13 yX13_bestPlace yX13_bestPlace ∈ wM := List.mem_append_right _ (List.mem_append_left _ (List.mem_of_getElem? (i := 309) rfl))
theorem wma312 : Cond.instanceMethod yX13_about ∈ wM := List.mem_append_right _ (List.mem_append_left _ (List.mem_of_getElem? (i := 312) rfl))
theorem wma313 : Cond.selects RX13 yX13_about yX13_about ∈ wM := List.mem_append_right _ (List.mem_append_left _ (List.mem_of_getElem? (i := 313) rfl))
theorem wma314 : Cond.instanceMethod yX13_matOf ∈ wM := List.mem_append_right _ (List.mem_append_left _ (List.mem_of_getElem? (i := 314) rfl))
theorem wma315 : Cond.selects RX13 yX13_matOf yX13_matOf ∈ wM := List.mem_append_right _ (List.mem_append_left _ (List.mem_of_getElem? (i := 315) rfl))
theorem wma322 : Cond.static yX13_isMat ∈ wM := List.mem_append_right _ (List.mem_append_left _ (List.mem_of_getElem? (i := 322) rfl))
theorem wma323 : Cond.instanceMethod yX13_rests ∈ wM := List.mem_append_right _ (List.mem_append_left _ (List.mem_of_getElem? (i := 323) rfl))
theorem wma324 : Cond.selects RX13 yX13_rests yX13_rests ∈ wM := List.mem_append_right _ (List.mem_append_left _ (List.mem_of_getElem? (i := 324) rfl))
theorem wma327 : Cond.instanceMethod yX13_begins ∈ wM := List.mem_append_right _ (List.mem_append_left _ (List.mem_of_getElem? (i := 327) rfl))
theorem wma328 : Cond.selects RX13 yX13_begins yX13_begins ∈ wM := List.mem_append_right _ (List.mem_append_left _ (List.mem_of_getElem? (i := 328) rfl))
theorem wma329 : Cond.instanceMethod yX13_asked ∈ wM := List.mem_append_right _ (List.mem_append_left _ (List.mem_of_getElem? (i := 329) rfl))
theorem wma330 : Cond.selects RX13 yX13_asked yX13_asked ∈ wM := List.mem_append_right _ (List.mem_append_left _ (List.mem_of_getElem? (i := 330) rfl))
theorem wma331 : Cond.instanceMethod yX13_passes ∈ wM := List.mem_append_right _ (List.mem_append_left _ (List.mem_of_getElem? (i := 331) rfl))
theorem wma332 : Cond.selects RX13 yX13_passes yX13_passes ∈ wM := List.mem_append_right _ (List.mem_append_left _ (List.mem_of_getElem? (i := 332) rfl))
theorem wma333 : Cond.instanceMethod yX13_goesOver ∈ wM := List.mem_append_right _ (List.mem_append_left _ (List.mem_of_getElem? (i := 333) rfl))
theorem wma334 : Cond.selects RX13 yX13_goesOver yX13_goesOver ∈ wM := List.mem_append_right _ (List.mem_append_left _ (List.mem_of_getElem? (i := 334) rfl))
theorem wma335 : Cond.instanceMethod yX13_ends ∈ wM := List.mem_append_right _ (List.mem_append_left _ (List.mem_of_getElem? (i := 335) rfl))
theorem wma336 : Cond.selects RX13 yX13_ends yX13_ends ∈ wM := List.mem_append_right _ (List.mem_append_left _ (List.mem_of_getElem? (i := 336) rfl))
theorem wma347 : Cond.instanceMethod yX13_struck ∈ wM := List.mem_append_right _ (List.mem_append_left _ (List.mem_of_getElem? (i := 347) rfl))
theorem wma348 : Cond.selects RX13 yX13_struck yX13_struck ∈ wM := List.mem_append_right _ (List.mem_append_left _ (List.mem_of_getElem? (i := 348) rfl))
theorem wma351 : Cond.instanceMethod yX13_won ∈ wM := List.mem_append_right _ (List.mem_append_left _ (List.mem_of_getElem? (i := 351) rfl))
theorem wma352 : Cond.selects RX13 yX13_won yX13_won ∈ wM := List.mem_append_right _ (List.mem_append_left _ (List.mem_of_getElem? (i := 352) rfl))
theorem wma353 : Cond.instanceMethod yX13_sum ∈ wM := List.mem_append_right _ (List.mem_append_left _ (List.mem_of_getElem? (i := 353) rfl))
theorem wma354 : Cond.selects RX13 yX13_sum yX13_sum ∈ wM := List.mem_append_right _ (List.mem_append_left _ (List.mem_of_getElem? (i := 354) rfl))
theorem wma355 : Cond.instanceMethod yX13_alike ∈ wM := List.mem_append_right _ (List.mem_append_left _ (List.mem_of_getElem? (i := 355) rfl))
theorem wma356 : Cond.selects RX13 yX13_alike yX13_alike ∈ wM := List.mem_append_right _ (List.mem_append_left _ (List.mem_of_getElem? (i := 356) rfl))
theorem wma357 : Cond.instanceMethod yX13_isAhead ∈ wM := List.mem_append_right _ (List.mem_append_left _ (List.mem_of_getElem? (i := 357) rfl))
theorem wma358 : Cond.selects RX13 yX13_isAhead yX13_isAhead ∈ wM := List.mem_append_right _ (List.mem_append_left _ (List.mem_of_getElem? (i := 358) rfl))
theorem wma359 : Cond.instanceMethod yX13_ordered ∈ wM := List.mem_append_right _ (List.mem_append_left _ (List.mem_of_getElem? (i := 359) rfl))
theorem wma360 : Cond.selects RX13 yX13_ordered yX13_ordered ∈ wM := List.mem_append_right _ (List.mem_append_left _ (List.mem_of_getElem? (i := 360) rfl))
theorem wma361 : Cond.instanceMethod yX13_stage ∈ wM := List.mem_append_right _ (List.mem_append_left _ (List.mem_of_getElem? (i := 361) rfl))
theorem wma362 : Cond.selects RX13 yX13_stage yX13_stage ∈ wM := List.mem_append_right _ (List.mem_append_left _ (List.mem_of_getElem? (i := 362) rfl))
theorem wma365 : Cond.instanceMethod yX13_tires ∈ wM := List.mem_append_right _ (List.mem_append_left _ (List.mem_of_getElem? (i := 365) rfl))
theorem wma366 : Cond.selects RX13 yX13_tires yX13_tires ∈ wM := List.mem_append_right _ (List.mem_append_left _ (List.mem_of_getElem? (i := 366) rfl))
theorem wma367 : Cond.instanceMethod yX13_isOver ∈ wM := List.mem_append_right _ (List.mem_append_left _ (List.mem_of_getElem? (i := 367) rfl))
theorem wma368 : Cond.selects RX13 yX13_isOver yX13_isOver ∈ wM := List.mem_append_right _ (List.mem_append_left _ (List.mem_of_getElem? (i := 368) rfl))
theorem wma369 : Cond.instanceMethod yX13_mayBegin ∈ wM := List.mem_append_right _ (List.mem_append_left _ (List.mem_of_getElem? (i := 369) rfl))
theorem wma370 : Cond.selects RX13 yX13_mayBegin yX13_mayBegin ∈ wM := List.mem_append_right _ (List.mem_append_left _ (List.mem_of_getElem? (i := 370) rfl))
theorem wma375 : Cond.initialized RX13 ∈ wM := List.mem_append_right _ (List.mem_append_left _ (List.mem_of_getElem? (i := 375) rfl))
theorem wma376 : Cond.static Lib.Math.max.name ∈ wM := List.mem_append_right _ (List.mem_append_left _ (List.mem_of_getElem? (i := 376) rfl))
theorem wma377 : Cond.static Lib.Math.min.name ∈ wM := List.mem_append_right _ (List.mem_append_left _ (List.mem_of_getElem? (i := 377) rfl))
theorem wma378 : Cond.initialized RJ9 ∈ wM := List.mem_append_right _ (List.mem_append_left _ (List.mem_of_getElem? (i := 378) rfl))
theorem wma379 : Cond.code Lib.Math.max.name Lib.Math.max.code 2 (some .int) ∈ wM := List.mem_append_right _ (List.mem_append_left _ (List.mem_of_getElem? (i := 379) rfl))
theorem wma380 : Cond.code Lib.Math.min.name Lib.Math.min.code 2 (some .int) ∈ wM := List.mem_append_right _ (List.mem_append_left _ (List.mem_of_getElem? (i := 380) rfl))
theorem wmc_X13_in : Cond.code yX13_in cX13_in 6 (some .boolean) ∈ wM := List.mem_append_right _ (List.mem_append_right _ (List.mem_append_left _ (List.mem_of_getElem? (i := 0) rfl)))
theorem wmc_X13_anew : Cond.code yX13_anew cX13_anew 3 none ∈ wM := List.mem_append_right _ (List.mem_append_right _ (List.mem_append_left _ (List.mem_of_getElem? (i := 1) rfl)))
theorem wmc_X13_isClass : Cond.code yX13_isClass cX13_isClass 1 (some .boolean) ∈ wM := List.mem_append_right _ (List.mem_append_right _ (List.mem_append_left _ (List.mem_of_getElem? (i := 2) rfl)))
theorem wmc_X13_halving : Cond.code yX13_halving cX13_halving 3 (some .int) ∈ wM := List.mem_append_right _ (List.mem_append_right _ (List.mem_append_left _ (List.mem_of_getElem? (i := 3) rfl)))
theorem wmc_X13_rounds : Cond.code yX13_rounds cX13_rounds 2 (some .int) ∈ wM := List.mem_append_right _ (List.mem_append_right _ (List.mem_append_left _ (List.mem_of_getElem? (i := 4) rfl)))
theorem wmc_X13_fights : Cond.code yX13_fights cX13_fights 3 (some .int) ∈ wM := List.mem_append_right _ (List.mem_append_right _ (List.mem_append_left _ (List.mem_of_getElem? (i := 5) rfl)))
theorem wmc_X13_isFight : Cond.code yX13_isFight cX13_isFight 3 (some .boolean) ∈ wM := List.mem_append_right _ (List.mem_append_right _ (List.mem_append_left _ (List.mem_of_getElem? (i := 6) rfl)))
theorem wmc_X13_base : Cond.code yX13_base cX13_base 3 (some .int) ∈ wM := List.mem_append_right _ (List.mem_append_right _ (List.mem_append_left _ (List.mem_of_getElem? (i := 7) rfl)))
theorem wmc_X13_isSecond : Cond.code yX13_isSecond cX13_isSecond 3 (some .boolean) ∈ wM := List.mem_append_right _ (List.mem_append_right _ (List.mem_append_left _ (List.mem_of_getElem? (i := 8) rfl)))
theorem wmc_X13_finalOf : Cond.code yX13_finalOf cX13_finalOf 2 (some .int) ∈ wM := List.mem_append_right _ (List.mem_append_right _ (List.mem_append_left _ (List.mem_of_getElem? (i := 9) rfl)))
theorem wmc_X13_roundOf : Cond.code yX13_roundOf cX13_roundOf 4 (some .int) ∈ wM := List.mem_append_right _ (List.mem_append_right _ (List.mem_append_left _ (List.mem_of_getElem? (i := 10) rfl)))
theorem wmc_X13_halfOf : Cond.code yX13_halfOf cX13_halfOf 3 (some .int) ∈ wM := List.mem_append_right _ (List.mem_append_right _ (List.mem_append_left _ (List.mem_of_getElem? (i := 11) rfl)))
theorem wmc_X13_stepOf : Cond.code yX13_stepOf cX13_stepOf 3 (some .int) ∈ wM := List.mem_append_right _ (List.mem_append_right _ (List.mem_append_left _ (List.mem_of_getElem? (i := 12) rfl)))
theorem wmc_X13_sideOf : Cond.code yX13_sideOf cX13_sideOf 7 (some .int) ∈ wM := List.mem_append_right _ (List.mem_append_right _ (List.mem_append_left _ (List.mem_of_getElem? (i := 13) rfl)))
theorem wmc_X13_pair : Cond.code yX13_pair cX13_pair 6 (some .int) ∈ wM := List.mem_append_right _ (List.mem_append_right _ (List.mem_append_left _ (List.mem_of_getElem? (i := 14) rfl)))
theorem wmc_X13_second : Cond.code yX13_second cX13_second 5 (some .int) ∈ wM := List.mem_append_right _ (List.mem_append_right _ (List.mem_append_left _ (List.mem_of_getElem? (i := 15) rfl)))
theorem wmc_X13_loserTo : Cond.code yX13_loserTo cX13_loserTo 7 (some .int) ∈ wM := List.mem_append_right _ (List.mem_append_right _ (List.mem_append_left _ (List.mem_of_getElem? (i := 16) rfl)))
theorem wmc_X13_winnerOf : Cond.code yX13_winnerOf cX13_winnerOf 5 (some .int) ∈ wM := List.mem_append_right _ (List.mem_append_right _ (List.mem_append_left _ (List.mem_of_getElem? (i := 17) rfl)))
theorem wmc_X13_isWalk : Cond.code yX13_isWalk cX13_isWalk 5 (some .boolean) ∈ wM := List.mem_append_right _ (List.mem_append_right _ (List.mem_append_left _ (List.mem_of_getElem? (i := 18) rfl)))
theorem wmc_X13_isReady : Cond.code yX13_isReady cX13_isReady 3 (some .boolean) ∈ wM := List.mem_append_right _ (List.mem_append_right _ (List.mem_append_left _ (List.mem_of_getElem? (i := 19) rfl)))
theorem wmc_X13_holds : Cond.code yX13_holds cX13_holds 7 (some .boolean) ∈ wM := List.mem_append_right _ (List.mem_append_right _ (List.mem_append_left _ (List.mem_of_getElem? (i := 20) rfl)))
theorem wmc_X13_termOf : Cond.code yX13_termOf cX13_termOf 5 (some .int) ∈ wM := List.mem_append_right _ (List.mem_append_right _ (List.mem_append_left _ (List.mem_of_getElem? (i := 21) rfl)))
theorem wmc_X13_joined : Cond.code yX13_joined cX13_joined 3 (some .int) ∈ wM := List.mem_append_right _ (List.mem_append_right _ (List.mem_append_left _ (List.mem_of_getElem? (i := 22) rfl)))
theorem wmc_X13_wrong : Cond.code yX13_wrong cX13_wrong 3 (some (.object "JudoHallModel$Stop")) ∈ wM := List.mem_append_right _ (List.mem_append_right _ (List.mem_append_left _ (List.mem_of_getElem? (i := 23) rfl)))
theorem wmc_X13_byteAt : Cond.code yX13_byteAt cX13_byteAt 2 (some .int) ∈ wM := List.mem_append_right _ (List.mem_append_right _ (List.mem_append_left _ (List.mem_of_getElem? (i := 24) rfl)))
theorem wmc_X13_isLetter : Cond.code yX13_isLetter cX13_isLetter 1 (some .boolean) ∈ wM := List.mem_append_right _ (List.mem_append_right _ (List.mem_append_left _ (List.mem_of_getElem? (i := 25) rfl)))
theorem wmc_X13_isDigit : Cond.code yX13_isDigit cX13_isDigit 1 (some .boolean) ∈ wM := List.mem_append_right _ (List.mem_append_right _ (List.mem_append_left _ (List.mem_of_getElem? (i := 26) rfl)))
theorem wmc_X13_scan : Cond.code yX13_scan cX13_scan 3 none ∈ wM := List.mem_append_right _ (List.mem_append_right _ (List.mem_append_left _ (List.mem_of_getElem? (i := 27) rfl)))
theorem wmc_X13_isText : Cond.code yX13_isText cX13_isText 4 (some .boolean) ∈ wM := List.mem_append_right _ (List.mem_append_right _ (List.mem_append_left _ (List.mem_of_getElem? (i := 28) rfl)))
theorem wmc_X13_is : Cond.code yX13_is cX13_is 2 (some .boolean) ∈ wM := List.mem_append_right _ (List.mem_append_right _ (List.mem_append_left _ (List.mem_of_getElem? (i := 29) rfl)))
theorem wmc_X13_need : Cond.code yX13_need cX13_need 2 none ∈ wM := List.mem_append_right _ (List.mem_append_right _ (List.mem_append_left _ (List.mem_of_getElem? (i := 30) rfl)))
theorem wmc_X13_number : Cond.code yX13_number cX13_number 2 (some .int) ∈ wM := List.mem_append_right _ (List.mem_append_right _ (List.mem_append_left _ (List.mem_of_getElem? (i := 31) rfl)))
theorem wmc_X13_isQuoted : Cond.code yX13_isQuoted cX13_isQuoted 1 (some .boolean) ∈ wM := List.mem_append_right _ (List.mem_append_right _ (List.mem_append_left _ (List.mem_of_getElem? (i := 32) rfl)))
theorem wmc_X13_findSign : Cond.code yX13_findSign cX13_findSign 4 (some .int) ∈ wM := List.mem_append_right _ (List.mem_append_right _ (List.mem_append_left _ (List.mem_of_getElem? (i := 33) rfl)))
theorem wmc_X13_name : Cond.code yX13_name cX13_name 1 none ∈ wM := List.mem_append_right _ (List.mem_append_right _ (List.mem_append_left _ (List.mem_of_getElem? (i := 34) rfl)))
theorem wmc_X13_readLaws : Cond.code yX13_readLaws cX13_readLaws 2 none ∈ wM := List.mem_append_right _ (List.mem_append_right _ (List.mem_append_left _ (List.mem_of_getElem? (i := 35) rfl)))
theorem wmc_X13_counts : Cond.code yX13_counts cX13_counts 1 none ∈ wM := List.mem_append_right _ (List.mem_append_right _ (List.mem_append_left _ (List.mem_of_getElem? (i := 36) rfl)))
theorem wmc_X13_put : Cond.code yX13_put cX13_put 3 none ∈ wM := List.mem_append_right _ (List.mem_append_right _ (List.mem_append_left _ (List.mem_of_getElem? (i := 37) rfl)))
theorem wmc_X13_hold : Cond.code yX13_hold cX13_hold 1 none ∈ wM := List.mem_append_right _ (List.mem_append_right _ (List.mem_append_left _ (List.mem_of_getElem? (i := 38) rfl)))
theorem wmc_X13_release : Cond.code yX13_release cX13_release 2 none ∈ wM := List.mem_append_right _ (List.mem_append_right _ (List.mem_append_left _ (List.mem_of_getElem? (i := 39) rfl)))
theorem wmc_X13_readOr : Cond.code yX13_readOr cX13_readOr 1 none ∈ wM := List.mem_append_right _ (List.mem_append_right _ (List.mem_append_left _ (List.mem_of_getElem? (i := 40) rfl)))
theorem wmc_X13_readAnd : Cond.code yX13_readAnd cX13_readAnd 1 none ∈ wM := List.mem_append_right _ (List.mem_append_right _ (List.mem_append_left _ (List.mem_of_getElem? (i := 41) rfl)))
theorem wmc_X13_opens : Cond.code yX13_opens cX13_opens 1 none ∈ wM := List.mem_append_right _ (List.mem_append_right _ (List.mem_append_left _ (List.mem_of_getElem? (i := 42) rfl)))
theorem wmc_X13_readNot : Cond.code yX13_readNot cX13_readNot 2 none ∈ wM := List.mem_append_right _ (List.mem_append_right _ (List.mem_append_left _ (List.mem_of_getElem? (i := 43) rfl)))
theorem wmc_X13_readSum : Cond.code yX13_readSum cX13_readSum 2 none ∈ wM := List.mem_append_right _ (List.mem_append_right _ (List.mem_append_left _ (List.mem_of_getElem? (i := 44) rfl)))
theorem wmc_X13_readTerm : Cond.code yX13_readTerm cX13_readTerm 3 none ∈ wM := List.mem_append_right _ (List.mem_append_right _ (List.mem_append_left _ (List.mem_of_getElem? (i := 45) rfl)))
theorem wmc_X13_act : Cond.code yX13_act cX13_act 5 (some .int) ∈ wM := List.mem_append_right _ (List.mem_append_right _ (List.mem_append_left _ (List.mem_of_getElem? (i := 46) rfl)))
theorem wmc_X13_does : Cond.code yX13_does cX13_does 7 (some .int) ∈ wM := List.mem_append_right _ (List.mem_append_right _ (List.mem_append_left _ (List.mem_of_getElem? (i := 47) rfl)))
theorem wmc_X13_undo : Cond.code yX13_undo cX13_undo 3 (some .int) ∈ wM := List.mem_append_right _ (List.mem_append_right _ (List.mem_append_left _ (List.mem_of_getElem? (i := 48) rfl)))
theorem wmc_X13_takeLaws : Cond.codeWith yX13_takeLaws cX13_takeLaws 6 (some .int) [(51, 55, 58, 105)] ∈ wM := List.mem_append_right _ (List.mem_append_right _ (List.mem_append_left _ (List.mem_of_getElem? (i := 49) rfl)))
theorem wmc_X13_lawsAgain : Cond.code yX13_lawsAgain cX13_lawsAgain 3 none ∈ wM := List.mem_append_right _ (List.mem_append_right _ (List.mem_append_left _ (List.mem_of_getElem? (i := 50) rfl)))
theorem wmc_X13_laws : Cond.codeWith yX13_laws cX13_laws 6 (some .int) [(75, 79, 82, 105)] ∈ wM := List.mem_append_right _ (List.mem_append_right _ (List.mem_append_left _ (List.mem_of_getElem? (i := 51) rfl)))
theorem wmc_X13_feed : Cond.code yX13_feed cX13_feed 6 (some .int) ∈ wM := List.mem_append_right _ (List.mem_append_right _ (List.mem_append_left _ (List.mem_of_getElem? (i := 52) rfl)))
theorem wmc_X13_lay : Cond.code yX13_lay cX13_lay 3 none ∈ wM := List.mem_append_right _ (List.mem_append_right _ (List.mem_append_left _ (List.mem_of_getElem? (i := 53) rfl)))
theorem wmc_X13_end : Cond.code yX13_end cX13_end 2 (some .int) ∈ wM := List.mem_append_right _ (List.mem_append_right _ (List.mem_append_left _ (List.mem_of_getElem? (i := 54) rfl)))
theorem wmc_X13_fault : Cond.code yX13_fault cX13_fault 2 (some .int) ∈ wM := List.mem_append_right _ (List.mem_append_right _ (List.mem_append_left _ (List.mem_of_getElem? (i := 55) rfl)))
theorem wmc_X13_isFighter : Cond.code yX13_isFighter cX13_isFighter 2 (some .boolean) ∈ wM := List.mem_append_right _ (List.mem_append_right _ (List.mem_append_left _ (List.mem_of_getElem? (i := 56) rfl)))
theorem wmc_X13_limit : Cond.code yX13_limit cX13_limit 6 (some .int) ∈ wM := List.mem_append_right _ (List.mem_append_right _ (List.mem_append_left _ (List.mem_of_getElem? (i := 57) rfl)))
theorem wmc_X13_enter : Cond.code yX13_enter cX13_enter 3 (some .int) ∈ wM := List.mem_append_right _ (List.mem_append_right _ (List.mem_append_left _ (List.mem_of_getElem? (i := 58) rfl)))
theorem wmc_X13_comes : Cond.code yX13_comes cX13_comes 4 (some .int) ∈ wM := List.mem_append_right _ (List.mem_append_right _ (List.mem_append_left _ (List.mem_of_getElem? (i := 59) rfl)))
theorem wmc_X13_weigh : Cond.code yX13_weigh cX13_weigh 3 (some .int) ∈ wM := List.mem_append_right _ (List.mem_append_right _ (List.mem_append_left _ (List.mem_of_getElem? (i := 60) rfl)))
theorem wmc_X13_seed : Cond.code yX13_seed cX13_seed 5 (some .int) ∈ wM := List.mem_append_right _ (List.mem_append_right _ (List.mem_append_left _ (List.mem_of_getElem? (i := 61) rfl)))
theorem wmc_X13_weighed : Cond.code yX13_weighed cX13_weighed 4 (some .int) ∈ wM := List.mem_append_right _ (List.mem_append_right _ (List.mem_append_left _ (List.mem_of_getElem? (i := 62) rfl)))
theorem wmc_X13_draw : Cond.code yX13_draw cX13_draw 2 (some .int) ∈ wM := List.mem_append_right _ (List.mem_append_right _ (List.mem_append_left _ (List.mem_of_getElem? (i := 63) rfl)))
theorem wmc_X13_makeRow : Cond.code yX13_makeRow cX13_makeRow 6 none ∈ wM := List.mem_append_right _ (List.mem_append_right _ (List.mem_append_left _ (List.mem_of_getElem? (i := 64) rfl)))
theorem wmc_X13_draws : Cond.code yX13_draws cX13_draws 7 (some .int) ∈ wM := List.mem_append_right _ (List.mem_append_right _ (List.mem_append_left _ (List.mem_of_getElem? (i := 65) rfl)))
theorem wmc_X13_isOther : Cond.code yX13_isOther cX13_isOther 3 (some .boolean) ∈ wM := List.mem_append_right _ (List.mem_append_right _ (List.mem_append_left _ (List.mem_of_getElem? (i := 66) rfl)))
theorem wmc_X13_settle : Cond.code yX13_settle cX13_settle 4 none ∈ wM := List.mem_append_right _ (List.mem_append_right _ (List.mem_append_left _ (List.mem_of_getElem? (i := 67) rfl)))
theorem wmc_X13_bestPlace : Cond.code yX13_bestPlace cX13_bestPlace 12 (some .int) ∈ wM := List.mem_append_right _ (List.mem_append_right _ (List.mem_append_left _ (List.mem_of_getElem? (i := 68) rfl)))
theorem wmc_X13_fighter : Cond.code yX13_fighter cX13_fighter 3 (some .int) ∈ wM := List.mem_append_right _ (List.mem_append_right _ (List.mem_append_left _ (List.mem_of_getElem? (i := 69) rfl)))
theorem wmc_X13_about : Cond.code yX13_about cX13_about 5 (some .int) ∈ wM := List.mem_append_right _ (List.mem_append_right _ (List.mem_append_left _ (List.mem_of_getElem? (i := 70) rfl)))
theorem wmc_X13_matOf : Cond.code yX13_matOf cX13_matOf 4 (some .int) ∈ wM := List.mem_append_right _ (List.mem_append_right _ (List.mem_append_left _ (List.mem_of_getElem? (i := 71) rfl)))
theorem wmc_X13_fight : Cond.code yX13_fight cX13_fight 6 (some .int) ∈ wM := List.mem_append_right _ (List.mem_append_right _ (List.mem_append_left _ (List.mem_of_getElem? (i := 72) rfl)))
theorem wmc_X13_now : Cond.code yX13_now cX13_now 2 (some .int) ∈ wM := List.mem_append_right _ (List.mem_append_right _ (List.mem_append_left _ (List.mem_of_getElem? (i := 73) rfl)))
theorem wmc_X13_rest : Cond.code yX13_rest cX13_rest 2 (some .int) ∈ wM := List.mem_append_right _ (List.mem_append_right _ (List.mem_append_left _ (List.mem_of_getElem? (i := 74) rfl)))
theorem wmc_X13_isMat : Cond.code yX13_isMat cX13_isMat 1 (some .boolean) ∈ wM := List.mem_append_right _ (List.mem_append_right _ (List.mem_append_left _ (List.mem_of_getElem? (i := 75) rfl)))
theorem wmc_X13_rests : Cond.code yX13_rests cX13_rests 4 (some .boolean) ∈ wM := List.mem_append_right _ (List.mem_append_right _ (List.mem_append_left _ (List.mem_of_getElem? (i := 76) rfl)))
theorem wmc_X13_begin : Cond.code yX13_begin cX13_begin 4 (some .int) ∈ wM := List.mem_append_right _ (List.mem_append_right _ (List.mem_append_left _ (List.mem_of_getElem? (i := 77) rfl)))
theorem wmc_X13_begins : Cond.code yX13_begins cX13_begins 6 (some .int) ∈ wM := List.mem_append_right _ (List.mem_append_right _ (List.mem_append_left _ (List.mem_of_getElem? (i := 78) rfl)))
theorem wmc_X13_asked : Cond.code yX13_asked cX13_asked 6 (some .int) ∈ wM := List.mem_append_right _ (List.mem_append_right _ (List.mem_append_left _ (List.mem_of_getElem? (i := 79) rfl)))
theorem wmc_X13_passes : Cond.code yX13_passes cX13_passes 4 (some .int) ∈ wM := List.mem_append_right _ (List.mem_append_right _ (List.mem_append_left _ (List.mem_of_getElem? (i := 80) rfl)))
theorem wmc_X13_goesOver : Cond.code yX13_goesOver cX13_goesOver 2 none ∈ wM := List.mem_append_right _ (List.mem_append_right _ (List.mem_append_left _ (List.mem_of_getElem? (i := 81) rfl)))
theorem wmc_X13_ends : Cond.code yX13_ends cX13_ends 6 (some .int) ∈ wM := List.mem_append_right _ (List.mem_append_right _ (List.mem_append_left _ (List.mem_of_getElem? (i := 82) rfl)))
theorem wmc_X13_event : Cond.code yX13_event cX13_event 4 (some .int) ∈ wM := List.mem_append_right _ (List.mem_append_right _ (List.mem_append_left _ (List.mem_of_getElem? (i := 83) rfl)))
theorem wmc_X13_tick : Cond.code yX13_tick cX13_tick 3 (some .int) ∈ wM := List.mem_append_right _ (List.mem_append_right _ (List.mem_append_left _ (List.mem_of_getElem? (i := 84) rfl)))
theorem wmc_X13_decide : Cond.code yX13_decide cX13_decide 3 (some .int) ∈ wM := List.mem_append_right _ (List.mem_append_right _ (List.mem_append_left _ (List.mem_of_getElem? (i := 85) rfl)))
theorem wmc_X13_mat : Cond.code yX13_mat cX13_mat 3 (some .int) ∈ wM := List.mem_append_right _ (List.mem_append_right _ (List.mem_append_left _ (List.mem_of_getElem? (i := 86) rfl)))
theorem wmc_X13_strike : Cond.code yX13_strike cX13_strike 3 (some .int) ∈ wM := List.mem_append_right _ (List.mem_append_right _ (List.mem_append_left _ (List.mem_of_getElem? (i := 87) rfl)))
theorem wmc_X13_struck : Cond.code yX13_struck cX13_struck 7 (some .int) ∈ wM := List.mem_append_right _ (List.mem_append_right _ (List.mem_append_left _ (List.mem_of_getElem? (i := 88) rfl)))
theorem wmc_X13_medal : Cond.code yX13_medal cX13_medal 4 (some .int) ∈ wM := List.mem_append_right _ (List.mem_append_right _ (List.mem_append_left _ (List.mem_of_getElem? (i := 89) rfl)))
theorem wmc_X13_won : Cond.code yX13_won cX13_won 5 (some .int) ∈ wM := List.mem_append_right _ (List.mem_append_right _ (List.mem_append_left _ (List.mem_of_getElem? (i := 90) rfl)))
theorem wmc_X13_sum : Cond.code yX13_sum cX13_sum 5 (some .int) ∈ wM := List.mem_append_right _ (List.mem_append_right _ (List.mem_append_left _ (List.mem_of_getElem? (i := 91) rfl)))
theorem wmc_X13_alike : Cond.code yX13_alike cX13_alike 5 (some .int) ∈ wM := List.mem_append_right _ (List.mem_append_right _ (List.mem_append_left _ (List.mem_of_getElem? (i := 92) rfl)))
theorem wmc_X13_isAhead : Cond.code yX13_isAhead cX13_isAhead 7 (some .boolean) ∈ wM := List.mem_append_right _ (List.mem_append_right _ (List.mem_append_left _ (List.mem_of_getElem? (i := 93) rfl)))
theorem wmc_X13_ordered : Cond.code yX13_ordered cX13_ordered 7 (some .int) ∈ wM := List.mem_append_right _ (List.mem_append_right _ (List.mem_append_left _ (List.mem_of_getElem? (i := 94) rfl)))
theorem wmc_X13_stage : Cond.code yX13_stage cX13_stage 4 (some .int) ∈ wM := List.mem_append_right _ (List.mem_append_right _ (List.mem_append_left _ (List.mem_of_getElem? (i := 95) rfl)))
theorem wmc_X13_plan : Cond.code yX13_plan cX13_plan 10 (some .int) ∈ wM := List.mem_append_right _ (List.mem_append_right _ (List.mem_append_left _ (List.mem_of_getElem? (i := 96) rfl)))
theorem wmc_X13_tires : Cond.code yX13_tires cX13_tires 3 none ∈ wM := List.mem_append_right _ (List.mem_append_right _ (List.mem_append_left _ (List.mem_of_getElem? (i := 97) rfl)))
theorem wmc_X13_isOver : Cond.code yX13_isOver cX13_isOver 6 (some .boolean) ∈ wM := List.mem_append_right _ (List.mem_append_right _ (List.mem_append_left _ (List.mem_of_getElem? (i := 98) rfl)))
theorem wmc_X13_mayBegin : Cond.code yX13_mayBegin cX13_mayBegin 8 (some .boolean) ∈ wM := List.mem_append_right _ (List.mem_append_right _ (List.mem_append_left _ (List.mem_of_getElem? (i := 99) rfl)))
theorem wmc_X13_planned : Cond.code yX13_planned cX13_planned 4 (some .int) ∈ wM := List.mem_append_right _ (List.mem_append_right _ (List.mem_append_left _ (List.mem_of_getElem? (i := 100) rfl)))
theorem wmc_X13_count : Cond.code yX13_count cX13_count 4 (some .int) ∈ wM := List.mem_append_right _ (List.mem_append_right _ (List.mem_append_left _ (List.mem_of_getElem? (i := 101) rfl)))
theorem wJM : ∀ w ∈ wJ, w ∈ wM := fun _ h => List.mem_append_right _ (List.mem_append_right _ (List.mem_append_right _ h))
def mPM (G : gG) (Z : gM) (Q : Nat → Nat) (u : MS) (sz : Nat) (U : State) : Prop := U.heap.size = sz ∧ va_P (gD G) vwCl (mW G Q u) U.heap ∧ KB G U ∧ va_D (mA Q sz) (mW G Q u) ∧ sE Z (mA Q sz) U U.heap
theorem mPM.blind {G : gG} {Z : gM} {Q : Nat → Nat} {u : MS} {sz : Nat} {av : List Value} : FrameBlind (va_Pc av (mPM G Z Q u sz)) := fun _ U g mk q => ⟨q.1, q.2.1, q.2.2.1, q.2.2.2.1.calling g mk _, q.2.2.2.2.1, q.2.2.2.2.2.calling g mk _⟩
def mBt (G : gG) (Q : Nat → Nat) (u : MS) (sz : Nat) : Unit → State → Prop := fun _ t => va_P (gD G) vwCl (mW G Q u) t.heap ∧ va_D (mA Q sz) (mW G Q u)
abbrev mQi (G : gG) (Q : Nat → Nat) (u : MS) (r : Int32) (sz : Nat) : Array Value → State → Outcome → State → Prop := va_Qi (fun (x : Int32) (_ : Unit) => x = r) (mBt G Q u sz) (mA Q sz)
abbrev mQv (G : gG) (Q : Nat → Nat) (u : MS) (sz : Nat) : Array Value → State → Outcome → State → Prop := va_Qv (fun _ : Unit => True) (mBt G Q u sz) (mA Q sz)
def mX (p : Program) (c : Code) (cc : ByteArray) (nL : Nat) (s : State) (m : MethodId) (args : Array Value) (G : gG) (Z : gM) (Q : Nat → Nat) : Prop := p.tables.exec = Jvm.exec ∧ c.code = cc ∧ c.maxLocals = nL ∧ s.vm.findClass RX13 = some m.cls ∧ (∀ w ∈ wM, w.before args s = true) ∧ KB G s ∧ sE Z (mA Q s.heap.size) s s.heap
def mH (G : gG) (Q : Nat → Nat) (u : MS) (s : State) (H : Heap) (locs : List Loc) : Prop := va_P (gD G) vwCl (mW G Q u) H ∧ va_D (mA Q s.heap.size) (mW G Q u) ∧ va_S (mA Q s.heap.size) s.heap H locs
theorem mH.pre {G : gG} {Z : gM} {Q : Nat → Nat} {u : MS} {s : State} {H : Heap} {locs : List Loc} {p : Program} {c : Code} {cc : ByteArray} {nL : Nat} {m : MethodId} {args : Array Value} (hC : mX p c cc nL s m args G Z Q) (hH : mH G Q u s H locs) (U : State) (hU : U.heap = H) (hW : s.WarmedH U.vm) : mPM G Z Q u H.size U := by
  refine ⟨by rw [hU], by rw [hU]; exact hH.1, hC.2.2.2.2.2.1.moved hW, ⟨hH.2.1.1, fun k q hk => ?_⟩, ?_⟩
  · match k, hk with
    | 0, hk => cases Option.some.inj hk; exact Or.inl ⟨72, by decide, by decide, rfl⟩
    | 1, hk => cases Option.some.inj hk; exact Or.inl ⟨0, by decide, by decide, rfl⟩
    | 2, hk => cases Option.some.inj hk; exact Or.inl ⟨1, by decide, by decide, rfl⟩
    | 3, hk => cases Option.some.inj hk; exact Or.inl ⟨5, by decide, by decide, rfl⟩
    | 4, hk => cases Option.some.inj hk; exact Or.inl ⟨6, by decide, by decide, rfl⟩
    | 5, hk => cases Option.some.inj hk; exact Or.inl ⟨7, by decide, by decide, rfl⟩
    | 6, hk => cases Option.some.inj hk; exact Or.inl ⟨8, by decide, by decide, rfl⟩
    | 7, hk => cases Option.some.inj hk; exact Or.inl ⟨9, by decide, by decide, rfl⟩
    | 8, hk => cases Option.some.inj hk; exact Or.inl ⟨10, by decide, by decide, rfl⟩
    | 9, hk => cases Option.some.inj hk; exact Or.inl ⟨11, by decide, by decide, rfl⟩
    | 10, hk => cases Option.some.inj hk; exact Or.inl ⟨12, by decide, by decide, rfl⟩
    | 11, hk => cases Option.some.inj hk; exact Or.inl ⟨13, by decide, by decide, rfl⟩
    | 12, hk => cases Option.some.inj hk; exact Or.inl ⟨14, by decide, by decide, rfl⟩
    | 13, hk => cases Option.some.inj hk; exact Or.inl ⟨15, by decide, by decide, rfl⟩
    | 14, hk => cases Option.some.inj hk; exact Or.inl ⟨16, by decide, by decide, rfl⟩
    | 15, hk => cases Option.some.inj hk; exact Or.inl ⟨17, by decide, by decide, rfl⟩
    | 16, hk => cases Option.some.inj hk; exact Or.inl ⟨18, by decide, by decide, rfl⟩
    | 17, hk => cases Option.some.inj hk; exact Or.inl ⟨19, by decide, by decide, rfl⟩
    | 18, hk => cases Option.some.inj hk; exact Or.inl ⟨20, by decide, by decide, rfl⟩
    | 19, hk => cases Option.some.inj hk; exact Or.inl ⟨21, by decide, by decide, rfl⟩
    | 20, hk => cases Option.some.inj hk; exact Or.inl ⟨22, by decide, by decide, rfl⟩
    | 21, hk => cases Option.some.inj hk; exact Or.inl ⟨23, by decide, by decide, rfl⟩
    | 22, hk => cases Option.some.inj hk; exact Or.inl ⟨24, by decide, by decide, rfl⟩
    | 23, hk => cases Option.some.inj hk; exact Or.inl ⟨25, by decide, by decide, rfl⟩
    | 24, hk => cases Option.some.inj hk; exact Or.inl ⟨26, by decide, by decide, rfl⟩
    | 25, hk => cases Option.some.inj hk; exact Or.inl ⟨32, by decide, by decide, rfl⟩
    | 26, hk => cases Option.some.inj hk; exact Or.inl ⟨33, by decide, by decide, rfl⟩
    | 27, hk => cases Option.some.inj hk; exact Or.inl ⟨34, by decide, by decide, rfl⟩
    | 28, hk => cases Option.some.inj hk; exact Or.inl ⟨35, by decide, by decide, rfl⟩
    | 29, hk => cases Option.some.inj hk; exact Or.inl ⟨36, by decide, by decide, rfl⟩
    | 30, hk => cases Option.some.inj hk; exact Or.inl ⟨37, by decide, by decide, rfl⟩
    | 31, hk => cases Option.some.inj hk; exact Or.inl ⟨38, by decide, by decide, rfl⟩
    | 32, hk => cases Option.some.inj hk; exact Or.inl ⟨40, by decide, by decide, rfl⟩
    | 33, hk => cases Option.some.inj hk; exact Or.inl ⟨52, by decide, by decide, rfl⟩
    | 34, hk => cases Option.some.inj hk; exact Or.inl ⟨54, by decide, by decide, rfl⟩
    | 35, hk => cases Option.some.inj hk; exact Or.inl ⟨56, by decide, by decide, rfl⟩
    | 36, hk => cases Option.some.inj hk; exact Or.inl ⟨57, by decide, by decide, rfl⟩
    | 37, hk => cases Option.some.inj hk; exact Or.inl ⟨58, by decide, by decide, rfl⟩
    | 38, hk => cases Option.some.inj hk; exact Or.inl ⟨59, by decide, by decide, rfl⟩
    | 39, hk => cases Option.some.inj hk; exact Or.inl ⟨60, by decide, by decide, rfl⟩
    | 40, hk => cases Option.some.inj hk; exact Or.inl ⟨61, by decide, by decide, rfl⟩
    | 41, hk => cases Option.some.inj hk; exact Or.inl ⟨62, by decide, by decide, rfl⟩
    | 42, hk => cases Option.some.inj hk; exact Or.inl ⟨63, by decide, by decide, rfl⟩
    | 43, hk => cases Option.some.inj hk; exact Or.inl ⟨64, by decide, by decide, rfl⟩
    | 44, hk => cases Option.some.inj hk; exact Or.inl ⟨65, by decide, by decide, rfl⟩
    | 45, hk => cases Option.some.inj hk; exact Or.inl ⟨66, by decide, by decide, rfl⟩
    | 46, hk => cases Option.some.inj hk; exact Or.inl ⟨67, by decide, by decide, rfl⟩
    | 47, hk => cases Option.some.inj hk; exact Or.inl ⟨68, by decide, by decide, rfl⟩
    | 48, hk => cases Option.some.inj hk; exact Or.inl ⟨70, by decide, by decide, rfl⟩
    | 49, hk => cases Option.some.inj hk; exact Or.inl ⟨71, by decide, by decide, rfl⟩
    | 50, hk => cases Option.some.inj hk; exact Or.inl ⟨39, by decide, by decide, rfl⟩
    | k + 51, hk => cases hk
  · rw [hU]
    exact ((hC.2.2.2.2.2.2.kept hH.2.2.2.1).narrow (mA.le hH.2.2.1)).moved hW
section MC
variable {p : Program} {l : Launch} {e : Env} {R : Room} {s : State} {m : MethodId} {args : Array Value} {below : List Frame} {meth : Method} {c : Code} {H : Heap} {locs : List Loc} {Q' : State → Prop} {cc : ByteArray} {nL pc : Nat} {ls : Array Slot} {rest st0 : List Value} {G : gG} {Z : gM} {Q : Nat → Nat} {u u1 : MS}
theorem mgood {y : MethodName} {b : ByteArray} {n : Nat} {r : Option FieldType} (h : Cond.code y b n r ∈ wM) : ∀ w ∈ (Cond.code y b n r :: wM), w ∈ wM ∧ Gd w := List.forall_mem_cons.mpr ⟨⟨h, gd_wM _ h⟩, fun w hw => ⟨hw, gd_wM _ hw⟩⟩
theorem mgood' {w0 : Cond} (h : w0 ∈ wM) : ∀ w ∈ (w0 :: wM), w ∈ wM ∧ Gd w := List.forall_mem_cons.mpr ⟨⟨h, gd_wM _ h⟩, fun w hw => ⟨hw, gd_wM _ hw⟩⟩
/-- the words of a virtual call: code, link, kind, selection -/
def kwV (y : MethodName) (b : ByteArray) (n : Nat) (r : Option FieldType) (i : Nat) : Prop := Cond.code y b n r ∈ wM ∧ Cond.methodLink RX13 i y ∈ wM ∧ Cond.instanceMethod y ∈ wM ∧ Cond.selects RX13 y y ∈ wM
def kwS (y : MethodName) (b : ByteArray) (n : Nat) (r : Option FieldType) (i : Nat) : Prop := Cond.code y b n r ∈ wM ∧ Cond.methodLink RX13 i y ∈ wM ∧ Cond.static y ∈ wM
theorem mcV_i {y : MethodName} {bytes : ByteArray} {maxL n index fr lo : Nat} {ret : Option FieldType} {As : List Value} {r : Int32} (hC : mX p c cc nL s m args G Z Q) (hH : mH G Q u s H locs) (hM : Met l y (Cond.code y bytes maxL ret :: wM) { frames := fr, cells := 0, slots := 0, locals := lo } (va_Pc (.ref (Q 72) :: As) (mPM G Z Q u H.size)) (mQi G Q u1 r H.size) 0 0 (mA Q H.size)) (kw : kwV y bytes maxL ret index) (hd : y.cls = RX13 ∧ y.cls ≠ "java/lang/invoke/MethodHandle" ∧ y.cls ≠ "java/lang/invoke/VarHandle" ∧ (parseMethodDescriptor y.desc).map (fun d => d.parameters.length) = some n) (hR : fr + 1 ≤ R.frames ∧ 8 + (maxL + 11) + lo ≤ R.locals) (hn : As.length = n) (hls : ls.size = nL) (hst : st0 = As.reverse ++ .ref (Q 72) :: rest) (hcat : (rest.map fun v => v.category).sum ≤ 8) (hdg : decode cc pc = .ok (.invokevirtual index, 3)) (kk : ∀ (H : Heap) (locs : List Loc), mH G Q u1 s H locs → W p l e R s m args below meth c H locs 0 0 Q' (F0 m (pc + 3) ls (.int r :: rest))) : W p l e R s m args below meth c H locs 0 0 Q' (F0 m pc ls st0) := by
  obtain ⟨hx, hb, hml, hown, hts, hB, hE⟩ := hC
  obtain ⟨k1, k2, k3, k4⟩ := kw
  have hle : ∀ q, mA Q H.size q → mA Q s.heap.size q := mA.le hH.2.2.1
  have hini : Cond.initialized y.cls ∈ wM := by rw [hd.1]; exact wma375
  have hg : GoodIn wM (wsV RX13 index RX13 y (Cond.code y bytes maxL ret :: wM)) := gdV k2 k3 k4 wma375 (mgood k1)
  refine va_calli (va_runV (As := As) (rest := rest) (C := RX13) ⟨hx, hb, hml, hown, hts⟩ hM (cwV n hts hg rfl rfl rfl hd hR) ⟨mPM.blind, va_recv hB.1 hH.1 (ci := 14) (q0 := 0) rfl rfl, fun U hU hW => ⟨rfl, mH.pre ⟨hx, hb, hml, hown, hts, hB, hE⟩ hH U hU hW⟩⟩ rfl hn hls hst (lv_room hcat) hdg ⟨Nat.zero_le _, Nat.zero_le _⟩) hH.2.2 (fun q _ h => hle q h) hle (fun r2 u2 t H1 locs1 ht hvm hw hB1 hz1 hk1 hS => ?_)
  obtain ⟨b1, b2⟩ := hB1
  rw [ht] at b1
  subst hw
  exact kk H1 locs1 ⟨b1, b2.weaken (fun _ _ _ h => hle _ h), hS⟩
theorem mcV_v {y : MethodName} {bytes : ByteArray} {maxL n index fr lo : Nat} {ret : Option FieldType} {As : List Value} (hC : mX p c cc nL s m args G Z Q) (hH : mH G Q u s H locs) (hM : Met l y (Cond.code y bytes maxL ret :: wM) { frames := fr, cells := 0, slots := 0, locals := lo } (va_Pc (.ref (Q 72) :: As) (mPM G Z Q u H.size)) (mQv G Q u1 H.size) 0 0 (mA Q H.size)) (kw : kwV y bytes maxL ret index) (hd : y.cls = RX13 ∧ y.cls ≠ "java/lang/invoke/MethodHandle" ∧ y.cls ≠ "java/lang/invoke/VarHandle" ∧ (parseMethodDescriptor y.desc).map (fun d => d.parameters.length) = some n) (hR : fr + 1 ≤ R.frames ∧ 8 + (maxL + 11) + lo ≤ R.locals) (hn : As.length = n) (hls : ls.size = nL) (hst : st0 = As.reverse ++ .ref (Q 72) :: rest) (hcat : (rest.map fun v => v.category).sum ≤ 8) (hdg : decode cc pc = .ok (.invokevirtual index, 3)) (kk : ∀ (H : Heap) (locs : List Loc), mH G Q u1 s H locs → W p l e R s m args below meth c H locs 0 0 Q' (F0 m (pc + 3) ls (rest))) : W p l e R s m args below meth c H locs 0 0 Q' (F0 m pc ls st0) := by
  obtain ⟨hx, hb, hml, hown, hts, hB, hE⟩ := hC
  obtain ⟨k1, k2, k3, k4⟩ := kw
  have hle : ∀ q, mA Q H.size q → mA Q s.heap.size q := mA.le hH.2.2.1
  have hini : Cond.initialized y.cls ∈ wM := by rw [hd.1]; exact wma375
  have hg : GoodIn wM (wsV RX13 index RX13 y (Cond.code y bytes maxL ret :: wM)) := gdV k2 k3 k4 wma375 (mgood k1)
  refine va_callv (va_runV (As := As) (rest := rest) (C := RX13) ⟨hx, hb, hml, hown, hts⟩ hM (cwV n hts hg rfl rfl rfl hd hR) ⟨mPM.blind, va_recv hB.1 hH.1 (ci := 14) (q0 := 0) rfl rfl, fun U hU hW => ⟨rfl, mH.pre ⟨hx, hb, hml, hown, hts, hB, hE⟩ hH U hU hW⟩⟩ rfl hn hls hst (lv_room hcat) hdg ⟨Nat.zero_le _, Nat.zero_le _⟩) hH.2.2 (fun q _ h => hle q h) hle (fun u2 t H1 locs1 ht hvm hw hB1 hz1 hk1 hS => ?_)
  obtain ⟨b1, b2⟩ := hB1
  rw [ht] at b1
  exact kk H1 locs1 ⟨b1, b2.weaken (fun _ _ _ h => hle _ h), hS⟩
theorem mcS_i {y : MethodName} {bytes : ByteArray} {maxL n index fr lo : Nat} {ret : Option FieldType} {As : List Value} {r : Int32} (hC : mX p c cc nL s m args G Z Q) (hH : mH G Q u s H locs) (hM : Met l y (Cond.code y bytes maxL ret :: wM) { frames := fr, cells := 0, slots := 0, locals := lo } (va_Pc (As) (mPM G Z Q u H.size)) (mQi G Q u1 r H.size) 0 0 (mA Q H.size)) (kw : kwS y bytes maxL ret index) (hd : y.cls = RX13 ∧ y.cls ≠ "java/lang/invoke/MethodHandle" ∧ y.cls ≠ "java/lang/invoke/VarHandle" ∧ (parseMethodDescriptor y.desc).map (fun d => d.parameters.length) = some n) (hR : fr + 1 ≤ R.frames ∧ 8 + (maxL + 11) + lo ≤ R.locals) (hn : As.length = n) (hls : ls.size = nL) (hst : st0 = As.reverse ++ rest) (hcat : (rest.map fun v => v.category).sum ≤ 8) (hdg : decode cc pc = .ok (.invokestatic index, 3)) (kk : ∀ (H : Heap) (locs : List Loc), mH G Q u1 s H locs → W p l e R s m args below meth c H locs 0 0 Q' (F0 m (pc + 3) ls (.int r :: rest))) : W p l e R s m args below meth c H locs 0 0 Q' (F0 m pc ls st0) := by
  obtain ⟨hx, hb, hml, hown, hts, hB, hE⟩ := hC
  obtain ⟨k1, k2, k3⟩ := kw
  have hle : ∀ q, mA Q H.size q → mA Q s.heap.size q := mA.le hH.2.2.1
  have hini : Cond.initialized y.cls ∈ wM := by rw [hd.1]; exact wma375
  have hg : GoodIn wM (va_wsS RX13 index y (Cond.code y bytes maxL ret :: wM)) := gdS k2 k3 hini (mgood k1)
  refine va_calli (va_runS (As := As) (rest := rest) ⟨hx, hb, hml, hown, hts⟩ hM (va_cwS n hts hg rfl rfl rfl hd.2 hR) ⟨mPM.blind, fun U hU hW => ⟨rfl, mH.pre ⟨hx, hb, hml, hown, hts, hB, hE⟩ hH U hU hW⟩⟩ rfl hn hls hst (lv_room hcat) hdg ⟨Nat.zero_le _, Nat.zero_le _⟩) hH.2.2 (fun q _ h => hle q h) hle (fun r2 u2 t H1 locs1 ht hvm hw hB1 hz1 hk1 hS => ?_)
  obtain ⟨b1, b2⟩ := hB1
  rw [ht] at b1
  subst hw
  exact kk H1 locs1 ⟨b1, b2.weaken (fun _ _ _ h => hle _ h), hS⟩
theorem mr_i {v r : Int32} (hC : mX p c cc nL s m args G Z Q) (hH : mH G Q u s H locs) (hr : meth.sig.returnType = some .int) (hF : some (v, u) = some (r, u1)) (hdg : decode cc pc = .ok (.ireturn, 1)) (hlocks : meth.locks = false) : W p l e R s m args below meth c H locs 0 0 (MQ below (mQi G Q u1 r s.heap.size) args s 0 0 (mA Q s.heap.size)) (F0 m pc ls [.int v]) := by
  have e9 := Option.some.inj hF
  have e1 : v = r := congrArg Prod.fst e9
  have e2 : u = u1 := congrArg Prod.snd e9
  subst e1; subst e2
  exact W.iret (v := v) hC.1 hC.2.1 hr (fun t ht hW => ⟨⟨_, (), rfl, rfl, by rw [ht]; exact hH.1, hH.2.1⟩, hH.2.2.F ht⟩) hH.2.2.2.2 hdg hlocks
theorem mr_z {v r : Int32} (hC : mX p c cc nL s m args G Z Q) (hH : mH G Q u s H locs) (hr : meth.sig.returnType = some .boolean) (hz : gb v = true) (hF : some (v, u) = some (r, u1)) (hdg : decode cc pc = .ok (.ireturn, 1)) (hlocks : meth.locks = false) : W p l e R s m args below meth c H locs 0 0 (MQ below (mQi G Q u1 r s.heap.size) args s 0 0 (mA Q s.heap.size)) (F0 m pc ls [.int v]) := by
  have e9 := Option.some.inj hF
  have e1 : v = r := congrArg Prod.fst e9
  have e2 : u = u1 := congrArg Prod.snd e9
  subst e1; subst e2
  exact W.zret (v := v) hC.1 hC.2.1 hr (gb_nar hz) (fun t ht hW => ⟨⟨_, (), rfl, rfl, by rw [ht]; exact hH.1, hH.2.1⟩, hH.2.2.F ht⟩) hH.2.2.2.2 hdg hlocks
theorem mr_v {v r : Int32} (hC : mX p c cc nL s m args G Z Q) (hH : mH G Q u s H locs) (hr : meth.sig.returnType = none) (hF : some (v, u) = some (r, u1)) (hdg : decode cc pc = .ok (.return_, 1)) (hlocks : meth.locks = false) : W p l e R s m args below meth c H locs 0 0 (MQ below (mQv G Q u1 s.heap.size) args s 0 0 (mA Q s.heap.size)) (F0 m pc ls []) := by
  have e2 : u = u1 := congrArg Prod.snd (Option.some.inj hF)
  subst e2
  exact W.vret hC.1 hC.2.1 hr (fun t ht hW => ⟨⟨(), rfl, trivial, by rw [ht]; exact hH.1, hH.2.1⟩, hH.2.2.F ht⟩) hH.2.2.2.2 hdg hlocks
theorem mcJ {y : MethodName} {bytes : ByteArray} {maxL n index fr lo k : Nat} {ret : Option FieldType} {As : List Value} {r : Int32} (hC : mX p c cc nL s m args G Z Q) (hH : mH G Q u s H locs) (hs : k < 38) (hM : Met l y (Cond.code y bytes maxL ret :: wJ) { frames := fr, cells := 0, slots := 0, locals := lo } (va_Pc (.ref (Z.1 k) :: As) (sP Z (mA Q s.heap.size))) (vp_Si (fun x : Int32 => x = r)) 0 0 (fun _ => False)) (kw : Cond.code y bytes maxL ret ∈ wJ ∧ Cond.methodLink RX13 index y ∈ wM ∧ Cond.instanceMethod y ∈ wJ ∧ Cond.selects "java/lang/String" y y ∈ wJ ∧ Cond.initialized "java/lang/String" ∈ wJ)
    (hd : y.cls = "java/lang/String" ∧ y.cls ≠ "java/lang/invoke/MethodHandle" ∧ y.cls ≠ "java/lang/invoke/VarHandle" ∧ (parseMethodDescriptor y.desc).map (fun d => d.parameters.length) = some n) (hR : fr + 1 ≤ R.frames ∧ 8 + (maxL + 11) + lo ≤ R.locals) (hn : As.length = n) (hls : ls.size = nL) (hst : st0 = As.reverse ++ .ref (Z.1 k) :: rest) (hcat : (rest.map fun v => v.category).sum ≤ 8) (hdg : decode cc pc = .ok (.invokevirtual index, 3)) (kk : W p l e R s m args below meth c H locs 0 0 Q' (F0 m (pc + 3) ls (.int r :: rest))) : W p l e R s m args below meth c H locs 0 0 Q' (F0 m pc ls st0) := by
  obtain ⟨hx, hb, hml, hown, hts, hB, hE⟩ := hC
  refine vp_callSi (va_Run.run (jcallV (rest := rest) ⟨hx, hb, hml, hown, hts⟩ hE hH.2.2 hs hM (gdV kw.2.1 (wJM _ kw.2.2.1) (wJM _ kw.2.2.2.1) (wJM _ kw.2.2.2.2) (fun w hw => ⟨wJM _ (jgood kw.1 w hw).1, (jgood kw.1 w hw).2⟩)) hd hR hn hls hst hcat hdg ⟨Nat.zero_le _, Nat.zero_le _⟩)) (fun x hx9 => ?_)
  subst hx9
  exact kk
/-- an answer that is the one Stop -/
def mQr (G : gG) (Q : Nat → Nat) (u : MS) (sz : Nat) : Array Value → State → Outcome → State → Prop := va_Qr (fun _ : Unit => True) (fun (_ : Unit) (a : Nat) (t : State) => a = Q 39 ∧ va_P (gD G) vwCl (mW G Q u) t.heap ∧ va_D (mA Q sz) (mW G Q u)) (mA Q sz)
def mQt (G : gG) (Q : Nat → Nat) (u : MS) (sz : Nat) : Array Value → State → Addr → State → Prop := fun _ st x t => (x = Q 39 ∧ va_P (gD G) vwCl (mW G Q u) t.heap ∧ va_D (mA Q sz) (mW G Q u)) ∧ va_F (mA Q sz) st t
theorem mr_r {v r : Int32} {rt : FieldType} (hC : mX p c cc nL s m args G Z Q) (hH : mH G Q u s H locs) (hr : meth.sig.returnType = some rt) (hrt : ∃ n, rt = .object n) (hF : some (v, u) = some (r, u1)) (hdg : decode cc pc = .ok (.areturn, 1)) (hlocks : meth.locks = false) : W p l e R s m args below meth c H locs 0 0 (MQ below (mQr G Q u1 s.heap.size) args s 0 0 (mA Q s.heap.size)) (F0 m pc ls [.ref (Q 39)]) := by
  have e2 : u = u1 := congrArg Prod.snd (Option.some.inj hF)
  subst e2
  exact W.aret (v := .ref (Q 39)) hC.1 hC.2.1 hr (Or.inl hrt) (Or.inr ⟨_, rfl⟩) (fun t ht hW => ⟨⟨(), _, rfl, trivial, rfl, by rw [ht]; exact hH.1, hH.2.1⟩, hH.2.2.F ht⟩) hH.2.2.2.2 hdg hlocks
theorem mcV_r {y : MethodName} {bytes : ByteArray} {maxL n index fr lo : Nat} {ret : Option FieldType} {As : List Value} (hC : mX p c cc nL s m args G Z Q) (hH : mH G Q u s H locs) (hM : Met l y (Cond.code y bytes maxL ret :: wM) { frames := fr, cells := 0, slots := 0, locals := lo } (va_Pc (.ref (Q 72) :: As) (mPM G Z Q u H.size)) (mQr G Q u1 H.size) 0 0 (mA Q H.size)) (kw : kwV y bytes maxL ret index) (hd : y.cls = RX13 ∧ y.cls ≠ "java/lang/invoke/MethodHandle" ∧ y.cls ≠ "java/lang/invoke/VarHandle" ∧ (parseMethodDescriptor y.desc).map (fun d => d.parameters.length) = some n) (hR : fr + 1 ≤ R.frames ∧ 8 + (maxL + 11) + lo ≤ R.locals) (hn : As.length = n) (hls : ls.size = nL) (hst : st0 = As.reverse ++ .ref (Q 72) :: rest) (hcat : (rest.map fun v => v.category).sum ≤ 8) (hdg : decode cc pc = .ok (.invokevirtual index, 3)) (kk : ∀ (H : Heap) (locs : List Loc), mH G Q u1 s H locs → W p l e R s m args below meth c H locs 0 0 Q' (F0 m (pc + 3) ls (.ref (Q 39) :: rest))) : W p l e R s m args below meth c H locs 0 0 Q' (F0 m pc ls st0) := by
  obtain ⟨hx, hb, hml, hown, hts, hB, hE⟩ := hC
  obtain ⟨k1, k2, k3, k4⟩ := kw
  have hle : ∀ q, mA Q H.size q → mA Q s.heap.size q := mA.le hH.2.2.1
  have hg : GoodIn wM (wsV RX13 index RX13 y (Cond.code y bytes maxL ret :: wM)) := gdV k2 k3 k4 wma375 (mgood k1)
  refine va_callr (va_runV (As := As) (rest := rest) (C := RX13) ⟨hx, hb, hml, hown, hts⟩ hM (cwV n hts hg rfl rfl rfl hd hR) ⟨mPM.blind, va_recv hB.1 hH.1 (ci := 14) (q0 := 0) rfl rfl, fun U hU hW => ⟨rfl, mH.pre ⟨hx, hb, hml, hown, hts, hB, hE⟩ hH U hU hW⟩⟩ rfl hn hls hst (lv_room hcat) hdg ⟨Nat.zero_le _, Nat.zero_le _⟩) hH.2.2 (fun q _ h => hle q h) hle (fun u2 a2 t H1 locs1 ht hvm hw hB1 hz1 hk1 hS => ?_)
  obtain ⟨b0, b1, b2⟩ := hB1
  rw [ht] at b1
  subst b0
  exact kk H1 locs1 ⟨b1, b2.weaken (fun _ _ _ h => hle _ h), hS⟩
theorem mt_throw (hC : mX p c cc nL s m args G Z Q) (hH : mH G Q u s H locs) (hno : c.exceptionTable.isEmpty = true) (hF : some ((none : Option Int32), u) = some ((none : Option Int32), u1)) (hdg : decode cc pc = .ok (.athrow, 1)) (hlocks : meth.locks = false) : W p l e R s m args below meth c H locs 0 0 (MQT below (mQt G Q u1 s.heap.size) args s 0 0 (mA Q s.heap.size)) (F0 m pc ls (.ref (Q 39) :: rest)) := by
  have e2 : u = u1 := congrArg Prod.snd (Option.some.inj hF)
  subst e2
  exact th_throw hC.1 hC.2.1 hno (fun t ht hW => ⟨⟨rfl, by rw [ht]; exact hH.1, hH.2.1⟩, hH.2.2.F ht⟩) hH.2.2.2.2 hdg hlocks
/-- what a call of a throwing method gives -/
theorem mt_run {y : MethodName} {bytes : ByteArray} {maxL n index fr lo : Nat} {ret : Option FieldType} {As : List Value} (hC : mX p c cc nL s m args G Z Q) (hH : mH G Q u s H locs) (hM : MetT l y (Cond.code y bytes maxL ret :: wM) { frames := fr, cells := 0, slots := 0, locals := lo } (va_Pc (.ref (Q 72) :: As) (mPM G Z Q u H.size)) (mQt G Q u1 H.size) 0 0 (mA Q H.size)) (kw : kwV y bytes maxL ret index) (hd : y.cls = RX13 ∧ y.cls ≠ "java/lang/invoke/MethodHandle" ∧ y.cls ≠ "java/lang/invoke/VarHandle" ∧ (parseMethodDescriptor y.desc).map (fun d => d.parameters.length) = some n) (hR : fr + 1 ≤ R.frames ∧ 8 + (maxL + 11) + lo ≤ R.locals) (hn : As.length = n) (hls : ls.size = nL) (hst : st0 = As.reverse ++ .ref (Q 72) :: rest) (hcat : (rest.map fun v => v.category).sum ≤ 8) (hdg : decode cc pc = .ok (.invokevirtual index, 3)) :
    th_Run p l e R s m args below meth c H locs 0 0 0 0 (F0 m pc ls st0) rest (mQt G Q u1 H.size (Value.ref (Q 72) :: As).toArray) (mA Q H.size) := by
  obtain ⟨hx, hb, hml, hown, hts, hB, hE⟩ := hC
  obtain ⟨k1, k2, k3, k4⟩ := kw
  have hg : GoodIn wM (wsV RX13 index RX13 y (Cond.code y bytes maxL ret :: wM)) := gdV k2 k3 k4 wma375 (mgood k1)
  exact th_runV (As := As) (rest := rest) (C := RX13) ⟨hx, hb, hml, hown, hts⟩ hM (cwV n hts hg rfl rfl rfl hd hR) ⟨mPM.blind, va_recv hB.1 hH.1 (ci := 14) (q0 := 0) rfl rfl, fun U hU hW => ⟨rfl, mH.pre ⟨hx, hb, hml, hown, hts, hB, hE⟩ hH U hU hW⟩⟩ rfl hn hls hst (lv_room hcat) hdg ⟨Nat.zero_le _, Nat.zero_le _⟩
theorem mt_pass {u2 : MS} {a : Array Value} (hH : mH G Q u s H locs) (hr : th_Run p l e R s m args below meth c H locs 0 0 0 0 (F0 m pc ls st0) rest (mQt G Q u2 H.size a) (mA Q H.size)) (hno : c.exceptionTable.isEmpty = true) (hlocks : meth.locks = false) (hF : some ((none : Option Int32), u2) = some ((none : Option Int32), u1)) : W p l e R s m args below meth c H locs 0 0 (MQT below (mQt G Q u1 s.heap.size) args s 0 0 (mA Q s.heap.size)) (F0 m pc ls st0) := by
  have e2 : u2 = u1 := congrArg Prod.snd (Option.some.inj hF)
  subst e2
  have hle : ∀ q, mA Q H.size q → mA Q s.heap.size q := mA.le hH.2.2.1
  refine th_pass hr hno hlocks (fun x st₀ t t2 h0 hq e1 hW => ?_) hH.2.2.2.2 hle
  obtain ⟨⟨rfl, hP1, hD1⟩, hz1, hk1⟩ := hq
  rw [h0] at hz1 hk1
  exact ⟨⟨rfl, by rw [e1]; exact hP1, hD1.weaken (fun _ _ _ h => hle _ h)⟩, Nat.le_trans hH.2.2.1 (by rw [e1]; exact hz1), fun q h1 h2 => by rw [e1, hk1 q (Nat.lt_of_lt_of_le h1 hH.2.2.1) (fun z => h2 (hle q z))]; exact hH.2.2.2.1 q h1 h2⟩
theorem mt_catch {u2 : MS} {a : Array Value} {hpc : Nat} (hC : mX p c cc nL s m args G Z Q) (hH : mH G Q u s H locs) (hr : th_Run p l e R s m args below meth c H locs 0 0 0 0 (F0 m pc ls st0) rest (mQt G Q u2 H.size a) (mA Q H.size)) {x : ExceptionTableEntry} (htab : c.exceptionTable.toList = [x]) (hx : covers x pc = true) (h0 : x.catchType ≠ 0) (hlink : Cond.classLink RX13 x.catchType RX12 ∈ wM) (hh : x.handlerPc = hpc) (kk : ∀ (H : Heap) (locs : List Loc), mH G Q u2 s H locs → W p l e R s m args below meth c H locs 0 0 Q' (F0 m hpc ls [.ref (Q 39)])) : W p l e R s m args below meth c H locs 0 0 Q' (F0 m pc ls st0) := by
  have hle : ∀ q, mA Q H.size q → mA Q s.heap.size q := mA.le hH.2.2.1
  obtain ⟨hx', hb, hml, hown, hts, hB, hE⟩ := hC
  refine th_catch hr htab hx h0 (own := RX13) (C := RX12) hown (hts _ hlink) (va_Nw.use rfl hE.2.2.2) hh hH.2.2 hle (fun st₀ t a h0 hvm hq => ?_) (fun st₀ t a H1 locs1 h0 ht hq hS => ?_)
  · obtain ⟨⟨rfl, hP1, hD1⟩, hz1, hk1⟩ := hq
    rw [h0] at hz1 hk1
    exact ⟨hz1, fun q h1 h2 => hk1 q h1 (fun z => h2 (hle q z)), va_recv hB.1 hP1 (ci := 13) (q0 := 50) rfl rfl⟩
  · obtain ⟨⟨rfl, hP1, hD1⟩, hz1, hk1⟩ := hq
    rw [ht] at hP1
    exact kk H1 locs1 ⟨hP1, hD1.weaken (fun _ _ _ h => hle _ h), hS⟩
/-- a call of a method that has a table of handlers, and returns -/
theorem mcW_i {y : MethodName} {bytes : ByteArray} {maxL n index fr lo : Nat} {ret : Option FieldType} {hh : List (Nat × Nat × Nat × Nat)} {As : List Value} {r : Int32} (hC : mX p c cc nL s m args G Z Q) (hH : mH G Q u s H locs) (hM : Met l y (Cond.codeWith y bytes maxL ret hh :: wM) { frames := fr, cells := 0, slots := 0, locals := lo } (va_Pc (.ref (Q 72) :: As) (mPM G Z Q u H.size)) (mQi G Q u1 r H.size) 0 0 (mA Q H.size)) (kw : Cond.codeWith y bytes maxL ret hh ∈ wM ∧ Cond.methodLink RX13 index y ∈ wM ∧ Cond.instanceMethod y ∈ wM ∧ Cond.selects RX13 y y ∈ wM) (hd : y.cls = RX13 ∧ y.cls ≠ "java/lang/invoke/MethodHandle" ∧ y.cls ≠ "java/lang/invoke/VarHandle" ∧ (parseMethodDescriptor y.desc).map (fun d => d.parameters.length) = some n) (hR : fr + 1 ≤ R.frames ∧ 8 + (maxL + 11) + lo ≤ R.locals) (hn : As.length = n) (hls : ls.size = nL) (hst : st0 = As.reverse ++ .ref (Q 72) :: rest) (hcat : (rest.map fun v => v.category).sum ≤ 8) (hdg : decode cc pc = .ok (.invokevirtual index, 3)) (kk : ∀ (H : Heap) (locs : List Loc), mH G Q u1 s H locs → W p l e R s m args below meth c H locs 0 0 Q' (F0 m (pc + 3) ls (.int r :: rest))) : W p l e R s m args below meth c H locs 0 0 Q' (F0 m pc ls st0) := by
  obtain ⟨hx, hb, hml, hown, hts, hB, hE⟩ := hC
  obtain ⟨k1, k2, k3, k4⟩ := kw
  have hle : ∀ q, mA Q H.size q → mA Q s.heap.size q := mA.le hH.2.2.1
  have hg : GoodIn wM (wsV RX13 index RX13 y (Cond.codeWith y bytes maxL ret hh :: wM)) := gdV k2 k3 k4 wma375 (mgood' k1)
  refine va_calli (th_runVW (As := As) (rest := rest) (C := RX13) ⟨hx, hb, hml, hown, hts⟩ hM (th_cw n hts hg rfl rfl rfl hd hR) ⟨mPM.blind, va_recv hB.1 hH.1 (ci := 14) (q0 := 0) rfl rfl, fun U hU hW => ⟨rfl, mH.pre ⟨hx, hb, hml, hown, hts, hB, hE⟩ hH U hU hW⟩⟩ rfl hn hls hst (lv_room hcat) hdg ⟨Nat.zero_le _, Nat.zero_le _⟩) hH.2.2 (fun q _ h => hle q h) hle (fun r2 u2 t H1 locs1 ht hvm hw hB1 hz1 hk1 hS => ?_)
  obtain ⟨b1, b2⟩ := hB1
  rw [ht] at b1
  subst hw
  exact kk H1 locs1 ⟨b1, b2.weaken (fun _ _ _ h => hle _ h), hS⟩
theorem mg_0 (hC : mX p c cc nL s m args G Z Q) (hH : mH G Q u s H locs) (hdg : decode cc pc = .ok (.getfield 9, 3)) (kk : W p l e R s m args below meth c H locs 0 0 Q' (F0 m (pc + 3) ls (.ref (Q 0) :: rest))) : W p l e R s m args below meth c H locs 0 0 Q' (F0 m pc ls (.ref (Q 72) :: rest)) :=
  va_get (D := gD G) (ci := 14) (v := .ref (Q 0)) (C := RX13) (T := TX13) (N := 72) hC.1 hC.2.1 hC.2.2.2.2.1 wMin hC.2.2.2.1 hC.2.2.2.2.2.1.1 hH.1 0 rfl rfl 0 (by decide) (hC.2.2.2.2.1 _ wma5) (fun _ h9 => h9) rfl hdg kk
theorem mg_1 (hC : mX p c cc nL s m args G Z Q) (hH : mH G Q u s H locs) (hdg : decode cc pc = .ok (.getfield 13, 3)) (kk : W p l e R s m args below meth c H locs 0 0 Q' (F0 m (pc + 3) ls (.ref (Q 1) :: rest))) : W p l e R s m args below meth c H locs 0 0 Q' (F0 m pc ls (.ref (Q 72) :: rest)) :=
  va_get (D := gD G) (ci := 14) (v := .ref (Q 1)) (C := RX13) (T := TX13) (N := 72) hC.1 hC.2.1 hC.2.2.2.2.1 wMin hC.2.2.2.1 hC.2.2.2.2.2.1.1 hH.1 0 rfl rfl 1 (by decide) (hC.2.2.2.2.1 _ wma6) (fun _ h9 => h9) rfl hdg kk
theorem mg_2 (hC : mX p c cc nL s m args G Z Q) (hH : mH G Q u s H locs) (hdg : decode cc pc = .ok (.getfield 176, 3)) (kk : W p l e R s m args below meth c H locs 0 0 Q' (F0 m (pc + 3) ls (.int (u.1 2) :: rest))) : W p l e R s m args below meth c H locs 0 0 Q' (F0 m pc ls (.ref (Q 72) :: rest)) :=
  va_get (D := gD G) (ci := 14) (v := .int (u.1 2)) (C := RX13) (T := TX13) (N := 72) hC.1 hC.2.1 hC.2.2.2.2.1 wMin hC.2.2.2.1 hC.2.2.2.2.2.1.1 hH.1 0 rfl rfl 2 (by decide) (hC.2.2.2.2.1 _ wma7) (fun _ h9 => h9) rfl hdg kk
theorem mp_2 {x : Int32} (hC : mX p c cc nL s m args G Z Q) (hH : mH G Q u s H locs) (hu : si u 2 x = u1) (hdg : decode cc pc = .ok (.putfield 176, 3)) (kk : ∀ (H : Heap) (locs : List Loc), mH G Q u1 s H locs → W p l e R s m args below meth c H locs 0 0 Q' (F0 m (pc + 3) ls rest)) : W p l e R s m args below meth c H locs 0 0 Q' (F0 m pc ls (.int x :: .ref (Q 72) :: rest)) := by
  subst hu
  exact va_put (D := gD G) (ci := 14) (v := .int x) (ty := tyX13 2) (C := RX13) (T := TX13) (N := 72) hC.1 hC.2.1 hC.2.2.2.2.1 wMin tyX13 tyX13_ok nmX13 hC.2.2.2.1 hC.2.2.2.2.2.1.1 hH.1 hH.2.1 hH.2.2 0 rfl rfl 2 (by decide) (hC.2.2.2.2.1 _ wma7) (fun _ h9 => h9) rfl (tyX13_ok 2 (by decide)) rfl rfl (Nat.le_of_ble_eq_true rfl) hdg (fun H locs a b d => kk H locs ⟨a, b, d⟩)
theorem mg_3 (hC : mX p c cc nL s m args G Z Q) (hH : mH G Q u s H locs) (hdg : decode cc pc = .ok (.getfield 179, 3)) (kk : W p l e R s m args below meth c H locs 0 0 Q' (F0 m (pc + 3) ls (.int (u.1 3) :: rest))) : W p l e R s m args below meth c H locs 0 0 Q' (F0 m pc ls (.ref (Q 72) :: rest)) :=
  va_get (D := gD G) (ci := 14) (v := .int (u.1 3)) (C := RX13) (T := TX13) (N := 72) hC.1 hC.2.1 hC.2.2.2.2.1 wMin hC.2.2.2.1 hC.2.2.2.2.2.1.1 hH.1 0 rfl rfl 3 (by decide) (hC.2.2.2.2.1 _ wma8) (fun _ h9 => h9) rfl hdg kk
theorem mp_3 {x : Int32} (hC : mX p c cc nL s m args G Z Q) (hH : mH G Q u s H locs) (hu : si u 3 x = u1) (hdg : decode cc pc = .ok (.putfield 179, 3)) (kk : ∀ (H : Heap) (locs : List Loc), mH G Q u1 s H locs → W p l e R s m args below meth c H locs 0 0 Q' (F0 m (pc + 3) ls rest)) : W p l e R s m args below meth c H locs 0 0 Q' (F0 m pc ls (.int x :: .ref (Q 72) :: rest)) := by
  subst hu
  exact va_put (D := gD G) (ci := 14) (v := .int x) (ty := tyX13 3) (C := RX13) (T := TX13) (N := 72) hC.1 hC.2.1 hC.2.2.2.2.1 wMin tyX13 tyX13_ok nmX13 hC.2.2.2.1 hC.2.2.2.2.2.1.1 hH.1 hH.2.1 hH.2.2 0 rfl rfl 3 (by decide) (hC.2.2.2.2.1 _ wma8) (fun _ h9 => h9) rfl (tyX13_ok 3 (by decide)) rfl rfl (Nat.le_of_ble_eq_true rfl) hdg (fun H locs a b d => kk H locs ⟨a, b, d⟩)
theorem mg_4 (hC : mX p c cc nL s m args G Z Q) (hH : mH G Q u s H locs) (hdg : decode cc pc = .ok (.getfield 182, 3)) (kk : W p l e R s m args below meth c H locs 0 0 Q' (F0 m (pc + 3) ls (.int (u.1 4) :: rest))) : W p l e R s m args below meth c H locs 0 0 Q' (F0 m pc ls (.ref (Q 72) :: rest)) :=
  va_get (D := gD G) (ci := 14) (v := .int (u.1 4)) (C := RX13) (T := TX13) (N := 72) hC.1 hC.2.1 hC.2.2.2.2.1 wMin hC.2.2.2.1 hC.2.2.2.2.2.1.1 hH.1 0 rfl rfl 4 (by decide) (hC.2.2.2.2.1 _ wma9) (fun _ h9 => h9) rfl hdg kk
theorem mp_4 {x : Int32} (hC : mX p c cc nL s m args G Z Q) (hH : mH G Q u s H locs) (hu : si u 4 x = u1) (hdg : decode cc pc = .ok (.putfield 182, 3)) (kk : ∀ (H : Heap) (locs : List Loc), mH G Q u1 s H locs → W p l e R s m args below meth c H locs 0 0 Q' (F0 m (pc + 3) ls rest)) : W p l e R s m args below meth c H locs 0 0 Q' (F0 m pc ls (.int x :: .ref (Q 72) :: rest)) := by
  subst hu
  exact va_put (D := gD G) (ci := 14) (v := .int x) (ty := tyX13 4) (C := RX13) (T := TX13) (N := 72) hC.1 hC.2.1 hC.2.2.2.2.1 wMin tyX13 tyX13_ok nmX13 hC.2.2.2.1 hC.2.2.2.2.2.1.1 hH.1 hH.2.1 hH.2.2 0 rfl rfl 4 (by decide) (hC.2.2.2.2.1 _ wma9) (fun _ h9 => h9) rfl (tyX13_ok 4 (by decide)) rfl rfl (Nat.le_of_ble_eq_true rfl) hdg (fun H locs a b d => kk H locs ⟨a, b, d⟩)
theorem mg_5 (hC : mX p c cc nL s m args G Z Q) (hH : mH G Q u s H locs) (hdg : decode cc pc = .ok (.getfield 16, 3)) (kk : W p l e R s m args below meth c H locs 0 0 Q' (F0 m (pc + 3) ls (.ref (Q 5) :: rest))) : W p l e R s m args below meth c H locs 0 0 Q' (F0 m pc ls (.ref (Q 72) :: rest)) :=
  va_get (D := gD G) (ci := 14) (v := .ref (Q 5)) (C := RX13) (T := TX13) (N := 72) hC.1 hC.2.1 hC.2.2.2.2.1 wMin hC.2.2.2.1 hC.2.2.2.2.2.1.1 hH.1 0 rfl rfl 5 (by decide) (hC.2.2.2.2.1 _ wma10) (fun _ h9 => h9) rfl hdg kk
theorem mg_6 (hC : mX p c cc nL s m args G Z Q) (hH : mH G Q u s H locs) (hdg : decode cc pc = .ok (.getfield 19, 3)) (kk : W p l e R s m args below meth c H locs 0 0 Q' (F0 m (pc + 3) ls (.ref (Q 6) :: rest))) : W p l e R s m args below meth c H locs 0 0 Q' (F0 m pc ls (.ref (Q 72) :: rest)) :=
  va_get (D := gD G) (ci := 14) (v := .ref (Q 6)) (C := RX13) (T := TX13) (N := 72) hC.1 hC.2.1 hC.2.2.2.2.1 wMin hC.2.2.2.1 hC.2.2.2.2.2.1.1 hH.1 0 rfl rfl 6 (by decide) (hC.2.2.2.2.1 _ wma11) (fun _ h9 => h9) rfl hdg kk
theorem mg_7 (hC : mX p c cc nL s m args G Z Q) (hH : mH G Q u s H locs) (hdg : decode cc pc = .ok (.getfield 22, 3)) (kk : W p l e R s m args below meth c H locs 0 0 Q' (F0 m (pc + 3) ls (.ref (Q 7) :: rest))) : W p l e R s m args below meth c H locs 0 0 Q' (F0 m pc ls (.ref (Q 72) :: rest)) :=
  va_get (D := gD G) (ci := 14) (v := .ref (Q 7)) (C := RX13) (T := TX13) (N := 72) hC.1 hC.2.1 hC.2.2.2.2.1 wMin hC.2.2.2.1 hC.2.2.2.2.2.1.1 hH.1 0 rfl rfl 7 (by decide) (hC.2.2.2.2.1 _ wma12) (fun _ h9 => h9) rfl hdg kk
theorem mg_8 (hC : mX p c cc nL s m args G Z Q) (hH : mH G Q u s H locs) (hdg : decode cc pc = .ok (.getfield 25, 3)) (kk : W p l e R s m args below meth c H locs 0 0 Q' (F0 m (pc + 3) ls (.ref (Q 8) :: rest))) : W p l e R s m args below meth c H locs 0 0 Q' (F0 m pc ls (.ref (Q 72) :: rest)) :=
  va_get (D := gD G) (ci := 14) (v := .ref (Q 8)) (C := RX13) (T := TX13) (N := 72) hC.1 hC.2.1 hC.2.2.2.2.1 wMin hC.2.2.2.1 hC.2.2.2.2.2.1.1 hH.1 0 rfl rfl 8 (by decide) (hC.2.2.2.2.1 _ wma13) (fun _ h9 => h9) rfl hdg kk
theorem mg_9 (hC : mX p c cc nL s m args G Z Q) (hH : mH G Q u s H locs) (hdg : decode cc pc = .ok (.getfield 28, 3)) (kk : W p l e R s m args below meth c H locs 0 0 Q' (F0 m (pc + 3) ls (.ref (Q 9) :: rest))) : W p l e R s m args below meth c H locs 0 0 Q' (F0 m pc ls (.ref (Q 72) :: rest)) :=
  va_get (D := gD G) (ci := 14) (v := .ref (Q 9)) (C := RX13) (T := TX13) (N := 72) hC.1 hC.2.1 hC.2.2.2.2.1 wMin hC.2.2.2.1 hC.2.2.2.2.2.1.1 hH.1 0 rfl rfl 9 (by decide) (hC.2.2.2.2.1 _ wma14) (fun _ h9 => h9) rfl hdg kk
theorem mg_10 (hC : mX p c cc nL s m args G Z Q) (hH : mH G Q u s H locs) (hdg : decode cc pc = .ok (.getfield 31, 3)) (kk : W p l e R s m args below meth c H locs 0 0 Q' (F0 m (pc + 3) ls (.ref (Q 10) :: rest))) : W p l e R s m args below meth c H locs 0 0 Q' (F0 m pc ls (.ref (Q 72) :: rest)) :=
  va_get (D := gD G) (ci := 14) (v := .ref (Q 10)) (C := RX13) (T := TX13) (N := 72) hC.1 hC.2.1 hC.2.2.2.2.1 wMin hC.2.2.2.1 hC.2.2.2.2.2.1.1 hH.1 0 rfl rfl 10 (by decide) (hC.2.2.2.2.1 _ wma15) (fun _ h9 => h9) rfl hdg kk
theorem mg_11 (hC : mX p c cc nL s m args G Z Q) (hH : mH G Q u s H locs) (hdg : decode cc pc = .ok (.getfield 34, 3)) (kk : W p l e R s m args below meth c H locs 0 0 Q' (F0 m (pc + 3) ls (.ref (Q 11) :: rest))) : W p l e R s m args below meth c H locs 0 0 Q' (F0 m pc ls (.ref (Q 72) :: rest)) :=
  va_get (D := gD G) (ci := 14) (v := .ref (Q 11)) (C := RX13) (T := TX13) (N := 72) hC.1 hC.2.1 hC.2.2.2.2.1 wMin hC.2.2.2.1 hC.2.2.2.2.2.1.1 hH.1 0 rfl rfl 11 (by decide) (hC.2.2.2.2.1 _ wma16) (fun _ h9 => h9) rfl hdg kk
theorem mg_12 (hC : mX p c cc nL s m args G Z Q) (hH : mH G Q u s H locs) (hdg : decode cc pc = .ok (.getfield 37, 3)) (kk : W p l e R s m args below meth c H locs 0 0 Q' (F0 m (pc + 3) ls (.ref (Q 12) :: rest))) : W p l e R s m args below meth c H locs 0 0 Q' (F0 m pc ls (.ref (Q 72) :: rest)) :=
  va_get (D := gD G) (ci := 14) (v := .ref (Q 12)) (C := RX13) (T := TX13) (N := 72) hC.1 hC.2.1 hC.2.2.2.2.1 wMin hC.2.2.2.1 hC.2.2.2.2.2.1.1 hH.1 0 rfl rfl 12 (by decide) (hC.2.2.2.2.1 _ wma17) (fun _ h9 => h9) rfl hdg kk
theorem mg_13 (hC : mX p c cc nL s m args G Z Q) (hH : mH G Q u s H locs) (hdg : decode cc pc = .ok (.getfield 40, 3)) (kk : W p l e R s m args below meth c H locs 0 0 Q' (F0 m (pc + 3) ls (.ref (Q 13) :: rest))) : W p l e R s m args below meth c H locs 0 0 Q' (F0 m pc ls (.ref (Q 72) :: rest)) :=
  va_get (D := gD G) (ci := 14) (v := .ref (Q 13)) (C := RX13) (T := TX13) (N := 72) hC.1 hC.2.1 hC.2.2.2.2.1 wMin hC.2.2.2.1 hC.2.2.2.2.2.1.1 hH.1 0 rfl rfl 13 (by decide) (hC.2.2.2.2.1 _ wma18) (fun _ h9 => h9) rfl hdg kk
theorem mg_14 (hC : mX p c cc nL s m args G Z Q) (hH : mH G Q u s H locs) (hdg : decode cc pc = .ok (.getfield 43, 3)) (kk : W p l e R s m args below meth c H locs 0 0 Q' (F0 m (pc + 3) ls (.ref (Q 14) :: rest))) : W p l e R s m args below meth c H locs 0 0 Q' (F0 m pc ls (.ref (Q 72) :: rest)) :=
  va_get (D := gD G) (ci := 14) (v := .ref (Q 14)) (C := RX13) (T := TX13) (N := 72) hC.1 hC.2.1 hC.2.2.2.2.1 wMin hC.2.2.2.1 hC.2.2.2.2.2.1.1 hH.1 0 rfl rfl 14 (by decide) (hC.2.2.2.2.1 _ wma19) (fun _ h9 => h9) rfl hdg kk
theorem mg_15 (hC : mX p c cc nL s m args G Z Q) (hH : mH G Q u s H locs) (hdg : decode cc pc = .ok (.getfield 46, 3)) (kk : W p l e R s m args below meth c H locs 0 0 Q' (F0 m (pc + 3) ls (.ref (Q 15) :: rest))) : W p l e R s m args below meth c H locs 0 0 Q' (F0 m pc ls (.ref (Q 72) :: rest)) :=
  va_get (D := gD G) (ci := 14) (v := .ref (Q 15)) (C := RX13) (T := TX13) (N := 72) hC.1 hC.2.1 hC.2.2.2.2.1 wMin hC.2.2.2.1 hC.2.2.2.2.2.1.1 hH.1 0 rfl rfl 15 (by decide) (hC.2.2.2.2.1 _ wma20) (fun _ h9 => h9) rfl hdg kk
theorem mg_16 (hC : mX p c cc nL s m args G Z Q) (hH : mH G Q u s H locs) (hdg : decode cc pc = .ok (.getfield 49, 3)) (kk : W p l e R s m args below meth c H locs 0 0 Q' (F0 m (pc + 3) ls (.ref (Q 16) :: rest))) : W p l e R s m args below meth c H locs 0 0 Q' (F0 m pc ls (.ref (Q 72) :: rest)) :=
  va_get (D := gD G) (ci := 14) (v := .ref (Q 16)) (C := RX13) (T := TX13) (N := 72) hC.1 hC.2.1 hC.2.2.2.2.1 wMin hC.2.2.2.1 hC.2.2.2.2.2.1.1 hH.1 0 rfl rfl 16 (by decide) (hC.2.2.2.2.1 _ wma21) (fun _ h9 => h9) rfl hdg kk
theorem mg_17 (hC : mX p c cc nL s m args G Z Q) (hH : mH G Q u s H locs) (hdg : decode cc pc = .ok (.getfield 52, 3)) (kk : W p l e R s m args below meth c H locs 0 0 Q' (F0 m (pc + 3) ls (.ref (Q 17) :: rest))) : W p l e R s m args below meth c H locs 0 0 Q' (F0 m pc ls (.ref (Q 72) :: rest)) :=
  va_get (D := gD G) (ci := 14) (v := .ref (Q 17)) (C := RX13) (T := TX13) (N := 72) hC.1 hC.2.1 hC.2.2.2.2.1 wMin hC.2.2.2.1 hC.2.2.2.2.2.1.1 hH.1 0 rfl rfl 17 (by decide) (hC.2.2.2.2.1 _ wma22) (fun _ h9 => h9) rfl hdg kk
theorem mg_18 (hC : mX p c cc nL s m args G Z Q) (hH : mH G Q u s H locs) (hdg : decode cc pc = .ok (.getfield 55, 3)) (kk : W p l e R s m args below meth c H locs 0 0 Q' (F0 m (pc + 3) ls (.ref (Q 18) :: rest))) : W p l e R s m args below meth c H locs 0 0 Q' (F0 m pc ls (.ref (Q 72) :: rest)) :=
  va_get (D := gD G) (ci := 14) (v := .ref (Q 18)) (C := RX13) (T := TX13) (N := 72) hC.1 hC.2.1 hC.2.2.2.2.1 wMin hC.2.2.2.1 hC.2.2.2.2.2.1.1 hH.1 0 rfl rfl 18 (by decide) (hC.2.2.2.2.1 _ wma23) (fun _ h9 => h9) rfl hdg kk
theorem mg_19 (hC : mX p c cc nL s m args G Z Q) (hH : mH G Q u s H locs) (hdg : decode cc pc = .ok (.getfield 58, 3)) (kk : W p l e R s m args below meth c H locs 0 0 Q' (F0 m (pc + 3) ls (.ref (Q 19) :: rest))) : W p l e R s m args below meth c H locs 0 0 Q' (F0 m pc ls (.ref (Q 72) :: rest)) :=
  va_get (D := gD G) (ci := 14) (v := .ref (Q 19)) (C := RX13) (T := TX13) (N := 72) hC.1 hC.2.1 hC.2.2.2.2.1 wMin hC.2.2.2.1 hC.2.2.2.2.2.1.1 hH.1 0 rfl rfl 19 (by decide) (hC.2.2.2.2.1 _ wma24) (fun _ h9 => h9) rfl hdg kk
theorem mg_20 (hC : mX p c cc nL s m args G Z Q) (hH : mH G Q u s H locs) (hdg : decode cc pc = .ok (.getfield 61, 3)) (kk : W p l e R s m args below meth c H locs 0 0 Q' (F0 m (pc + 3) ls (.ref (Q 20) :: rest))) : W p l e R s m args below meth c H locs 0 0 Q' (F0 m pc ls (.ref (Q 72) :: rest)) :=
  va_get (D := gD G) (ci := 14) (v := .ref (Q 20)) (C := RX13) (T := TX13) (N := 72) hC.1 hC.2.1 hC.2.2.2.2.1 wMin hC.2.2.2.1 hC.2.2.2.2.2.1.1 hH.1 0 rfl rfl 20 (by decide) (hC.2.2.2.2.1 _ wma25) (fun _ h9 => h9) rfl hdg kk
theorem mg_21 (hC : mX p c cc nL s m args G Z Q) (hH : mH G Q u s H locs) (hdg : decode cc pc = .ok (.getfield 64, 3)) (kk : W p l e R s m args below meth c H locs 0 0 Q' (F0 m (pc + 3) ls (.ref (Q 21) :: rest))) : W p l e R s m args below meth c H locs 0 0 Q' (F0 m pc ls (.ref (Q 72) :: rest)) :=
  va_get (D := gD G) (ci := 14) (v := .ref (Q 21)) (C := RX13) (T := TX13) (N := 72) hC.1 hC.2.1 hC.2.2.2.2.1 wMin hC.2.2.2.1 hC.2.2.2.2.2.1.1 hH.1 0 rfl rfl 21 (by decide) (hC.2.2.2.2.1 _ wma26) (fun _ h9 => h9) rfl hdg kk
theorem mg_22 (hC : mX p c cc nL s m args G Z Q) (hH : mH G Q u s H locs) (hdg : decode cc pc = .ok (.getfield 67, 3)) (kk : W p l e R s m args below meth c H locs 0 0 Q' (F0 m (pc + 3) ls (.ref (Q 22) :: rest))) : W p l e R s m args below meth c H locs 0 0 Q' (F0 m pc ls (.ref (Q 72) :: rest)) :=
  va_get (D := gD G) (ci := 14) (v := .ref (Q 22)) (C := RX13) (T := TX13) (N := 72) hC.1 hC.2.1 hC.2.2.2.2.1 wMin hC.2.2.2.1 hC.2.2.2.2.2.1.1 hH.1 0 rfl rfl 22 (by decide) (hC.2.2.2.2.1 _ wma27) (fun _ h9 => h9) rfl hdg kk
theorem mg_23 (hC : mX p c cc nL s m args G Z Q) (hH : mH G Q u s H locs) (hdg : decode cc pc = .ok (.getfield 70, 3)) (kk : W p l e R s m args below meth c H locs 0 0 Q' (F0 m (pc + 3) ls (.ref (Q 23) :: rest))) : W p l e R s m args below meth c H locs 0 0 Q' (F0 m pc ls (.ref (Q 72) :: rest)) :=
  va_get (D := gD G) (ci := 14) (v := .ref (Q 23)) (C := RX13) (T := TX13) (N := 72) hC.1 hC.2.1 hC.2.2.2.2.1 wMin hC.2.2.2.1 hC.2.2.2.2.2.1.1 hH.1 0 rfl rfl 23 (by decide) (hC.2.2.2.2.1 _ wma28) (fun _ h9 => h9) rfl hdg kk
theorem mg_24 (hC : mX p c cc nL s m args G Z Q) (hH : mH G Q u s H locs) (hdg : decode cc pc = .ok (.getfield 73, 3)) (kk : W p l e R s m args below meth c H locs 0 0 Q' (F0 m (pc + 3) ls (.ref (Q 24) :: rest))) : W p l e R s m args below meth c H locs 0 0 Q' (F0 m pc ls (.ref (Q 72) :: rest)) :=
  va_get (D := gD G) (ci := 14) (v := .ref (Q 24)) (C := RX13) (T := TX13) (N := 72) hC.1 hC.2.1 hC.2.2.2.2.1 wMin hC.2.2.2.1 hC.2.2.2.2.2.1.1 hH.1 0 rfl rfl 24 (by decide) (hC.2.2.2.2.1 _ wma29) (fun _ h9 => h9) rfl hdg kk
theorem mg_25 (hC : mX p c cc nL s m args G Z Q) (hH : mH G Q u s H locs) (hdg : decode cc pc = .ok (.getfield 76, 3)) (kk : W p l e R s m args below meth c H locs 0 0 Q' (F0 m (pc + 3) ls (.ref (Q 25) :: rest))) : W p l e R s m args below meth c H locs 0 0 Q' (F0 m pc ls (.ref (Q 72) :: rest)) :=
  va_get (D := gD G) (ci := 14) (v := .ref (Q 25)) (C := RX13) (T := TX13) (N := 72) hC.1 hC.2.1 hC.2.2.2.2.1 wMin hC.2.2.2.1 hC.2.2.2.2.2.1.1 hH.1 0 rfl rfl 25 (by decide) (hC.2.2.2.2.1 _ wma30) (fun _ h9 => h9) rfl hdg kk
theorem mg_26 (hC : mX p c cc nL s m args G Z Q) (hH : mH G Q u s H locs) (hdg : decode cc pc = .ok (.getfield 80, 3)) (kk : W p l e R s m args below meth c H locs 0 0 Q' (F0 m (pc + 3) ls (.ref (Q 26) :: rest))) : W p l e R s m args below meth c H locs 0 0 Q' (F0 m pc ls (.ref (Q 72) :: rest)) :=
  va_get (D := gD G) (ci := 14) (v := .ref (Q 26)) (C := RX13) (T := TX13) (N := 72) hC.1 hC.2.1 hC.2.2.2.2.1 wMin hC.2.2.2.1 hC.2.2.2.2.2.1.1 hH.1 0 rfl rfl 26 (by decide) (hC.2.2.2.2.1 _ wma31) (fun _ h9 => h9) rfl hdg kk
theorem mg_27 (hC : mX p c cc nL s m args G Z Q) (hH : mH G Q u s H locs) (hdg : decode cc pc = .ok (.getfield 195, 3)) (kk : W p l e R s m args below meth c H locs 0 0 Q' (F0 m (pc + 3) ls (.int (u.1 27) :: rest))) : W p l e R s m args below meth c H locs 0 0 Q' (F0 m pc ls (.ref (Q 72) :: rest)) :=
  va_get (D := gD G) (ci := 14) (v := .int (u.1 27)) (C := RX13) (T := TX13) (N := 72) hC.1 hC.2.1 hC.2.2.2.2.1 wMin hC.2.2.2.1 hC.2.2.2.2.2.1.1 hH.1 0 rfl rfl 27 (by decide) (hC.2.2.2.2.1 _ wma32) (fun _ h9 => h9) rfl hdg kk
theorem mp_27 {x : Int32} (hC : mX p c cc nL s m args G Z Q) (hH : mH G Q u s H locs) (hu : si u 27 x = u1) (hdg : decode cc pc = .ok (.putfield 195, 3)) (kk : ∀ (H : Heap) (locs : List Loc), mH G Q u1 s H locs → W p l e R s m args below meth c H locs 0 0 Q' (F0 m (pc + 3) ls rest)) : W p l e R s m args below meth c H locs 0 0 Q' (F0 m pc ls (.int x :: .ref (Q 72) :: rest)) := by
  subst hu
  exact va_put (D := gD G) (ci := 14) (v := .int x) (ty := tyX13 27) (C := RX13) (T := TX13) (N := 72) hC.1 hC.2.1 hC.2.2.2.2.1 wMin tyX13 tyX13_ok nmX13 hC.2.2.2.1 hC.2.2.2.2.2.1.1 hH.1 hH.2.1 hH.2.2 0 rfl rfl 27 (by decide) (hC.2.2.2.2.1 _ wma32) (fun _ h9 => h9) rfl (tyX13_ok 27 (by decide)) rfl rfl (Nat.le_of_ble_eq_true rfl) hdg (fun H locs a b d => kk H locs ⟨a, b, d⟩)
theorem mg_28 (hC : mX p c cc nL s m args G Z Q) (hH : mH G Q u s H locs) (hdg : decode cc pc = .ok (.getfield 198, 3)) (kk : W p l e R s m args below meth c H locs 0 0 Q' (F0 m (pc + 3) ls (.int (u.1 28) :: rest))) : W p l e R s m args below meth c H locs 0 0 Q' (F0 m pc ls (.ref (Q 72) :: rest)) :=
  va_get (D := gD G) (ci := 14) (v := .int (u.1 28)) (C := RX13) (T := TX13) (N := 72) hC.1 hC.2.1 hC.2.2.2.2.1 wMin hC.2.2.2.1 hC.2.2.2.2.2.1.1 hH.1 0 rfl rfl 28 (by decide) (hC.2.2.2.2.1 _ wma33) (fun _ h9 => h9) rfl hdg kk
theorem mp_28 {x : Int32} (hC : mX p c cc nL s m args G Z Q) (hH : mH G Q u s H locs) (hu : si u 28 x = u1) (hdg : decode cc pc = .ok (.putfield 198, 3)) (kk : ∀ (H : Heap) (locs : List Loc), mH G Q u1 s H locs → W p l e R s m args below meth c H locs 0 0 Q' (F0 m (pc + 3) ls rest)) : W p l e R s m args below meth c H locs 0 0 Q' (F0 m pc ls (.int x :: .ref (Q 72) :: rest)) := by
  subst hu
  exact va_put (D := gD G) (ci := 14) (v := .int x) (ty := tyX13 28) (C := RX13) (T := TX13) (N := 72) hC.1 hC.2.1 hC.2.2.2.2.1 wMin tyX13 tyX13_ok nmX13 hC.2.2.2.1 hC.2.2.2.2.2.1.1 hH.1 hH.2.1 hH.2.2 0 rfl rfl 28 (by decide) (hC.2.2.2.2.1 _ wma33) (fun _ h9 => h9) rfl (tyX13_ok 28 (by decide)) rfl rfl (Nat.le_of_ble_eq_true rfl) hdg (fun H locs a b d => kk H locs ⟨a, b, d⟩)
theorem mg_29 (hC : mX p c cc nL s m args G Z Q) (hH : mH G Q u s H locs) (hdg : decode cc pc = .ok (.getfield 186, 3)) (kk : W p l e R s m args below meth c H locs 0 0 Q' (F0 m (pc + 3) ls (.int (u.1 29) :: rest))) : W p l e R s m args below meth c H locs 0 0 Q' (F0 m pc ls (.ref (Q 72) :: rest)) :=
  va_get (D := gD G) (ci := 14) (v := .int (u.1 29)) (C := RX13) (T := TX13) (N := 72) hC.1 hC.2.1 hC.2.2.2.2.1 wMin hC.2.2.2.1 hC.2.2.2.2.2.1.1 hH.1 0 rfl rfl 29 (by decide) (hC.2.2.2.2.1 _ wma34) (fun _ h9 => h9) rfl hdg kk
theorem mp_29 {x : Int32} (hC : mX p c cc nL s m args G Z Q) (hH : mH G Q u s H locs) (hu : si u 29 x = u1) (hdg : decode cc pc = .ok (.putfield 186, 3)) (kk : ∀ (H : Heap) (locs : List Loc), mH G Q u1 s H locs → W p l e R s m args below meth c H locs 0 0 Q' (F0 m (pc + 3) ls rest)) : W p l e R s m args below meth c H locs 0 0 Q' (F0 m pc ls (.int x :: .ref (Q 72) :: rest)) := by
  subst hu
  exact va_put (D := gD G) (ci := 14) (v := .int x) (ty := tyX13 29) (C := RX13) (T := TX13) (N := 72) hC.1 hC.2.1 hC.2.2.2.2.1 wMin tyX13 tyX13_ok nmX13 hC.2.2.2.1 hC.2.2.2.2.2.1.1 hH.1 hH.2.1 hH.2.2 0 rfl rfl 29 (by decide) (hC.2.2.2.2.1 _ wma34) (fun _ h9 => h9) rfl (tyX13_ok 29 (by decide)) rfl rfl (Nat.le_of_ble_eq_true rfl) hdg (fun H locs a b d => kk H locs ⟨a, b, d⟩)
theorem mg_30 (hC : mX p c cc nL s m args G Z Q) (hH : mH G Q u s H locs) (hdg : decode cc pc = .ok (.getfield 189, 3)) (kk : W p l e R s m args below meth c H locs 0 0 Q' (F0 m (pc + 3) ls (.int (u.1 30) :: rest))) : W p l e R s m args below meth c H locs 0 0 Q' (F0 m pc ls (.ref (Q 72) :: rest)) :=
  va_get (D := gD G) (ci := 14) (v := .int (u.1 30)) (C := RX13) (T := TX13) (N := 72) hC.1 hC.2.1 hC.2.2.2.2.1 wMin hC.2.2.2.1 hC.2.2.2.2.2.1.1 hH.1 0 rfl rfl 30 (by decide) (hC.2.2.2.2.1 _ wma35) (fun _ h9 => h9) rfl hdg kk
theorem mp_30 {x : Int32} (hC : mX p c cc nL s m args G Z Q) (hH : mH G Q u s H locs) (hu : si u 30 x = u1) (hdg : decode cc pc = .ok (.putfield 189, 3)) (kk : ∀ (H : Heap) (locs : List Loc), mH G Q u1 s H locs → W p l e R s m args below meth c H locs 0 0 Q' (F0 m (pc + 3) ls rest)) : W p l e R s m args below meth c H locs 0 0 Q' (F0 m pc ls (.int x :: .ref (Q 72) :: rest)) := by
  subst hu
  exact va_put (D := gD G) (ci := 14) (v := .int x) (ty := tyX13 30) (C := RX13) (T := TX13) (N := 72) hC.1 hC.2.1 hC.2.2.2.2.1 wMin tyX13 tyX13_ok nmX13 hC.2.2.2.1 hC.2.2.2.2.2.1.1 hH.1 hH.2.1 hH.2.2 0 rfl rfl 30 (by decide) (hC.2.2.2.2.1 _ wma35) (fun _ h9 => h9) rfl (tyX13_ok 30 (by decide)) rfl rfl (Nat.le_of_ble_eq_true rfl) hdg (fun H locs a b d => kk H locs ⟨a, b, d⟩)
theorem mg_31 (hC : mX p c cc nL s m args G Z Q) (hH : mH G Q u s H locs) (hdg : decode cc pc = .ok (.getfield 192, 3)) (kk : W p l e R s m args below meth c H locs 0 0 Q' (F0 m (pc + 3) ls (.int (u.1 31) :: rest))) : W p l e R s m args below meth c H locs 0 0 Q' (F0 m pc ls (.ref (Q 72) :: rest)) :=
  va_get (D := gD G) (ci := 14) (v := .int (u.1 31)) (C := RX13) (T := TX13) (N := 72) hC.1 hC.2.1 hC.2.2.2.2.1 wMin hC.2.2.2.1 hC.2.2.2.2.2.1.1 hH.1 0 rfl rfl 31 (by decide) (hC.2.2.2.2.1 _ wma36) (fun _ h9 => h9) rfl hdg kk
theorem mp_31 {x : Int32} (hC : mX p c cc nL s m args G Z Q) (hH : mH G Q u s H locs) (hu : si u 31 x = u1) (hdg : decode cc pc = .ok (.putfield 192, 3)) (kk : ∀ (H : Heap) (locs : List Loc), mH G Q u1 s H locs → W p l e R s m args below meth c H locs 0 0 Q' (F0 m (pc + 3) ls rest)) : W p l e R s m args below meth c H locs 0 0 Q' (F0 m pc ls (.int x :: .ref (Q 72) :: rest)) := by
  subst hu
  exact va_put (D := gD G) (ci := 14) (v := .int x) (ty := tyX13 31) (C := RX13) (T := TX13) (N := 72) hC.1 hC.2.1 hC.2.2.2.2.1 wMin tyX13 tyX13_ok nmX13 hC.2.2.2.1 hC.2.2.2.2.2.1.1 hH.1 hH.2.1 hH.2.2 0 rfl rfl 31 (by decide) (hC.2.2.2.2.1 _ wma36) (fun _ h9 => h9) rfl (tyX13_ok 31 (by decide)) rfl rfl (Nat.le_of_ble_eq_true rfl) hdg (fun H locs a b d => kk H locs ⟨a, b, d⟩)
theorem mg_32 (hC : mX p c cc nL s m args G Z Q) (hH : mH G Q u s H locs) (hdg : decode cc pc = .ok (.getfield 83, 3)) (kk : W p l e R s m args below meth c H locs 0 0 Q' (F0 m (pc + 3) ls (.ref (Q 32) :: rest))) : W p l e R s m args below meth c H locs 0 0 Q' (F0 m pc ls (.ref (Q 72) :: rest)) :=
  va_get (D := gD G) (ci := 14) (v := .ref (Q 32)) (C := RX13) (T := TX13) (N := 72) hC.1 hC.2.1 hC.2.2.2.2.1 wMin hC.2.2.2.1 hC.2.2.2.2.2.1.1 hH.1 0 rfl rfl 32 (by decide) (hC.2.2.2.2.1 _ wma37) (fun _ h9 => h9) rfl hdg kk
theorem mg_33 (hC : mX p c cc nL s m args G Z Q) (hH : mH G Q u s H locs) (hdg : decode cc pc = .ok (.getfield 87, 3)) (kk : W p l e R s m args below meth c H locs 0 0 Q' (F0 m (pc + 3) ls (.ref (Q 33) :: rest))) : W p l e R s m args below meth c H locs 0 0 Q' (F0 m pc ls (.ref (Q 72) :: rest)) :=
  va_get (D := gD G) (ci := 14) (v := .ref (Q 33)) (C := RX13) (T := TX13) (N := 72) hC.1 hC.2.1 hC.2.2.2.2.1 wMin hC.2.2.2.1 hC.2.2.2.2.2.1.1 hH.1 0 rfl rfl 33 (by decide) (hC.2.2.2.2.1 _ wma38) (fun _ h9 => h9) rfl hdg kk
theorem mg_34 (hC : mX p c cc nL s m args G Z Q) (hH : mH G Q u s H locs) (hdg : decode cc pc = .ok (.getfield 90, 3)) (kk : W p l e R s m args below meth c H locs 0 0 Q' (F0 m (pc + 3) ls (.ref (Q 34) :: rest))) : W p l e R s m args below meth c H locs 0 0 Q' (F0 m pc ls (.ref (Q 72) :: rest)) :=
  va_get (D := gD G) (ci := 14) (v := .ref (Q 34)) (C := RX13) (T := TX13) (N := 72) hC.1 hC.2.1 hC.2.2.2.2.1 wMin hC.2.2.2.1 hC.2.2.2.2.2.1.1 hH.1 0 rfl rfl 34 (by decide) (hC.2.2.2.2.1 _ wma39) (fun _ h9 => h9) rfl hdg kk
theorem mg_35 (hC : mX p c cc nL s m args G Z Q) (hH : mH G Q u s H locs) (hdg : decode cc pc = .ok (.getfield 93, 3)) (kk : W p l e R s m args below meth c H locs 0 0 Q' (F0 m (pc + 3) ls (.ref (Q 35) :: rest))) : W p l e R s m args below meth c H locs 0 0 Q' (F0 m pc ls (.ref (Q 72) :: rest)) :=
  va_get (D := gD G) (ci := 14) (v := .ref (Q 35)) (C := RX13) (T := TX13) (N := 72) hC.1 hC.2.1 hC.2.2.2.2.1 wMin hC.2.2.2.1 hC.2.2.2.2.2.1.1 hH.1 0 rfl rfl 35 (by decide) (hC.2.2.2.2.1 _ wma40) (fun _ h9 => h9) rfl hdg kk
theorem mg_36 (hC : mX p c cc nL s m args G Z Q) (hH : mH G Q u s H locs) (hdg : decode cc pc = .ok (.getfield 96, 3)) (kk : W p l e R s m args below meth c H locs 0 0 Q' (F0 m (pc + 3) ls (.ref (Q 36) :: rest))) : W p l e R s m args below meth c H locs 0 0 Q' (F0 m pc ls (.ref (Q 72) :: rest)) :=
  va_get (D := gD G) (ci := 14) (v := .ref (Q 36)) (C := RX13) (T := TX13) (N := 72) hC.1 hC.2.1 hC.2.2.2.2.1 wMin hC.2.2.2.1 hC.2.2.2.2.2.1.1 hH.1 0 rfl rfl 36 (by decide) (hC.2.2.2.2.1 _ wma41) (fun _ h9 => h9) rfl hdg kk
theorem mg_37 (hC : mX p c cc nL s m args G Z Q) (hH : mH G Q u s H locs) (hdg : decode cc pc = .ok (.getfield 99, 3)) (kk : W p l e R s m args below meth c H locs 0 0 Q' (F0 m (pc + 3) ls (.ref (Q 37) :: rest))) : W p l e R s m args below meth c H locs 0 0 Q' (F0 m pc ls (.ref (Q 72) :: rest)) :=
  va_get (D := gD G) (ci := 14) (v := .ref (Q 37)) (C := RX13) (T := TX13) (N := 72) hC.1 hC.2.1 hC.2.2.2.2.1 wMin hC.2.2.2.1 hC.2.2.2.2.2.1.1 hH.1 0 rfl rfl 37 (by decide) (hC.2.2.2.2.1 _ wma42) (fun _ h9 => h9) rfl hdg kk
theorem mg_38 (hC : mX p c cc nL s m args G Z Q) (hH : mH G Q u s H locs) (hdg : decode cc pc = .ok (.getfield 102, 3)) (kk : W p l e R s m args below meth c H locs 0 0 Q' (F0 m (pc + 3) ls (.ref (Q 38) :: rest))) : W p l e R s m args below meth c H locs 0 0 Q' (F0 m pc ls (.ref (Q 72) :: rest)) :=
  va_get (D := gD G) (ci := 14) (v := .ref (Q 38)) (C := RX13) (T := TX13) (N := 72) hC.1 hC.2.1 hC.2.2.2.2.1 wMin hC.2.2.2.1 hC.2.2.2.2.2.1.1 hH.1 0 rfl rfl 38 (by decide) (hC.2.2.2.2.1 _ wma43) (fun _ h9 => h9) rfl hdg kk
theorem mg_39 (hC : mX p c cc nL s m args G Z Q) (hH : mH G Q u s H locs) (hdg : decode cc pc = .ok (.getfield 108, 3)) (kk : W p l e R s m args below meth c H locs 0 0 Q' (F0 m (pc + 3) ls (.ref (Q 39) :: rest))) : W p l e R s m args below meth c H locs 0 0 Q' (F0 m pc ls (.ref (Q 72) :: rest)) :=
  va_get (D := gD G) (ci := 14) (v := .ref (Q 39)) (C := RX13) (T := TX13) (N := 72) hC.1 hC.2.1 hC.2.2.2.2.1 wMin hC.2.2.2.1 hC.2.2.2.2.2.1.1 hH.1 0 rfl rfl 39 (by decide) (hC.2.2.2.2.1 _ wma44) (fun _ h9 => h9) rfl hdg kk
theorem mg_40 (hC : mX p c cc nL s m args G Z Q) (hH : mH G Q u s H locs) (hdg : decode cc pc = .ok (.getfield 112, 3)) (kk : W p l e R s m args below meth c H locs 0 0 Q' (F0 m (pc + 3) ls (.ref (Q 40) :: rest))) : W p l e R s m args below meth c H locs 0 0 Q' (F0 m pc ls (.ref (Q 72) :: rest)) :=
  va_get (D := gD G) (ci := 14) (v := .ref (Q 40)) (C := RX13) (T := TX13) (N := 72) hC.1 hC.2.1 hC.2.2.2.2.1 wMin hC.2.2.2.1 hC.2.2.2.2.2.1.1 hH.1 0 rfl rfl 40 (by decide) (hC.2.2.2.2.1 _ wma45) (fun _ h9 => h9) rfl hdg kk
theorem mg_41 (hC : mX p c cc nL s m args G Z Q) (hH : mH G Q u s H locs) (hdg : decode cc pc = .ok (.getfield 115, 3)) (kk : W p l e R s m args below meth c H locs 0 0 Q' (F0 m (pc + 3) ls (.ref (if u.1 41 = 0 then Q 40 else Q 56) :: rest))) : W p l e R s m args below meth c H locs 0 0 Q' (F0 m pc ls (.ref (Q 72) :: rest)) :=
  va_get (D := gD G) (ci := 14) (v := .ref (if u.1 41 = 0 then Q 40 else Q 56)) (C := RX13) (T := TX13) (N := 72) hC.1 hC.2.1 hC.2.2.2.2.1 wMin hC.2.2.2.1 hC.2.2.2.2.2.1.1 hH.1 0 rfl rfl 41 (by decide) (hC.2.2.2.2.1 _ wma46) (fun _ h9 => h9) rfl hdg kk
theorem mp_41_0 (hC : mX p c cc nL s m args G Z Q) (hH : mH G Q u s H locs) (hu : si u 41 0 = u1) (hdg : decode cc pc = .ok (.putfield 115, 3)) (kk : ∀ (H : Heap) (locs : List Loc), mH G Q u1 s H locs → W p l e R s m args below meth c H locs 0 0 Q' (F0 m (pc + 3) ls rest)) : W p l e R s m args below meth c H locs 0 0 Q' (F0 m pc ls (.ref (Q 40) :: .ref (Q 72) :: rest)) := by
  subst hu
  exact va_put (D := gD G) (ci := 14) (v := .ref (Q 40)) (ty := tyX13 41) (C := RX13) (T := TX13) (N := 72) hC.1 hC.2.1 hC.2.2.2.2.1 wMin tyX13 tyX13_ok nmX13 hC.2.2.2.1 hC.2.2.2.2.2.1.1 hH.1 hH.2.1 hH.2.2 0 rfl rfl 41 (by decide) (hC.2.2.2.2.1 _ wma46) (fun _ h9 => h9) rfl (tyX13_ok 41 (by decide)) rfl rfl (Nat.le_of_ble_eq_true rfl) hdg (fun H locs a b d => kk H locs ⟨a, b, d⟩)
theorem mp_41_1 (hC : mX p c cc nL s m args G Z Q) (hH : mH G Q u s H locs) (hu : si u 41 1 = u1) (hdg : decode cc pc = .ok (.putfield 115, 3)) (kk : ∀ (H : Heap) (locs : List Loc), mH G Q u1 s H locs → W p l e R s m args below meth c H locs 0 0 Q' (F0 m (pc + 3) ls rest)) : W p l e R s m args below meth c H locs 0 0 Q' (F0 m pc ls (.ref (Q 56) :: .ref (Q 72) :: rest)) := by
  subst hu
  exact va_put (D := gD G) (ci := 14) (v := .ref (Q 56)) (ty := tyX13 41) (C := RX13) (T := TX13) (N := 72) hC.1 hC.2.1 hC.2.2.2.2.1 wMin tyX13 tyX13_ok nmX13 hC.2.2.2.1 hC.2.2.2.2.2.1.1 hH.1 hH.2.1 hH.2.2 0 rfl rfl 41 (by decide) (hC.2.2.2.2.1 _ wma46) (fun _ h9 => h9) rfl (tyX13_ok 41 (by decide)) rfl rfl (Nat.le_of_ble_eq_true rfl) hdg (fun H locs a b d => kk H locs ⟨a, b, d⟩)
theorem mg_42 (hC : mX p c cc nL s m args G Z Q) (hH : mH G Q u s H locs) (hdg : decode cc pc = .ok (.getfield 457, 3)) (kk : W p l e R s m args below meth c H locs 0 0 Q' (F0 m (pc + 3) ls (.int (u.1 42) :: rest))) : W p l e R s m args below meth c H locs 0 0 Q' (F0 m pc ls (.ref (Q 72) :: rest)) :=
  va_get (D := gD G) (ci := 14) (v := .int (u.1 42)) (C := RX13) (T := TX13) (N := 72) hC.1 hC.2.1 hC.2.2.2.2.1 wMin hC.2.2.2.1 hC.2.2.2.2.2.1.1 hH.1 0 rfl rfl 42 (by decide) (hC.2.2.2.2.1 _ wma47) (fun _ h9 => h9) rfl hdg kk
theorem mp_42 {x : Int32} (hC : mX p c cc nL s m args G Z Q) (hH : mH G Q u s H locs) (hu : si u 42 x = u1) (hdg : decode cc pc = .ok (.putfield 457, 3)) (kk : ∀ (H : Heap) (locs : List Loc), mH G Q u1 s H locs → W p l e R s m args below meth c H locs 0 0 Q' (F0 m (pc + 3) ls rest)) : W p l e R s m args below meth c H locs 0 0 Q' (F0 m pc ls (.int x :: .ref (Q 72) :: rest)) := by
  subst hu
  exact va_put (D := gD G) (ci := 14) (v := .int x) (ty := tyX13 42) (C := RX13) (T := TX13) (N := 72) hC.1 hC.2.1 hC.2.2.2.2.1 wMin tyX13 tyX13_ok nmX13 hC.2.2.2.1 hC.2.2.2.2.2.1.1 hH.1 hH.2.1 hH.2.2 0 rfl rfl 42 (by decide) (hC.2.2.2.2.1 _ wma47) (fun _ h9 => h9) rfl (tyX13_ok 42 (by decide)) rfl rfl (Nat.le_of_ble_eq_true rfl) hdg (fun H locs a b d => kk H locs ⟨a, b, d⟩)
theorem mg_43 (hC : mX p c cc nL s m args G Z Q) (hH : mH G Q u s H locs) (hdg : decode cc pc = .ok (.getfield 265, 3)) (kk : W p l e R s m args below meth c H locs 0 0 Q' (F0 m (pc + 3) ls (.int (u.1 43) :: rest))) : W p l e R s m args below meth c H locs 0 0 Q' (F0 m pc ls (.ref (Q 72) :: rest)) :=
  va_get (D := gD G) (ci := 14) (v := .int (u.1 43)) (C := RX13) (T := TX13) (N := 72) hC.1 hC.2.1 hC.2.2.2.2.1 wMin hC.2.2.2.1 hC.2.2.2.2.2.1.1 hH.1 0 rfl rfl 43 (by decide) (hC.2.2.2.2.1 _ wma48) (fun _ h9 => h9) rfl hdg kk
theorem mp_43 {x : Int32} (hC : mX p c cc nL s m args G Z Q) (hH : mH G Q u s H locs) (hu : si u 43 x = u1) (hdg : decode cc pc = .ok (.putfield 265, 3)) (kk : ∀ (H : Heap) (locs : List Loc), mH G Q u1 s H locs → W p l e R s m args below meth c H locs 0 0 Q' (F0 m (pc + 3) ls rest)) : W p l e R s m args below meth c H locs 0 0 Q' (F0 m pc ls (.int x :: .ref (Q 72) :: rest)) := by
  subst hu
  exact va_put (D := gD G) (ci := 14) (v := .int x) (ty := tyX13 43) (C := RX13) (T := TX13) (N := 72) hC.1 hC.2.1 hC.2.2.2.2.1 wMin tyX13 tyX13_ok nmX13 hC.2.2.2.1 hC.2.2.2.2.2.1.1 hH.1 hH.2.1 hH.2.2 0 rfl rfl 43 (by decide) (hC.2.2.2.2.1 _ wma48) (fun _ h9 => h9) rfl (tyX13_ok 43 (by decide)) rfl rfl (Nat.le_of_ble_eq_true rfl) hdg (fun H locs a b d => kk H locs ⟨a, b, d⟩)
theorem mg_44 (hC : mX p c cc nL s m args G Z Q) (hH : mH G Q u s H locs) (hdg : decode cc pc = .ok (.getfield 271, 3)) (kk : W p l e R s m args below meth c H locs 0 0 Q' (F0 m (pc + 3) ls (.int (u.1 44) :: rest))) : W p l e R s m args below meth c H locs 0 0 Q' (F0 m pc ls (.ref (Q 72) :: rest)) :=
  va_get (D := gD G) (ci := 14) (v := .int (u.1 44)) (C := RX13) (T := TX13) (N := 72) hC.1 hC.2.1 hC.2.2.2.2.1 wMin hC.2.2.2.1 hC.2.2.2.2.2.1.1 hH.1 0 rfl rfl 44 (by decide) (hC.2.2.2.2.1 _ wma49) (fun _ h9 => h9) rfl hdg kk
theorem mp_44 {x : Int32} (hC : mX p c cc nL s m args G Z Q) (hH : mH G Q u s H locs) (hu : si u 44 x = u1) (hdg : decode cc pc = .ok (.putfield 271, 3)) (kk : ∀ (H : Heap) (locs : List Loc), mH G Q u1 s H locs → W p l e R s m args below meth c H locs 0 0 Q' (F0 m (pc + 3) ls rest)) : W p l e R s m args below meth c H locs 0 0 Q' (F0 m pc ls (.int x :: .ref (Q 72) :: rest)) := by
  subst hu
  exact va_put (D := gD G) (ci := 14) (v := .int x) (ty := tyX13 44) (C := RX13) (T := TX13) (N := 72) hC.1 hC.2.1 hC.2.2.2.2.1 wMin tyX13 tyX13_ok nmX13 hC.2.2.2.1 hC.2.2.2.2.2.1.1 hH.1 hH.2.1 hH.2.2 0 rfl rfl 44 (by decide) (hC.2.2.2.2.1 _ wma49) (fun _ h9 => h9) rfl (tyX13_ok 44 (by decide)) rfl rfl (Nat.le_of_ble_eq_true rfl) hdg (fun H locs a b d => kk H locs ⟨a, b, d⟩)
theorem mg_45 (hC : mX p c cc nL s m args G Z Q) (hH : mH G Q u s H locs) (hdg : decode cc pc = .ok (.getfield 268, 3)) (kk : W p l e R s m args below meth c H locs 0 0 Q' (F0 m (pc + 3) ls (.int (u.1 45) :: rest))) : W p l e R s m args below meth c H locs 0 0 Q' (F0 m pc ls (.ref (Q 72) :: rest)) :=
  va_get (D := gD G) (ci := 14) (v := .int (u.1 45)) (C := RX13) (T := TX13) (N := 72) hC.1 hC.2.1 hC.2.2.2.2.1 wMin hC.2.2.2.1 hC.2.2.2.2.2.1.1 hH.1 0 rfl rfl 45 (by decide) (hC.2.2.2.2.1 _ wma50) (fun _ h9 => h9) rfl hdg kk
theorem mp_45 {x : Int32} (hC : mX p c cc nL s m args G Z Q) (hH : mH G Q u s H locs) (hu : si u 45 x = u1) (hdg : decode cc pc = .ok (.putfield 268, 3)) (kk : ∀ (H : Heap) (locs : List Loc), mH G Q u1 s H locs → W p l e R s m args below meth c H locs 0 0 Q' (F0 m (pc + 3) ls rest)) : W p l e R s m args below meth c H locs 0 0 Q' (F0 m pc ls (.int x :: .ref (Q 72) :: rest)) := by
  subst hu
  exact va_put (D := gD G) (ci := 14) (v := .int x) (ty := tyX13 45) (C := RX13) (T := TX13) (N := 72) hC.1 hC.2.1 hC.2.2.2.2.1 wMin tyX13 tyX13_ok nmX13 hC.2.2.2.1 hC.2.2.2.2.2.1.1 hH.1 hH.2.1 hH.2.2 0 rfl rfl 45 (by decide) (hC.2.2.2.2.1 _ wma50) (fun _ h9 => h9) rfl (tyX13_ok 45 (by decide)) rfl rfl (Nat.le_of_ble_eq_true rfl) hdg (fun H locs a b d => kk H locs ⟨a, b, d⟩)
theorem mg_46 (hC : mX p c cc nL s m args G Z Q) (hH : mH G Q u s H locs) (hdg : decode cc pc = .ok (.getfield 277, 3)) (kk : W p l e R s m args below meth c H locs 0 0 Q' (F0 m (pc + 3) ls (.int (u.1 46) :: rest))) : W p l e R s m args below meth c H locs 0 0 Q' (F0 m pc ls (.ref (Q 72) :: rest)) :=
  va_get (D := gD G) (ci := 14) (v := .int (u.1 46)) (C := RX13) (T := TX13) (N := 72) hC.1 hC.2.1 hC.2.2.2.2.1 wMin hC.2.2.2.1 hC.2.2.2.2.2.1.1 hH.1 0 rfl rfl 46 (by decide) (hC.2.2.2.2.1 _ wma51) (fun _ h9 => h9) rfl hdg kk
theorem mp_46 {x : Int32} (hC : mX p c cc nL s m args G Z Q) (hH : mH G Q u s H locs) (hu : si u 46 x = u1) (hdg : decode cc pc = .ok (.putfield 277, 3)) (kk : ∀ (H : Heap) (locs : List Loc), mH G Q u1 s H locs → W p l e R s m args below meth c H locs 0 0 Q' (F0 m (pc + 3) ls rest)) : W p l e R s m args below meth c H locs 0 0 Q' (F0 m pc ls (.int x :: .ref (Q 72) :: rest)) := by
  subst hu
  exact va_put (D := gD G) (ci := 14) (v := .int x) (ty := tyX13 46) (C := RX13) (T := TX13) (N := 72) hC.1 hC.2.1 hC.2.2.2.2.1 wMin tyX13 tyX13_ok nmX13 hC.2.2.2.1 hC.2.2.2.2.2.1.1 hH.1 hH.2.1 hH.2.2 0 rfl rfl 46 (by decide) (hC.2.2.2.2.1 _ wma51) (fun _ h9 => h9) rfl (tyX13_ok 46 (by decide)) rfl rfl (Nat.le_of_ble_eq_true rfl) hdg (fun H locs a b d => kk H locs ⟨a, b, d⟩)
theorem mg_47 (hC : mX p c cc nL s m args G Z Q) (hH : mH G Q u s H locs) (hdg : decode cc pc = .ok (.getfield 286, 3)) (kk : W p l e R s m args below meth c H locs 0 0 Q' (F0 m (pc + 3) ls (.int (u.1 47) :: rest))) : W p l e R s m args below meth c H locs 0 0 Q' (F0 m pc ls (.ref (Q 72) :: rest)) :=
  va_get (D := gD G) (ci := 14) (v := .int (u.1 47)) (C := RX13) (T := TX13) (N := 72) hC.1 hC.2.1 hC.2.2.2.2.1 wMin hC.2.2.2.1 hC.2.2.2.2.2.1.1 hH.1 0 rfl rfl 47 (by decide) (hC.2.2.2.2.1 _ wma52) (fun _ h9 => h9) rfl hdg kk
theorem mp_47 {x : Int32} (hC : mX p c cc nL s m args G Z Q) (hH : mH G Q u s H locs) (hu : si u 47 x = u1) (hdg : decode cc pc = .ok (.putfield 286, 3)) (kk : ∀ (H : Heap) (locs : List Loc), mH G Q u1 s H locs → W p l e R s m args below meth c H locs 0 0 Q' (F0 m (pc + 3) ls rest)) : W p l e R s m args below meth c H locs 0 0 Q' (F0 m pc ls (.int x :: .ref (Q 72) :: rest)) := by
  subst hu
  exact va_put (D := gD G) (ci := 14) (v := .int x) (ty := tyX13 47) (C := RX13) (T := TX13) (N := 72) hC.1 hC.2.1 hC.2.2.2.2.1 wMin tyX13 tyX13_ok nmX13 hC.2.2.2.1 hC.2.2.2.2.2.1.1 hH.1 hH.2.1 hH.2.2 0 rfl rfl 47 (by decide) (hC.2.2.2.2.1 _ wma52) (fun _ h9 => h9) rfl (tyX13_ok 47 (by decide)) rfl rfl (Nat.le_of_ble_eq_true rfl) hdg (fun H locs a b d => kk H locs ⟨a, b, d⟩)
theorem mg_48 (hC : mX p c cc nL s m args G Z Q) (hH : mH G Q u s H locs) (hdg : decode cc pc = .ok (.getfield 363, 3)) (kk : W p l e R s m args below meth c H locs 0 0 Q' (F0 m (pc + 3) ls (.int (u.1 48) :: rest))) : W p l e R s m args below meth c H locs 0 0 Q' (F0 m pc ls (.ref (Q 72) :: rest)) :=
  va_get (D := gD G) (ci := 14) (v := .int (u.1 48)) (C := RX13) (T := TX13) (N := 72) hC.1 hC.2.1 hC.2.2.2.2.1 wMin hC.2.2.2.1 hC.2.2.2.2.2.1.1 hH.1 0 rfl rfl 48 (by decide) (hC.2.2.2.2.1 _ wma53) (fun _ h9 => h9) rfl hdg kk
theorem mp_48 {x : Int32} (hC : mX p c cc nL s m args G Z Q) (hH : mH G Q u s H locs) (hu : si u 48 x = u1) (hdg : decode cc pc = .ok (.putfield 363, 3)) (kk : ∀ (H : Heap) (locs : List Loc), mH G Q u1 s H locs → W p l e R s m args below meth c H locs 0 0 Q' (F0 m (pc + 3) ls rest)) : W p l e R s m args below meth c H locs 0 0 Q' (F0 m pc ls (.int x :: .ref (Q 72) :: rest)) := by
  subst hu
  exact va_put (D := gD G) (ci := 14) (v := .int x) (ty := tyX13 48) (C := RX13) (T := TX13) (N := 72) hC.1 hC.2.1 hC.2.2.2.2.1 wMin tyX13 tyX13_ok nmX13 hC.2.2.2.1 hC.2.2.2.2.2.1.1 hH.1 hH.2.1 hH.2.2 0 rfl rfl 48 (by decide) (hC.2.2.2.2.1 _ wma53) (fun _ h9 => h9) rfl (tyX13_ok 48 (by decide)) rfl rfl (Nat.le_of_ble_eq_true rfl) hdg (fun H locs a b d => kk H locs ⟨a, b, d⟩)
theorem mg_49 (hC : mX p c cc nL s m args G Z Q) (hH : mH G Q u s H locs) (hdg : decode cc pc = .ok (.getfield 262, 3)) (kk : W p l e R s m args below meth c H locs 0 0 Q' (F0 m (pc + 3) ls (.int (u.1 49) :: rest))) : W p l e R s m args below meth c H locs 0 0 Q' (F0 m pc ls (.ref (Q 72) :: rest)) :=
  va_get (D := gD G) (ci := 14) (v := .int (u.1 49)) (C := RX13) (T := TX13) (N := 72) hC.1 hC.2.1 hC.2.2.2.2.1 wMin hC.2.2.2.1 hC.2.2.2.2.2.1.1 hH.1 0 rfl rfl 49 (by decide) (hC.2.2.2.2.1 _ wma54) (fun _ h9 => h9) rfl hdg kk
theorem mp_49 {x : Int32} (hC : mX p c cc nL s m args G Z Q) (hH : mH G Q u s H locs) (hu : si u 49 x = u1) (hdg : decode cc pc = .ok (.putfield 262, 3)) (kk : ∀ (H : Heap) (locs : List Loc), mH G Q u1 s H locs → W p l e R s m args below meth c H locs 0 0 Q' (F0 m (pc + 3) ls rest)) : W p l e R s m args below meth c H locs 0 0 Q' (F0 m pc ls (.int x :: .ref (Q 72) :: rest)) := by
  subst hu
  exact va_put (D := gD G) (ci := 14) (v := .int x) (ty := tyX13 49) (C := RX13) (T := TX13) (N := 72) hC.1 hC.2.1 hC.2.2.2.2.1 wMin tyX13 tyX13_ok nmX13 hC.2.2.2.1 hC.2.2.2.2.2.1.1 hH.1 hH.2.1 hH.2.2 0 rfl rfl 49 (by decide) (hC.2.2.2.2.1 _ wma54) (fun _ h9 => h9) rfl (tyX13_ok 49 (by decide)) rfl rfl (Nat.le_of_ble_eq_true rfl) hdg (fun H locs a b d => kk H locs ⟨a, b, d⟩)
theorem mg_50 (hC : mX p c cc nL s m args G Z Q) (hH : mH G Q u s H locs) (hdg : decode cc pc = .ok (.getfield 118, 3)) (kk : W p l e R s m args below meth c H locs 0 0 Q' (F0 m (pc + 3) ls (.int (u.1 50) :: rest))) : W p l e R s m args below meth c H locs 0 0 Q' (F0 m pc ls (.ref (Q 72) :: rest)) :=
  va_get (D := gD G) (ci := 14) (v := .int (u.1 50)) (C := RX13) (T := TX13) (N := 72) hC.1 hC.2.1 hC.2.2.2.2.1 wMin hC.2.2.2.1 hC.2.2.2.2.2.1.1 hH.1 0 rfl rfl 50 (by decide) (hC.2.2.2.2.1 _ wma55) (fun _ h9 => h9) rfl hdg kk
theorem mp_50 {x : Int32} (hC : mX p c cc nL s m args G Z Q) (hH : mH G Q u s H locs) (hu : si u 50 x = u1) (hdg : decode cc pc = .ok (.putfield 118, 3)) (kk : ∀ (H : Heap) (locs : List Loc), mH G Q u1 s H locs → W p l e R s m args below meth c H locs 0 0 Q' (F0 m (pc + 3) ls rest)) : W p l e R s m args below meth c H locs 0 0 Q' (F0 m pc ls (.int x :: .ref (Q 72) :: rest)) := by
  subst hu
  exact va_put (D := gD G) (ci := 14) (v := .int x) (ty := tyX13 50) (C := RX13) (T := TX13) (N := 72) hC.1 hC.2.1 hC.2.2.2.2.1 wMin tyX13 tyX13_ok nmX13 hC.2.2.2.1 hC.2.2.2.2.2.1.1 hH.1 hH.2.1 hH.2.2 0 rfl rfl 50 (by decide) (hC.2.2.2.2.1 _ wma55) (fun _ h9 => h9) rfl (tyX13_ok 50 (by decide)) rfl rfl (Nat.le_of_ble_eq_true rfl) hdg (fun H locs a b d => kk H locs ⟨a, b, d⟩)
theorem mg_51 (hC : mX p c cc nL s m args G Z Q) (hH : mH G Q u s H locs) (hdg : decode cc pc = .ok (.getfield 345, 3)) (kk : W p l e R s m args below meth c H locs 0 0 Q' (F0 m (pc + 3) ls (.int (u.1 51) :: rest))) : W p l e R s m args below meth c H locs 0 0 Q' (F0 m pc ls (.ref (Q 72) :: rest)) :=
  va_get (D := gD G) (ci := 14) (v := .int (u.1 51)) (C := RX13) (T := TX13) (N := 72) hC.1 hC.2.1 hC.2.2.2.2.1 wMin hC.2.2.2.1 hC.2.2.2.2.2.1.1 hH.1 0 rfl rfl 51 (by decide) (hC.2.2.2.2.1 _ wma56) (fun _ h9 => h9) rfl hdg kk
theorem mp_51 {x : Int32} (hC : mX p c cc nL s m args G Z Q) (hH : mH G Q u s H locs) (hu : si u 51 x = u1) (hdg : decode cc pc = .ok (.putfield 345, 3)) (kk : ∀ (H : Heap) (locs : List Loc), mH G Q u1 s H locs → W p l e R s m args below meth c H locs 0 0 Q' (F0 m (pc + 3) ls rest)) : W p l e R s m args below meth c H locs 0 0 Q' (F0 m pc ls (.int x :: .ref (Q 72) :: rest)) := by
  subst hu
  exact va_put (D := gD G) (ci := 14) (v := .int x) (ty := tyX13 51) (C := RX13) (T := TX13) (N := 72) hC.1 hC.2.1 hC.2.2.2.2.1 wMin tyX13 tyX13_ok nmX13 hC.2.2.2.1 hC.2.2.2.2.2.1.1 hH.1 hH.2.1 hH.2.2 0 rfl rfl 51 (by decide) (hC.2.2.2.2.1 _ wma56) (fun _ h9 => h9) rfl (tyX13_ok 51 (by decide)) rfl rfl (Nat.le_of_ble_eq_true rfl) hdg (fun H locs a b d => kk H locs ⟨a, b, d⟩)
theorem mg_52 (hC : mX p c cc nL s m args G Z Q) (hH : mH G Q u s H locs) (hdg : decode cc pc = .ok (.getfield 122, 3)) (kk : W p l e R s m args below meth c H locs 0 0 Q' (F0 m (pc + 3) ls (.ref (Q 52) :: rest))) : W p l e R s m args below meth c H locs 0 0 Q' (F0 m pc ls (.ref (Q 72) :: rest)) :=
  va_get (D := gD G) (ci := 14) (v := .ref (Q 52)) (C := RX13) (T := TX13) (N := 72) hC.1 hC.2.1 hC.2.2.2.2.1 wMin hC.2.2.2.1 hC.2.2.2.2.2.1.1 hH.1 0 rfl rfl 52 (by decide) (hC.2.2.2.2.1 _ wma57) (fun _ h9 => h9) rfl hdg kk
theorem mg_53 (hC : mX p c cc nL s m args G Z Q) (hH : mH G Q u s H locs) (hdg : decode cc pc = .ok (.getfield 418, 3)) (kk : W p l e R s m args below meth c H locs 0 0 Q' (F0 m (pc + 3) ls (.int (u.1 53) :: rest))) : W p l e R s m args below meth c H locs 0 0 Q' (F0 m pc ls (.ref (Q 72) :: rest)) :=
  va_get (D := gD G) (ci := 14) (v := .int (u.1 53)) (C := RX13) (T := TX13) (N := 72) hC.1 hC.2.1 hC.2.2.2.2.1 wMin hC.2.2.2.1 hC.2.2.2.2.2.1.1 hH.1 0 rfl rfl 53 (by decide) (hC.2.2.2.2.1 _ wma58) (fun _ h9 => h9) rfl hdg kk
theorem mp_53 {x : Int32} (hC : mX p c cc nL s m args G Z Q) (hH : mH G Q u s H locs) (hu : si u 53 x = u1) (hdg : decode cc pc = .ok (.putfield 418, 3)) (kk : ∀ (H : Heap) (locs : List Loc), mH G Q u1 s H locs → W p l e R s m args below meth c H locs 0 0 Q' (F0 m (pc + 3) ls rest)) : W p l e R s m args below meth c H locs 0 0 Q' (F0 m pc ls (.int x :: .ref (Q 72) :: rest)) := by
  subst hu
  exact va_put (D := gD G) (ci := 14) (v := .int x) (ty := tyX13 53) (C := RX13) (T := TX13) (N := 72) hC.1 hC.2.1 hC.2.2.2.2.1 wMin tyX13 tyX13_ok nmX13 hC.2.2.2.1 hC.2.2.2.2.2.1.1 hH.1 hH.2.1 hH.2.2 0 rfl rfl 53 (by decide) (hC.2.2.2.2.1 _ wma58) (fun _ h9 => h9) rfl (tyX13_ok 53 (by decide)) rfl rfl (Nat.le_of_ble_eq_true rfl) hdg (fun H locs a b d => kk H locs ⟨a, b, d⟩)
theorem mg_54 (hC : mX p c cc nL s m args G Z Q) (hH : mH G Q u s H locs) (hdg : decode cc pc = .ok (.getfield 125, 3)) (kk : W p l e R s m args below meth c H locs 0 0 Q' (F0 m (pc + 3) ls (.ref (Q 54) :: rest))) : W p l e R s m args below meth c H locs 0 0 Q' (F0 m pc ls (.ref (Q 72) :: rest)) :=
  va_get (D := gD G) (ci := 14) (v := .ref (Q 54)) (C := RX13) (T := TX13) (N := 72) hC.1 hC.2.1 hC.2.2.2.2.1 wMin hC.2.2.2.1 hC.2.2.2.2.2.1.1 hH.1 0 rfl rfl 54 (by decide) (hC.2.2.2.2.1 _ wma59) (fun _ h9 => h9) rfl hdg kk
theorem mg_55 (hC : mX p c cc nL s m args G Z Q) (hH : mH G Q u s H locs) (hdg : decode cc pc = .ok (.getfield 460, 3)) (kk : W p l e R s m args below meth c H locs 0 0 Q' (F0 m (pc + 3) ls (.int (u.1 55) :: rest))) : W p l e R s m args below meth c H locs 0 0 Q' (F0 m pc ls (.ref (Q 72) :: rest)) :=
  va_get (D := gD G) (ci := 14) (v := .int (u.1 55)) (C := RX13) (T := TX13) (N := 72) hC.1 hC.2.1 hC.2.2.2.2.1 wMin hC.2.2.2.1 hC.2.2.2.2.2.1.1 hH.1 0 rfl rfl 55 (by decide) (hC.2.2.2.2.1 _ wma60) (fun _ h9 => h9) rfl hdg kk
theorem mp_55 {x : Int32} (hC : mX p c cc nL s m args G Z Q) (hH : mH G Q u s H locs) (hu : si u 55 x = u1) (hdg : decode cc pc = .ok (.putfield 460, 3)) (kk : ∀ (H : Heap) (locs : List Loc), mH G Q u1 s H locs → W p l e R s m args below meth c H locs 0 0 Q' (F0 m (pc + 3) ls rest)) : W p l e R s m args below meth c H locs 0 0 Q' (F0 m pc ls (.int x :: .ref (Q 72) :: rest)) := by
  subst hu
  exact va_put (D := gD G) (ci := 14) (v := .int x) (ty := tyX13 55) (C := RX13) (T := TX13) (N := 72) hC.1 hC.2.1 hC.2.2.2.2.1 wMin tyX13 tyX13_ok nmX13 hC.2.2.2.1 hC.2.2.2.2.2.1.1 hH.1 hH.2.1 hH.2.2 0 rfl rfl 55 (by decide) (hC.2.2.2.2.1 _ wma60) (fun _ h9 => h9) rfl (tyX13_ok 55 (by decide)) rfl rfl (Nat.le_of_ble_eq_true rfl) hdg (fun H locs a b d => kk H locs ⟨a, b, d⟩)
theorem mg_56 (hC : mX p c cc nL s m args G Z Q) (hH : mH G Q u s H locs) (hdg : decode cc pc = .ok (.getfield 128, 3)) (kk : W p l e R s m args below meth c H locs 0 0 Q' (F0 m (pc + 3) ls (.ref (Q 56) :: rest))) : W p l e R s m args below meth c H locs 0 0 Q' (F0 m pc ls (.ref (Q 72) :: rest)) :=
  va_get (D := gD G) (ci := 14) (v := .ref (Q 56)) (C := RX13) (T := TX13) (N := 72) hC.1 hC.2.1 hC.2.2.2.2.1 wMin hC.2.2.2.1 hC.2.2.2.2.2.1.1 hH.1 0 rfl rfl 56 (by decide) (hC.2.2.2.2.1 _ wma61) (fun _ h9 => h9) rfl hdg kk
theorem mg_57 (hC : mX p c cc nL s m args G Z Q) (hH : mH G Q u s H locs) (hdg : decode cc pc = .ok (.getfield 131, 3)) (kk : W p l e R s m args below meth c H locs 0 0 Q' (F0 m (pc + 3) ls (.ref (Q 57) :: rest))) : W p l e R s m args below meth c H locs 0 0 Q' (F0 m pc ls (.ref (Q 72) :: rest)) :=
  va_get (D := gD G) (ci := 14) (v := .ref (Q 57)) (C := RX13) (T := TX13) (N := 72) hC.1 hC.2.1 hC.2.2.2.2.1 wMin hC.2.2.2.1 hC.2.2.2.2.2.1.1 hH.1 0 rfl rfl 57 (by decide) (hC.2.2.2.2.1 _ wma62) (fun _ h9 => h9) rfl hdg kk
theorem mg_58 (hC : mX p c cc nL s m args G Z Q) (hH : mH G Q u s H locs) (hdg : decode cc pc = .ok (.getfield 134, 3)) (kk : W p l e R s m args below meth c H locs 0 0 Q' (F0 m (pc + 3) ls (.ref (Q 58) :: rest))) : W p l e R s m args below meth c H locs 0 0 Q' (F0 m pc ls (.ref (Q 72) :: rest)) :=
  va_get (D := gD G) (ci := 14) (v := .ref (Q 58)) (C := RX13) (T := TX13) (N := 72) hC.1 hC.2.1 hC.2.2.2.2.1 wMin hC.2.2.2.1 hC.2.2.2.2.2.1.1 hH.1 0 rfl rfl 58 (by decide) (hC.2.2.2.2.1 _ wma63) (fun _ h9 => h9) rfl hdg kk
theorem mg_59 (hC : mX p c cc nL s m args G Z Q) (hH : mH G Q u s H locs) (hdg : decode cc pc = .ok (.getfield 137, 3)) (kk : W p l e R s m args below meth c H locs 0 0 Q' (F0 m (pc + 3) ls (.ref (Q 59) :: rest))) : W p l e R s m args below meth c H locs 0 0 Q' (F0 m pc ls (.ref (Q 72) :: rest)) :=
  va_get (D := gD G) (ci := 14) (v := .ref (Q 59)) (C := RX13) (T := TX13) (N := 72) hC.1 hC.2.1 hC.2.2.2.2.1 wMin hC.2.2.2.1 hC.2.2.2.2.2.1.1 hH.1 0 rfl rfl 59 (by decide) (hC.2.2.2.2.1 _ wma64) (fun _ h9 => h9) rfl hdg kk
theorem mg_60 (hC : mX p c cc nL s m args G Z Q) (hH : mH G Q u s H locs) (hdg : decode cc pc = .ok (.getfield 140, 3)) (kk : W p l e R s m args below meth c H locs 0 0 Q' (F0 m (pc + 3) ls (.ref (Q 60) :: rest))) : W p l e R s m args below meth c H locs 0 0 Q' (F0 m pc ls (.ref (Q 72) :: rest)) :=
  va_get (D := gD G) (ci := 14) (v := .ref (Q 60)) (C := RX13) (T := TX13) (N := 72) hC.1 hC.2.1 hC.2.2.2.2.1 wMin hC.2.2.2.1 hC.2.2.2.2.2.1.1 hH.1 0 rfl rfl 60 (by decide) (hC.2.2.2.2.1 _ wma65) (fun _ h9 => h9) rfl hdg kk
theorem mg_61 (hC : mX p c cc nL s m args G Z Q) (hH : mH G Q u s H locs) (hdg : decode cc pc = .ok (.getfield 143, 3)) (kk : W p l e R s m args below meth c H locs 0 0 Q' (F0 m (pc + 3) ls (.ref (Q 61) :: rest))) : W p l e R s m args below meth c H locs 0 0 Q' (F0 m pc ls (.ref (Q 72) :: rest)) :=
  va_get (D := gD G) (ci := 14) (v := .ref (Q 61)) (C := RX13) (T := TX13) (N := 72) hC.1 hC.2.1 hC.2.2.2.2.1 wMin hC.2.2.2.1 hC.2.2.2.2.2.1.1 hH.1 0 rfl rfl 61 (by decide) (hC.2.2.2.2.1 _ wma66) (fun _ h9 => h9) rfl hdg kk
theorem mg_62 (hC : mX p c cc nL s m args G Z Q) (hH : mH G Q u s H locs) (hdg : decode cc pc = .ok (.getfield 146, 3)) (kk : W p l e R s m args below meth c H locs 0 0 Q' (F0 m (pc + 3) ls (.ref (Q 62) :: rest))) : W p l e R s m args below meth c H locs 0 0 Q' (F0 m pc ls (.ref (Q 72) :: rest)) :=
  va_get (D := gD G) (ci := 14) (v := .ref (Q 62)) (C := RX13) (T := TX13) (N := 72) hC.1 hC.2.1 hC.2.2.2.2.1 wMin hC.2.2.2.1 hC.2.2.2.2.2.1.1 hH.1 0 rfl rfl 62 (by decide) (hC.2.2.2.2.1 _ wma67) (fun _ h9 => h9) rfl hdg kk
theorem mg_63 (hC : mX p c cc nL s m args G Z Q) (hH : mH G Q u s H locs) (hdg : decode cc pc = .ok (.getfield 149, 3)) (kk : W p l e R s m args below meth c H locs 0 0 Q' (F0 m (pc + 3) ls (.ref (Q 63) :: rest))) : W p l e R s m args below meth c H locs 0 0 Q' (F0 m pc ls (.ref (Q 72) :: rest)) :=
  va_get (D := gD G) (ci := 14) (v := .ref (Q 63)) (C := RX13) (T := TX13) (N := 72) hC.1 hC.2.1 hC.2.2.2.2.1 wMin hC.2.2.2.1 hC.2.2.2.2.2.1.1 hH.1 0 rfl rfl 63 (by decide) (hC.2.2.2.2.1 _ wma68) (fun _ h9 => h9) rfl hdg kk
theorem mg_64 (hC : mX p c cc nL s m args G Z Q) (hH : mH G Q u s H locs) (hdg : decode cc pc = .ok (.getfield 152, 3)) (kk : W p l e R s m args below meth c H locs 0 0 Q' (F0 m (pc + 3) ls (.ref (Q 64) :: rest))) : W p l e R s m args below meth c H locs 0 0 Q' (F0 m pc ls (.ref (Q 72) :: rest)) :=
  va_get (D := gD G) (ci := 14) (v := .ref (Q 64)) (C := RX13) (T := TX13) (N := 72) hC.1 hC.2.1 hC.2.2.2.2.1 wMin hC.2.2.2.1 hC.2.2.2.2.2.1.1 hH.1 0 rfl rfl 64 (by decide) (hC.2.2.2.2.1 _ wma69) (fun _ h9 => h9) rfl hdg kk
theorem mg_65 (hC : mX p c cc nL s m args G Z Q) (hH : mH G Q u s H locs) (hdg : decode cc pc = .ok (.getfield 155, 3)) (kk : W p l e R s m args below meth c H locs 0 0 Q' (F0 m (pc + 3) ls (.ref (Q 65) :: rest))) : W p l e R s m args below meth c H locs 0 0 Q' (F0 m pc ls (.ref (Q 72) :: rest)) :=
  va_get (D := gD G) (ci := 14) (v := .ref (Q 65)) (C := RX13) (T := TX13) (N := 72) hC.1 hC.2.1 hC.2.2.2.2.1 wMin hC.2.2.2.1 hC.2.2.2.2.2.1.1 hH.1 0 rfl rfl 65 (by decide) (hC.2.2.2.2.1 _ wma70) (fun _ h9 => h9) rfl hdg kk
theorem mg_66 (hC : mX p c cc nL s m args G Z Q) (hH : mH G Q u s H locs) (hdg : decode cc pc = .ok (.getfield 158, 3)) (kk : W p l e R s m args below meth c H locs 0 0 Q' (F0 m (pc + 3) ls (.ref (Q 66) :: rest))) : W p l e R s m args below meth c H locs 0 0 Q' (F0 m pc ls (.ref (Q 72) :: rest)) :=
  va_get (D := gD G) (ci := 14) (v := .ref (Q 66)) (C := RX13) (T := TX13) (N := 72) hC.1 hC.2.1 hC.2.2.2.2.1 wMin hC.2.2.2.1 hC.2.2.2.2.2.1.1 hH.1 0 rfl rfl 66 (by decide) (hC.2.2.2.2.1 _ wma71) (fun _ h9 => h9) rfl hdg kk
theorem mg_67 (hC : mX p c cc nL s m args G Z Q) (hH : mH G Q u s H locs) (hdg : decode cc pc = .ok (.getfield 161, 3)) (kk : W p l e R s m args below meth c H locs 0 0 Q' (F0 m (pc + 3) ls (.ref (Q 67) :: rest))) : W p l e R s m args below meth c H locs 0 0 Q' (F0 m pc ls (.ref (Q 72) :: rest)) :=
  va_get (D := gD G) (ci := 14) (v := .ref (Q 67)) (C := RX13) (T := TX13) (N := 72) hC.1 hC.2.1 hC.2.2.2.2.1 wMin hC.2.2.2.1 hC.2.2.2.2.2.1.1 hH.1 0 rfl rfl 67 (by decide) (hC.2.2.2.2.1 _ wma72) (fun _ h9 => h9) rfl hdg kk
theorem mg_68 (hC : mX p c cc nL s m args G Z Q) (hH : mH G Q u s H locs) (hdg : decode cc pc = .ok (.getfield 164, 3)) (kk : W p l e R s m args below meth c H locs 0 0 Q' (F0 m (pc + 3) ls (.ref (Q 68) :: rest))) : W p l e R s m args below meth c H locs 0 0 Q' (F0 m pc ls (.ref (Q 72) :: rest)) :=
  va_get (D := gD G) (ci := 14) (v := .ref (Q 68)) (C := RX13) (T := TX13) (N := 72) hC.1 hC.2.1 hC.2.2.2.2.1 wMin hC.2.2.2.1 hC.2.2.2.2.2.1.1 hH.1 0 rfl rfl 68 (by decide) (hC.2.2.2.2.1 _ wma73) (fun _ h9 => h9) rfl hdg kk
theorem mg_69 (hC : mX p c cc nL s m args G Z Q) (hH : mH G Q u s H locs) (hdg : decode cc pc = .ok (.getfield 583, 3)) (kk : W p l e R s m args below meth c H locs 0 0 Q' (F0 m (pc + 3) ls (.int (u.1 69) :: rest))) : W p l e R s m args below meth c H locs 0 0 Q' (F0 m pc ls (.ref (Q 72) :: rest)) :=
  va_get (D := gD G) (ci := 14) (v := .int (u.1 69)) (C := RX13) (T := TX13) (N := 72) hC.1 hC.2.1 hC.2.2.2.2.1 wMin hC.2.2.2.1 hC.2.2.2.2.2.1.1 hH.1 0 rfl rfl 69 (by decide) (hC.2.2.2.2.1 _ wma74) (fun _ h9 => h9) rfl hdg kk
theorem mp_69 {x : Int32} (hC : mX p c cc nL s m args G Z Q) (hH : mH G Q u s H locs) (hu : si u 69 x = u1) (hz : gb x = true) (hdg : decode cc pc = .ok (.putfield 583, 3)) (kk : ∀ (H : Heap) (locs : List Loc), mH G Q u1 s H locs → W p l e R s m args below meth c H locs 0 0 Q' (F0 m (pc + 3) ls rest)) : W p l e R s m args below meth c H locs 0 0 Q' (F0 m pc ls (.int x :: .ref (Q 72) :: rest)) := by
  subst hu
  exact va_put (D := gD G) (ci := 14) (v := .int x) (ty := tyX13 69) (C := RX13) (T := TX13) (N := 72) hC.1 hC.2.1 hC.2.2.2.2.1 wMin tyX13 tyX13_ok nmX13 hC.2.2.2.1 hC.2.2.2.2.2.1.1 hH.1 hH.2.1 hH.2.2 0 rfl rfl 69 (by decide) (hC.2.2.2.2.1 _ wma74) (fun _ h9 => h9) rfl (tyX13_ok 69 (by decide)) (gb_nar hz) (by rcases (of_decide_eq_true hz : x = 0 ∨ x = 1) with rfl | rfl <;> rfl) (Nat.le_of_ble_eq_true rfl) hdg (fun H locs a b d => kk H locs ⟨a, b, d⟩)
theorem mg_70 (hC : mX p c cc nL s m args G Z Q) (hH : mH G Q u s H locs) (hdg : decode cc pc = .ok (.getfield 167, 3)) (kk : W p l e R s m args below meth c H locs 0 0 Q' (F0 m (pc + 3) ls (.ref (Q 70) :: rest))) : W p l e R s m args below meth c H locs 0 0 Q' (F0 m pc ls (.ref (Q 72) :: rest)) :=
  va_get (D := gD G) (ci := 14) (v := .ref (Q 70)) (C := RX13) (T := TX13) (N := 72) hC.1 hC.2.1 hC.2.2.2.2.1 wMin hC.2.2.2.1 hC.2.2.2.2.2.1.1 hH.1 0 rfl rfl 70 (by decide) (hC.2.2.2.2.1 _ wma75) (fun _ h9 => h9) rfl hdg kk
theorem mg_71 (hC : mX p c cc nL s m args G Z Q) (hH : mH G Q u s H locs) (hdg : decode cc pc = .ok (.getfield 170, 3)) (kk : W p l e R s m args below meth c H locs 0 0 Q' (F0 m (pc + 3) ls (.ref (Q 71) :: rest))) : W p l e R s m args below meth c H locs 0 0 Q' (F0 m pc ls (.ref (Q 72) :: rest)) :=
  va_get (D := gD G) (ci := 14) (v := .ref (Q 71)) (C := RX13) (T := TX13) (N := 72) hC.1 hC.2.1 hC.2.2.2.2.1 wMin hC.2.2.2.1 hC.2.2.2.2.2.1.1 hH.1 0 rfl rfl 71 (by decide) (hC.2.2.2.2.1 _ wma76) (fun _ h9 => h9) rfl hdg kk
theorem ml_0 {i : Int32} (hC : mX p c cc nL s m args G Z Q) (hH : mH G Q u s H locs) (hg : gi i 4 = true) (hdg : decode cc pc = .ok (.iaload, 1)) (kk : W p l e R s m args below meth c H locs 0 0 Q' (F0 m (pc + 1) ls (.int (ra u 0 i) :: rest))) : W p l e R s m args below meth c H locs 0 0 Q' (F0 m pc ls (.int i :: .ref (Q 0) :: rest)) :=
  va_iald (D := gD G) hC.1 hC.2.1 hC.2.2.2.2.2.1.1 hH.1 1 0 rfl rfl (gi_in hg) hdg kk
theorem ms_0 {i x : Int32} (hC : mX p c cc nL s m args G Z Q) (hH : mH G Q u s H locs) (hu : wa u 0 i x = u1) (hg : gi i 4 = true) (hdg : decode cc pc = .ok (.iastore, 1)) (kk : ∀ (H : Heap) (locs : List Loc), mH G Q u1 s H locs → W p l e R s m args below meth c H locs 0 0 Q' (F0 m (pc + 1) ls rest)) : W p l e R s m args below meth c H locs 0 0 Q' (F0 m pc ls (.int x :: .int i :: .ref (Q 0) :: rest)) := by
  subst hu
  exact va_iast (D := gD G) hC.1 hC.2.1 hC.2.2.2.2.2.1.1 hH.1 hH.2.1 hH.2.2 1 0 rfl rfl (gi_in hg) hdg (fun H locs a b d => kk H locs ⟨a, b, d⟩)
theorem ml_1 {i : Int32} (hC : mX p c cc nL s m args G Z Q) (hH : mH G Q u s H locs) (hg : gi i 4 = true) (hdg : decode cc pc = .ok (.iaload, 1)) (kk : W p l e R s m args below meth c H locs 0 0 Q' (F0 m (pc + 1) ls (.int (ra u 1 i) :: rest))) : W p l e R s m args below meth c H locs 0 0 Q' (F0 m pc ls (.int i :: .ref (Q 1) :: rest)) :=
  va_iald (D := gD G) hC.1 hC.2.1 hC.2.2.2.2.2.1.1 hH.1 2 0 rfl rfl (gi_in hg) hdg kk
theorem ms_1 {i x : Int32} (hC : mX p c cc nL s m args G Z Q) (hH : mH G Q u s H locs) (hu : wa u 1 i x = u1) (hg : gi i 4 = true) (hdg : decode cc pc = .ok (.iastore, 1)) (kk : ∀ (H : Heap) (locs : List Loc), mH G Q u1 s H locs → W p l e R s m args below meth c H locs 0 0 Q' (F0 m (pc + 1) ls rest)) : W p l e R s m args below meth c H locs 0 0 Q' (F0 m pc ls (.int x :: .int i :: .ref (Q 1) :: rest)) := by
  subst hu
  exact va_iast (D := gD G) hC.1 hC.2.1 hC.2.2.2.2.2.1.1 hH.1 hH.2.1 hH.2.2 2 0 rfl rfl (gi_in hg) hdg (fun H locs a b d => kk H locs ⟨a, b, d⟩)
theorem ml_5 {i : Int32} (hC : mX p c cc nL s m args G Z Q) (hH : mH G Q u s H locs) (hg : gi i 96 = true) (hdg : decode cc pc = .ok (.iaload, 1)) (kk : W p l e R s m args below meth c H locs 0 0 Q' (F0 m (pc + 1) ls (.int (ra u 5 i) :: rest))) : W p l e R s m args below meth c H locs 0 0 Q' (F0 m pc ls (.int i :: .ref (Q 5) :: rest)) :=
  va_iald (D := gD G) hC.1 hC.2.1 hC.2.2.2.2.2.1.1 hH.1 3 0 rfl rfl (gi_in hg) hdg kk
theorem ms_5 {i x : Int32} (hC : mX p c cc nL s m args G Z Q) (hH : mH G Q u s H locs) (hu : wa u 5 i x = u1) (hg : gi i 96 = true) (hdg : decode cc pc = .ok (.iastore, 1)) (kk : ∀ (H : Heap) (locs : List Loc), mH G Q u1 s H locs → W p l e R s m args below meth c H locs 0 0 Q' (F0 m (pc + 1) ls rest)) : W p l e R s m args below meth c H locs 0 0 Q' (F0 m pc ls (.int x :: .int i :: .ref (Q 5) :: rest)) := by
  subst hu
  exact va_iast (D := gD G) hC.1 hC.2.1 hC.2.2.2.2.2.1.1 hH.1 hH.2.1 hH.2.2 3 0 rfl rfl (gi_in hg) hdg (fun H locs a b d => kk H locs ⟨a, b, d⟩)
theorem ml_6 {i : Int32} (hC : mX p c cc nL s m args G Z Q) (hH : mH G Q u s H locs) (hg : gi i 96 = true) (hdg : decode cc pc = .ok (.iaload, 1)) (kk : W p l e R s m args below meth c H locs 0 0 Q' (F0 m (pc + 1) ls (.int (ra u 6 i) :: rest))) : W p l e R s m args below meth c H locs 0 0 Q' (F0 m pc ls (.int i :: .ref (Q 6) :: rest)) :=
  va_iald (D := gD G) hC.1 hC.2.1 hC.2.2.2.2.2.1.1 hH.1 4 0 rfl rfl (gi_in hg) hdg kk
theorem ms_6 {i x : Int32} (hC : mX p c cc nL s m args G Z Q) (hH : mH G Q u s H locs) (hu : wa u 6 i x = u1) (hg : gi i 96 = true) (hdg : decode cc pc = .ok (.iastore, 1)) (kk : ∀ (H : Heap) (locs : List Loc), mH G Q u1 s H locs → W p l e R s m args below meth c H locs 0 0 Q' (F0 m (pc + 1) ls rest)) : W p l e R s m args below meth c H locs 0 0 Q' (F0 m pc ls (.int x :: .int i :: .ref (Q 6) :: rest)) := by
  subst hu
  exact va_iast (D := gD G) hC.1 hC.2.1 hC.2.2.2.2.2.1.1 hH.1 hH.2.1 hH.2.2 4 0 rfl rfl (gi_in hg) hdg (fun H locs a b d => kk H locs ⟨a, b, d⟩)
theorem ml_7 {i : Int32} (hC : mX p c cc nL s m args G Z Q) (hH : mH G Q u s H locs) (hg : gi i 96 = true) (hdg : decode cc pc = .ok (.iaload, 1)) (kk : W p l e R s m args below meth c H locs 0 0 Q' (F0 m (pc + 1) ls (.int (ra u 7 i) :: rest))) : W p l e R s m args below meth c H locs 0 0 Q' (F0 m pc ls (.int i :: .ref (Q 7) :: rest)) :=
  va_iald (D := gD G) hC.1 hC.2.1 hC.2.2.2.2.2.1.1 hH.1 5 0 rfl rfl (gi_in hg) hdg kk
theorem ms_7 {i x : Int32} (hC : mX p c cc nL s m args G Z Q) (hH : mH G Q u s H locs) (hu : wa u 7 i x = u1) (hg : gi i 96 = true) (hdg : decode cc pc = .ok (.iastore, 1)) (kk : ∀ (H : Heap) (locs : List Loc), mH G Q u1 s H locs → W p l e R s m args below meth c H locs 0 0 Q' (F0 m (pc + 1) ls rest)) : W p l e R s m args below meth c H locs 0 0 Q' (F0 m pc ls (.int x :: .int i :: .ref (Q 7) :: rest)) := by
  subst hu
  exact va_iast (D := gD G) hC.1 hC.2.1 hC.2.2.2.2.2.1.1 hH.1 hH.2.1 hH.2.2 5 0 rfl rfl (gi_in hg) hdg (fun H locs a b d => kk H locs ⟨a, b, d⟩)
theorem ml_8 {i : Int32} (hC : mX p c cc nL s m args G Z Q) (hH : mH G Q u s H locs) (hg : gi i 96 = true) (hdg : decode cc pc = .ok (.iaload, 1)) (kk : W p l e R s m args below meth c H locs 0 0 Q' (F0 m (pc + 1) ls (.int (ra u 8 i) :: rest))) : W p l e R s m args below meth c H locs 0 0 Q' (F0 m pc ls (.int i :: .ref (Q 8) :: rest)) :=
  va_iald (D := gD G) hC.1 hC.2.1 hC.2.2.2.2.2.1.1 hH.1 6 0 rfl rfl (gi_in hg) hdg kk
theorem ms_8 {i x : Int32} (hC : mX p c cc nL s m args G Z Q) (hH : mH G Q u s H locs) (hu : wa u 8 i x = u1) (hg : gi i 96 = true) (hdg : decode cc pc = .ok (.iastore, 1)) (kk : ∀ (H : Heap) (locs : List Loc), mH G Q u1 s H locs → W p l e R s m args below meth c H locs 0 0 Q' (F0 m (pc + 1) ls rest)) : W p l e R s m args below meth c H locs 0 0 Q' (F0 m pc ls (.int x :: .int i :: .ref (Q 8) :: rest)) := by
  subst hu
  exact va_iast (D := gD G) hC.1 hC.2.1 hC.2.2.2.2.2.1.1 hH.1 hH.2.1 hH.2.2 6 0 rfl rfl (gi_in hg) hdg (fun H locs a b d => kk H locs ⟨a, b, d⟩)
theorem ml_9 {i : Int32} (hC : mX p c cc nL s m args G Z Q) (hH : mH G Q u s H locs) (hg : gi i 96 = true) (hdg : decode cc pc = .ok (.iaload, 1)) (kk : W p l e R s m args below meth c H locs 0 0 Q' (F0 m (pc + 1) ls (.int (ra u 9 i) :: rest))) : W p l e R s m args below meth c H locs 0 0 Q' (F0 m pc ls (.int i :: .ref (Q 9) :: rest)) :=
  va_iald (D := gD G) hC.1 hC.2.1 hC.2.2.2.2.2.1.1 hH.1 7 0 rfl rfl (gi_in hg) hdg kk
theorem ms_9 {i x : Int32} (hC : mX p c cc nL s m args G Z Q) (hH : mH G Q u s H locs) (hu : wa u 9 i x = u1) (hg : gi i 96 = true) (hdg : decode cc pc = .ok (.iastore, 1)) (kk : ∀ (H : Heap) (locs : List Loc), mH G Q u1 s H locs → W p l e R s m args below meth c H locs 0 0 Q' (F0 m (pc + 1) ls rest)) : W p l e R s m args below meth c H locs 0 0 Q' (F0 m pc ls (.int x :: .int i :: .ref (Q 9) :: rest)) := by
  subst hu
  exact va_iast (D := gD G) hC.1 hC.2.1 hC.2.2.2.2.2.1.1 hH.1 hH.2.1 hH.2.2 7 0 rfl rfl (gi_in hg) hdg (fun H locs a b d => kk H locs ⟨a, b, d⟩)
theorem ml_10 {i : Int32} (hC : mX p c cc nL s m args G Z Q) (hH : mH G Q u s H locs) (hg : gi i 96 = true) (hdg : decode cc pc = .ok (.iaload, 1)) (kk : W p l e R s m args below meth c H locs 0 0 Q' (F0 m (pc + 1) ls (.int (ra u 10 i) :: rest))) : W p l e R s m args below meth c H locs 0 0 Q' (F0 m pc ls (.int i :: .ref (Q 10) :: rest)) :=
  va_iald (D := gD G) hC.1 hC.2.1 hC.2.2.2.2.2.1.1 hH.1 8 0 rfl rfl (gi_in hg) hdg kk
theorem ms_10 {i x : Int32} (hC : mX p c cc nL s m args G Z Q) (hH : mH G Q u s H locs) (hu : wa u 10 i x = u1) (hg : gi i 96 = true) (hdg : decode cc pc = .ok (.iastore, 1)) (kk : ∀ (H : Heap) (locs : List Loc), mH G Q u1 s H locs → W p l e R s m args below meth c H locs 0 0 Q' (F0 m (pc + 1) ls rest)) : W p l e R s m args below meth c H locs 0 0 Q' (F0 m pc ls (.int x :: .int i :: .ref (Q 10) :: rest)) := by
  subst hu
  exact va_iast (D := gD G) hC.1 hC.2.1 hC.2.2.2.2.2.1.1 hH.1 hH.2.1 hH.2.2 8 0 rfl rfl (gi_in hg) hdg (fun H locs a b d => kk H locs ⟨a, b, d⟩)
theorem ml_11 {i : Int32} (hC : mX p c cc nL s m args G Z Q) (hH : mH G Q u s H locs) (hg : gi i 96 = true) (hdg : decode cc pc = .ok (.iaload, 1)) (kk : W p l e R s m args below meth c H locs 0 0 Q' (F0 m (pc + 1) ls (.int (ra u 11 i) :: rest))) : W p l e R s m args below meth c H locs 0 0 Q' (F0 m pc ls (.int i :: .ref (Q 11) :: rest)) :=
  va_iald (D := gD G) hC.1 hC.2.1 hC.2.2.2.2.2.1.1 hH.1 9 0 rfl rfl (gi_in hg) hdg kk
theorem ms_11 {i x : Int32} (hC : mX p c cc nL s m args G Z Q) (hH : mH G Q u s H locs) (hu : wa u 11 i x = u1) (hg : gi i 96 = true) (hdg : decode cc pc = .ok (.iastore, 1)) (kk : ∀ (H : Heap) (locs : List Loc), mH G Q u1 s H locs → W p l e R s m args below meth c H locs 0 0 Q' (F0 m (pc + 1) ls rest)) : W p l e R s m args below meth c H locs 0 0 Q' (F0 m pc ls (.int x :: .int i :: .ref (Q 11) :: rest)) := by
  subst hu
  exact va_iast (D := gD G) hC.1 hC.2.1 hC.2.2.2.2.2.1.1 hH.1 hH.2.1 hH.2.2 9 0 rfl rfl (gi_in hg) hdg (fun H locs a b d => kk H locs ⟨a, b, d⟩)
theorem ml_12 {i : Int32} (hC : mX p c cc nL s m args G Z Q) (hH : mH G Q u s H locs) (hg : gi i 4 = true) (hdg : decode cc pc = .ok (.iaload, 1)) (kk : W p l e R s m args below meth c H locs 0 0 Q' (F0 m (pc + 1) ls (.int (ra u 12 i) :: rest))) : W p l e R s m args below meth c H locs 0 0 Q' (F0 m pc ls (.int i :: .ref (Q 12) :: rest)) :=
  va_iald (D := gD G) hC.1 hC.2.1 hC.2.2.2.2.2.1.1 hH.1 10 0 rfl rfl (gi_in hg) hdg kk
theorem ms_12 {i x : Int32} (hC : mX p c cc nL s m args G Z Q) (hH : mH G Q u s H locs) (hu : wa u 12 i x = u1) (hg : gi i 4 = true) (hdg : decode cc pc = .ok (.iastore, 1)) (kk : ∀ (H : Heap) (locs : List Loc), mH G Q u1 s H locs → W p l e R s m args below meth c H locs 0 0 Q' (F0 m (pc + 1) ls rest)) : W p l e R s m args below meth c H locs 0 0 Q' (F0 m pc ls (.int x :: .int i :: .ref (Q 12) :: rest)) := by
  subst hu
  exact va_iast (D := gD G) hC.1 hC.2.1 hC.2.2.2.2.2.1.1 hH.1 hH.2.1 hH.2.2 10 0 rfl rfl (gi_in hg) hdg (fun H locs a b d => kk H locs ⟨a, b, d⟩)
theorem ml_13 {i : Int32} (hC : mX p c cc nL s m args G Z Q) (hH : mH G Q u s H locs) (hg : gi i 4 = true) (hdg : decode cc pc = .ok (.iaload, 1)) (kk : W p l e R s m args below meth c H locs 0 0 Q' (F0 m (pc + 1) ls (.int (ra u 13 i) :: rest))) : W p l e R s m args below meth c H locs 0 0 Q' (F0 m pc ls (.int i :: .ref (Q 13) :: rest)) :=
  va_iald (D := gD G) hC.1 hC.2.1 hC.2.2.2.2.2.1.1 hH.1 11 0 rfl rfl (gi_in hg) hdg kk
theorem ms_13 {i x : Int32} (hC : mX p c cc nL s m args G Z Q) (hH : mH G Q u s H locs) (hu : wa u 13 i x = u1) (hg : gi i 4 = true) (hdg : decode cc pc = .ok (.iastore, 1)) (kk : ∀ (H : Heap) (locs : List Loc), mH G Q u1 s H locs → W p l e R s m args below meth c H locs 0 0 Q' (F0 m (pc + 1) ls rest)) : W p l e R s m args below meth c H locs 0 0 Q' (F0 m pc ls (.int x :: .int i :: .ref (Q 13) :: rest)) := by
  subst hu
  exact va_iast (D := gD G) hC.1 hC.2.1 hC.2.2.2.2.2.1.1 hH.1 hH.2.1 hH.2.2 11 0 rfl rfl (gi_in hg) hdg (fun H locs a b d => kk H locs ⟨a, b, d⟩)
theorem ml_14 {i : Int32} (hC : mX p c cc nL s m args G Z Q) (hH : mH G Q u s H locs) (hg : gi i 128 = true) (hdg : decode cc pc = .ok (.iaload, 1)) (kk : W p l e R s m args below meth c H locs 0 0 Q' (F0 m (pc + 1) ls (.int (ra u 14 i) :: rest))) : W p l e R s m args below meth c H locs 0 0 Q' (F0 m pc ls (.int i :: .ref (Q 14) :: rest)) :=
  va_iald (D := gD G) hC.1 hC.2.1 hC.2.2.2.2.2.1.1 hH.1 12 0 rfl rfl (gi_in hg) hdg kk
theorem ms_14 {i x : Int32} (hC : mX p c cc nL s m args G Z Q) (hH : mH G Q u s H locs) (hu : wa u 14 i x = u1) (hg : gi i 128 = true) (hdg : decode cc pc = .ok (.iastore, 1)) (kk : ∀ (H : Heap) (locs : List Loc), mH G Q u1 s H locs → W p l e R s m args below meth c H locs 0 0 Q' (F0 m (pc + 1) ls rest)) : W p l e R s m args below meth c H locs 0 0 Q' (F0 m pc ls (.int x :: .int i :: .ref (Q 14) :: rest)) := by
  subst hu
  exact va_iast (D := gD G) hC.1 hC.2.1 hC.2.2.2.2.2.1.1 hH.1 hH.2.1 hH.2.2 12 0 rfl rfl (gi_in hg) hdg (fun H locs a b d => kk H locs ⟨a, b, d⟩)
theorem ml_15 {i : Int32} (hC : mX p c cc nL s m args G Z Q) (hH : mH G Q u s H locs) (hg : gi i 160 = true) (hdg : decode cc pc = .ok (.iaload, 1)) (kk : W p l e R s m args below meth c H locs 0 0 Q' (F0 m (pc + 1) ls (.int (ra u 15 i) :: rest))) : W p l e R s m args below meth c H locs 0 0 Q' (F0 m pc ls (.int i :: .ref (Q 15) :: rest)) :=
  va_iald (D := gD G) hC.1 hC.2.1 hC.2.2.2.2.2.1.1 hH.1 13 0 rfl rfl (gi_in hg) hdg kk
theorem ms_15 {i x : Int32} (hC : mX p c cc nL s m args G Z Q) (hH : mH G Q u s H locs) (hu : wa u 15 i x = u1) (hg : gi i 160 = true) (hdg : decode cc pc = .ok (.iastore, 1)) (kk : ∀ (H : Heap) (locs : List Loc), mH G Q u1 s H locs → W p l e R s m args below meth c H locs 0 0 Q' (F0 m (pc + 1) ls rest)) : W p l e R s m args below meth c H locs 0 0 Q' (F0 m pc ls (.int x :: .int i :: .ref (Q 15) :: rest)) := by
  subst hu
  exact va_iast (D := gD G) hC.1 hC.2.1 hC.2.2.2.2.2.1.1 hH.1 hH.2.1 hH.2.2 13 0 rfl rfl (gi_in hg) hdg (fun H locs a b d => kk H locs ⟨a, b, d⟩)
theorem ml_16 {i : Int32} (hC : mX p c cc nL s m args G Z Q) (hH : mH G Q u s H locs) (hg : gi i 160 = true) (hdg : decode cc pc = .ok (.iaload, 1)) (kk : W p l e R s m args below meth c H locs 0 0 Q' (F0 m (pc + 1) ls (.int (ra u 16 i) :: rest))) : W p l e R s m args below meth c H locs 0 0 Q' (F0 m pc ls (.int i :: .ref (Q 16) :: rest)) :=
  va_iald (D := gD G) hC.1 hC.2.1 hC.2.2.2.2.2.1.1 hH.1 14 0 rfl rfl (gi_in hg) hdg kk
theorem ms_16 {i x : Int32} (hC : mX p c cc nL s m args G Z Q) (hH : mH G Q u s H locs) (hu : wa u 16 i x = u1) (hg : gi i 160 = true) (hdg : decode cc pc = .ok (.iastore, 1)) (kk : ∀ (H : Heap) (locs : List Loc), mH G Q u1 s H locs → W p l e R s m args below meth c H locs 0 0 Q' (F0 m (pc + 1) ls rest)) : W p l e R s m args below meth c H locs 0 0 Q' (F0 m pc ls (.int x :: .int i :: .ref (Q 16) :: rest)) := by
  subst hu
  exact va_iast (D := gD G) hC.1 hC.2.1 hC.2.2.2.2.2.1.1 hH.1 hH.2.1 hH.2.2 14 0 rfl rfl (gi_in hg) hdg (fun H locs a b d => kk H locs ⟨a, b, d⟩)
theorem ml_17 {i : Int32} (hC : mX p c cc nL s m args G Z Q) (hH : mH G Q u s H locs) (hg : gi i 160 = true) (hdg : decode cc pc = .ok (.iaload, 1)) (kk : W p l e R s m args below meth c H locs 0 0 Q' (F0 m (pc + 1) ls (.int (ra u 17 i) :: rest))) : W p l e R s m args below meth c H locs 0 0 Q' (F0 m pc ls (.int i :: .ref (Q 17) :: rest)) :=
  va_iald (D := gD G) hC.1 hC.2.1 hC.2.2.2.2.2.1.1 hH.1 15 0 rfl rfl (gi_in hg) hdg kk
theorem ms_17 {i x : Int32} (hC : mX p c cc nL s m args G Z Q) (hH : mH G Q u s H locs) (hu : wa u 17 i x = u1) (hg : gi i 160 = true) (hdg : decode cc pc = .ok (.iastore, 1)) (kk : ∀ (H : Heap) (locs : List Loc), mH G Q u1 s H locs → W p l e R s m args below meth c H locs 0 0 Q' (F0 m (pc + 1) ls rest)) : W p l e R s m args below meth c H locs 0 0 Q' (F0 m pc ls (.int x :: .int i :: .ref (Q 17) :: rest)) := by
  subst hu
  exact va_iast (D := gD G) hC.1 hC.2.1 hC.2.2.2.2.2.1.1 hH.1 hH.2.1 hH.2.2 15 0 rfl rfl (gi_in hg) hdg (fun H locs a b d => kk H locs ⟨a, b, d⟩)
theorem ml_18 {i : Int32} (hC : mX p c cc nL s m args G Z Q) (hH : mH G Q u s H locs) (hg : gi i 160 = true) (hdg : decode cc pc = .ok (.iaload, 1)) (kk : W p l e R s m args below meth c H locs 0 0 Q' (F0 m (pc + 1) ls (.int (ra u 18 i) :: rest))) : W p l e R s m args below meth c H locs 0 0 Q' (F0 m pc ls (.int i :: .ref (Q 18) :: rest)) :=
  va_iald (D := gD G) hC.1 hC.2.1 hC.2.2.2.2.2.1.1 hH.1 16 0 rfl rfl (gi_in hg) hdg kk
theorem ms_18 {i x : Int32} (hC : mX p c cc nL s m args G Z Q) (hH : mH G Q u s H locs) (hu : wa u 18 i x = u1) (hg : gi i 160 = true) (hdg : decode cc pc = .ok (.iastore, 1)) (kk : ∀ (H : Heap) (locs : List Loc), mH G Q u1 s H locs → W p l e R s m args below meth c H locs 0 0 Q' (F0 m (pc + 1) ls rest)) : W p l e R s m args below meth c H locs 0 0 Q' (F0 m pc ls (.int x :: .int i :: .ref (Q 18) :: rest)) := by
  subst hu
  exact va_iast (D := gD G) hC.1 hC.2.1 hC.2.2.2.2.2.1.1 hH.1 hH.2.1 hH.2.2 16 0 rfl rfl (gi_in hg) hdg (fun H locs a b d => kk H locs ⟨a, b, d⟩)
theorem ml_19 {i : Int32} (hC : mX p c cc nL s m args G Z Q) (hH : mH G Q u s H locs) (hg : gi i 160 = true) (hdg : decode cc pc = .ok (.iaload, 1)) (kk : W p l e R s m args below meth c H locs 0 0 Q' (F0 m (pc + 1) ls (.int (ra u 19 i) :: rest))) : W p l e R s m args below meth c H locs 0 0 Q' (F0 m pc ls (.int i :: .ref (Q 19) :: rest)) :=
  va_iald (D := gD G) hC.1 hC.2.1 hC.2.2.2.2.2.1.1 hH.1 17 0 rfl rfl (gi_in hg) hdg kk
theorem ms_19 {i x : Int32} (hC : mX p c cc nL s m args G Z Q) (hH : mH G Q u s H locs) (hu : wa u 19 i x = u1) (hg : gi i 160 = true) (hdg : decode cc pc = .ok (.iastore, 1)) (kk : ∀ (H : Heap) (locs : List Loc), mH G Q u1 s H locs → W p l e R s m args below meth c H locs 0 0 Q' (F0 m (pc + 1) ls rest)) : W p l e R s m args below meth c H locs 0 0 Q' (F0 m pc ls (.int x :: .int i :: .ref (Q 19) :: rest)) := by
  subst hu
  exact va_iast (D := gD G) hC.1 hC.2.1 hC.2.2.2.2.2.1.1 hH.1 hH.2.1 hH.2.2 17 0 rfl rfl (gi_in hg) hdg (fun H locs a b d => kk H locs ⟨a, b, d⟩)
theorem ml_20 {i : Int32} (hC : mX p c cc nL s m args G Z Q) (hH : mH G Q u s H locs) (hg : gi i 160 = true) (hdg : decode cc pc = .ok (.iaload, 1)) (kk : W p l e R s m args below meth c H locs 0 0 Q' (F0 m (pc + 1) ls (.int (ra u 20 i) :: rest))) : W p l e R s m args below meth c H locs 0 0 Q' (F0 m pc ls (.int i :: .ref (Q 20) :: rest)) :=
  va_iald (D := gD G) hC.1 hC.2.1 hC.2.2.2.2.2.1.1 hH.1 18 0 rfl rfl (gi_in hg) hdg kk
theorem ms_20 {i x : Int32} (hC : mX p c cc nL s m args G Z Q) (hH : mH G Q u s H locs) (hu : wa u 20 i x = u1) (hg : gi i 160 = true) (hdg : decode cc pc = .ok (.iastore, 1)) (kk : ∀ (H : Heap) (locs : List Loc), mH G Q u1 s H locs → W p l e R s m args below meth c H locs 0 0 Q' (F0 m (pc + 1) ls rest)) : W p l e R s m args below meth c H locs 0 0 Q' (F0 m pc ls (.int x :: .int i :: .ref (Q 20) :: rest)) := by
  subst hu
  exact va_iast (D := gD G) hC.1 hC.2.1 hC.2.2.2.2.2.1.1 hH.1 hH.2.1 hH.2.2 18 0 rfl rfl (gi_in hg) hdg (fun H locs a b d => kk H locs ⟨a, b, d⟩)
theorem ml_21 {i : Int32} (hC : mX p c cc nL s m args G Z Q) (hH : mH G Q u s H locs) (hg : gi i 160 = true) (hdg : decode cc pc = .ok (.iaload, 1)) (kk : W p l e R s m args below meth c H locs 0 0 Q' (F0 m (pc + 1) ls (.int (ra u 21 i) :: rest))) : W p l e R s m args below meth c H locs 0 0 Q' (F0 m pc ls (.int i :: .ref (Q 21) :: rest)) :=
  va_iald (D := gD G) hC.1 hC.2.1 hC.2.2.2.2.2.1.1 hH.1 19 0 rfl rfl (gi_in hg) hdg kk
theorem ms_21 {i x : Int32} (hC : mX p c cc nL s m args G Z Q) (hH : mH G Q u s H locs) (hu : wa u 21 i x = u1) (hg : gi i 160 = true) (hdg : decode cc pc = .ok (.iastore, 1)) (kk : ∀ (H : Heap) (locs : List Loc), mH G Q u1 s H locs → W p l e R s m args below meth c H locs 0 0 Q' (F0 m (pc + 1) ls rest)) : W p l e R s m args below meth c H locs 0 0 Q' (F0 m pc ls (.int x :: .int i :: .ref (Q 21) :: rest)) := by
  subst hu
  exact va_iast (D := gD G) hC.1 hC.2.1 hC.2.2.2.2.2.1.1 hH.1 hH.2.1 hH.2.2 19 0 rfl rfl (gi_in hg) hdg (fun H locs a b d => kk H locs ⟨a, b, d⟩)
theorem ml_22 {i : Int32} (hC : mX p c cc nL s m args G Z Q) (hH : mH G Q u s H locs) (hg : gi i 4 = true) (hdg : decode cc pc = .ok (.iaload, 1)) (kk : W p l e R s m args below meth c H locs 0 0 Q' (F0 m (pc + 1) ls (.int (ra u 22 i) :: rest))) : W p l e R s m args below meth c H locs 0 0 Q' (F0 m pc ls (.int i :: .ref (Q 22) :: rest)) :=
  va_iald (D := gD G) hC.1 hC.2.1 hC.2.2.2.2.2.1.1 hH.1 20 0 rfl rfl (gi_in hg) hdg kk
theorem ms_22 {i x : Int32} (hC : mX p c cc nL s m args G Z Q) (hH : mH G Q u s H locs) (hu : wa u 22 i x = u1) (hg : gi i 4 = true) (hdg : decode cc pc = .ok (.iastore, 1)) (kk : ∀ (H : Heap) (locs : List Loc), mH G Q u1 s H locs → W p l e R s m args below meth c H locs 0 0 Q' (F0 m (pc + 1) ls rest)) : W p l e R s m args below meth c H locs 0 0 Q' (F0 m pc ls (.int x :: .int i :: .ref (Q 22) :: rest)) := by
  subst hu
  exact va_iast (D := gD G) hC.1 hC.2.1 hC.2.2.2.2.2.1.1 hH.1 hH.2.1 hH.2.2 20 0 rfl rfl (gi_in hg) hdg (fun H locs a b d => kk H locs ⟨a, b, d⟩)
theorem ml_23 {i : Int32} (hC : mX p c cc nL s m args G Z Q) (hH : mH G Q u s H locs) (hg : gi i 4 = true) (hdg : decode cc pc = .ok (.iaload, 1)) (kk : W p l e R s m args below meth c H locs 0 0 Q' (F0 m (pc + 1) ls (.int (ra u 23 i) :: rest))) : W p l e R s m args below meth c H locs 0 0 Q' (F0 m pc ls (.int i :: .ref (Q 23) :: rest)) :=
  va_iald (D := gD G) hC.1 hC.2.1 hC.2.2.2.2.2.1.1 hH.1 21 0 rfl rfl (gi_in hg) hdg kk
theorem ms_23 {i x : Int32} (hC : mX p c cc nL s m args G Z Q) (hH : mH G Q u s H locs) (hu : wa u 23 i x = u1) (hg : gi i 4 = true) (hdg : decode cc pc = .ok (.iastore, 1)) (kk : ∀ (H : Heap) (locs : List Loc), mH G Q u1 s H locs → W p l e R s m args below meth c H locs 0 0 Q' (F0 m (pc + 1) ls rest)) : W p l e R s m args below meth c H locs 0 0 Q' (F0 m pc ls (.int x :: .int i :: .ref (Q 23) :: rest)) := by
  subst hu
  exact va_iast (D := gD G) hC.1 hC.2.1 hC.2.2.2.2.2.1.1 hH.1 hH.2.1 hH.2.2 21 0 rfl rfl (gi_in hg) hdg (fun H locs a b d => kk H locs ⟨a, b, d⟩)
theorem ml_24 {i : Int32} (hC : mX p c cc nL s m args G Z Q) (hH : mH G Q u s H locs) (hg : gi i 64 = true) (hdg : decode cc pc = .ok (.iaload, 1)) (kk : W p l e R s m args below meth c H locs 0 0 Q' (F0 m (pc + 1) ls (.int (ra u 24 i) :: rest))) : W p l e R s m args below meth c H locs 0 0 Q' (F0 m pc ls (.int i :: .ref (Q 24) :: rest)) :=
  va_iald (D := gD G) hC.1 hC.2.1 hC.2.2.2.2.2.1.1 hH.1 22 0 rfl rfl (gi_in hg) hdg kk
theorem ms_24 {i x : Int32} (hC : mX p c cc nL s m args G Z Q) (hH : mH G Q u s H locs) (hu : wa u 24 i x = u1) (hg : gi i 64 = true) (hdg : decode cc pc = .ok (.iastore, 1)) (kk : ∀ (H : Heap) (locs : List Loc), mH G Q u1 s H locs → W p l e R s m args below meth c H locs 0 0 Q' (F0 m (pc + 1) ls rest)) : W p l e R s m args below meth c H locs 0 0 Q' (F0 m pc ls (.int x :: .int i :: .ref (Q 24) :: rest)) := by
  subst hu
  exact va_iast (D := gD G) hC.1 hC.2.1 hC.2.2.2.2.2.1.1 hH.1 hH.2.1 hH.2.2 22 0 rfl rfl (gi_in hg) hdg (fun H locs a b d => kk H locs ⟨a, b, d⟩)
theorem ml_25 {i : Int32} (hC : mX p c cc nL s m args G Z Q) (hH : mH G Q u s H locs) (hg : gi i 4 = true) (hdg : decode cc pc = .ok (.baload, 1)) (kk : W p l e R s m args below meth c H locs 0 0 Q' (F0 m (pc + 1) ls (.int (ra u 25 i) :: rest))) : W p l e R s m args below meth c H locs 0 0 Q' (F0 m pc ls (.int i :: .ref (Q 25) :: rest)) :=
  va_zald (D := gD G) hC.1 hC.2.1 hC.2.2.2.2.2.1.1 hH.1 23 2 rfl rfl (gi_in hg) hdg kk
theorem ms_25 {i x : Int32} (hC : mX p c cc nL s m args G Z Q) (hH : mH G Q u s H locs) (hu : wa u 25 i (vp_nar .boolean x) = u1) (hg : gi i 4 = true) (hdg : decode cc pc = .ok (.bastore, 1)) (kk : ∀ (H : Heap) (locs : List Loc), mH G Q u1 s H locs → W p l e R s m args below meth c H locs 0 0 Q' (F0 m (pc + 1) ls rest)) : W p l e R s m args below meth c H locs 0 0 Q' (F0 m pc ls (.int x :: .int i :: .ref (Q 25) :: rest)) := by
  subst hu
  exact va_zast (D := gD G) hC.1 hC.2.1 hC.2.2.2.2.2.1.1 hH.1 hH.2.1 hH.2.2 23 2 rfl rfl (gi_in hg) hdg (fun H locs a b d => kk H locs ⟨a, b, d⟩)
theorem ml_26 {i : Int32} (hC : mX p c cc nL s m args G Z Q) (hH : mH G Q u s H locs) (hg : gi i 4 = true) (hdg : decode cc pc = .ok (.baload, 1)) (kk : W p l e R s m args below meth c H locs 0 0 Q' (F0 m (pc + 1) ls (.int (ra u 26 i) :: rest))) : W p l e R s m args below meth c H locs 0 0 Q' (F0 m pc ls (.int i :: .ref (Q 26) :: rest)) :=
  va_zald (D := gD G) hC.1 hC.2.1 hC.2.2.2.2.2.1.1 hH.1 24 2 rfl rfl (gi_in hg) hdg kk
theorem ms_26 {i x : Int32} (hC : mX p c cc nL s m args G Z Q) (hH : mH G Q u s H locs) (hu : wa u 26 i (vp_nar .boolean x) = u1) (hg : gi i 4 = true) (hdg : decode cc pc = .ok (.bastore, 1)) (kk : ∀ (H : Heap) (locs : List Loc), mH G Q u1 s H locs → W p l e R s m args below meth c H locs 0 0 Q' (F0 m (pc + 1) ls rest)) : W p l e R s m args below meth c H locs 0 0 Q' (F0 m pc ls (.int x :: .int i :: .ref (Q 26) :: rest)) := by
  subst hu
  exact va_zast (D := gD G) hC.1 hC.2.1 hC.2.2.2.2.2.1.1 hH.1 hH.2.1 hH.2.2 24 2 rfl rfl (gi_in hg) hdg (fun H locs a b d => kk H locs ⟨a, b, d⟩)
theorem ml_32 {i : Int32} (hC : mX p c cc nL s m args G Z Q) (hH : mH G Q u s H locs) (hg : gi i 80 = true) (hdg : decode cc pc = .ok (.baload, 1)) (kk : W p l e R s m args below meth c H locs 0 0 Q' (F0 m (pc + 1) ls (.int (ra u 32 i) :: rest))) : W p l e R s m args below meth c H locs 0 0 Q' (F0 m pc ls (.int i :: .ref (Q 32) :: rest)) :=
  va_bald (D := gD G) hC.1 hC.2.1 hC.2.2.2.2.2.1.1 hH.1 25 1 rfl rfl (gi_in hg) hdg kk
theorem ms_32 {i x : Int32} (hC : mX p c cc nL s m args G Z Q) (hH : mH G Q u s H locs) (hu : wa u 32 i (vp_nar .byte x) = u1) (hg : gi i 80 = true) (hdg : decode cc pc = .ok (.bastore, 1)) (kk : ∀ (H : Heap) (locs : List Loc), mH G Q u1 s H locs → W p l e R s m args below meth c H locs 0 0 Q' (F0 m (pc + 1) ls rest)) : W p l e R s m args below meth c H locs 0 0 Q' (F0 m pc ls (.int x :: .int i :: .ref (Q 32) :: rest)) := by
  subst hu
  exact va_bast (D := gD G) hC.1 hC.2.1 hC.2.2.2.2.2.1.1 hH.1 hH.2.1 hH.2.2 25 1 rfl rfl (gi_in hg) hdg (fun H locs a b d => kk H locs ⟨a, b, d⟩)
theorem ml_33 {i : Int32} (hC : mX p c cc nL s m args G Z Q) (hH : mH G Q u s H locs) (hg : gi i 8 = true) (hdg : decode cc pc = .ok (.iaload, 1)) (kk : W p l e R s m args below meth c H locs 0 0 Q' (F0 m (pc + 1) ls (.int (ra u 33 i) :: rest))) : W p l e R s m args below meth c H locs 0 0 Q' (F0 m pc ls (.int i :: .ref (Q 33) :: rest)) :=
  va_iald (D := gD G) hC.1 hC.2.1 hC.2.2.2.2.2.1.1 hH.1 26 0 rfl rfl (gi_in hg) hdg kk
theorem ms_33 {i x : Int32} (hC : mX p c cc nL s m args G Z Q) (hH : mH G Q u s H locs) (hu : wa u 33 i x = u1) (hg : gi i 8 = true) (hdg : decode cc pc = .ok (.iastore, 1)) (kk : ∀ (H : Heap) (locs : List Loc), mH G Q u1 s H locs → W p l e R s m args below meth c H locs 0 0 Q' (F0 m (pc + 1) ls rest)) : W p l e R s m args below meth c H locs 0 0 Q' (F0 m pc ls (.int x :: .int i :: .ref (Q 33) :: rest)) := by
  subst hu
  exact va_iast (D := gD G) hC.1 hC.2.1 hC.2.2.2.2.2.1.1 hH.1 hH.2.1 hH.2.2 26 0 rfl rfl (gi_in hg) hdg (fun H locs a b d => kk H locs ⟨a, b, d⟩)
theorem ml_34 {i : Int32} (hC : mX p c cc nL s m args G Z Q) (hH : mH G Q u s H locs) (hg : gi i 21 = true) (hdg : decode cc pc = .ok (.iaload, 1)) (kk : W p l e R s m args below meth c H locs 0 0 Q' (F0 m (pc + 1) ls (.int (ra u 34 i) :: rest))) : W p l e R s m args below meth c H locs 0 0 Q' (F0 m pc ls (.int i :: .ref (Q 34) :: rest)) :=
  va_iald (D := gD G) hC.1 hC.2.1 hC.2.2.2.2.2.1.1 hH.1 27 0 rfl rfl (gi_in hg) hdg kk
theorem ms_34 {i x : Int32} (hC : mX p c cc nL s m args G Z Q) (hH : mH G Q u s H locs) (hu : wa u 34 i x = u1) (hg : gi i 21 = true) (hdg : decode cc pc = .ok (.iastore, 1)) (kk : ∀ (H : Heap) (locs : List Loc), mH G Q u1 s H locs → W p l e R s m args below meth c H locs 0 0 Q' (F0 m (pc + 1) ls rest)) : W p l e R s m args below meth c H locs 0 0 Q' (F0 m pc ls (.int x :: .int i :: .ref (Q 34) :: rest)) := by
  subst hu
  exact va_iast (D := gD G) hC.1 hC.2.1 hC.2.2.2.2.2.1.1 hH.1 hH.2.1 hH.2.2 27 0 rfl rfl (gi_in hg) hdg (fun H locs a b d => kk H locs ⟨a, b, d⟩)
theorem ml_35 {i : Int32} (hC : mX p c cc nL s m args G Z Q) (hH : mH G Q u s H locs) (hg : gi i 20 = true) (hdg : decode cc pc = .ok (.iaload, 1)) (kk : W p l e R s m args below meth c H locs 0 0 Q' (F0 m (pc + 1) ls (.int (ra u 35 i) :: rest))) : W p l e R s m args below meth c H locs 0 0 Q' (F0 m pc ls (.int i :: .ref (Q 35) :: rest)) :=
  va_iald (D := gD G) hC.1 hC.2.1 hC.2.2.2.2.2.1.1 hH.1 28 0 rfl rfl (gi_in hg) hdg kk
theorem ms_35 {i x : Int32} (hC : mX p c cc nL s m args G Z Q) (hH : mH G Q u s H locs) (hu : wa u 35 i x = u1) (hg : gi i 20 = true) (hdg : decode cc pc = .ok (.iastore, 1)) (kk : ∀ (H : Heap) (locs : List Loc), mH G Q u1 s H locs → W p l e R s m args below meth c H locs 0 0 Q' (F0 m (pc + 1) ls rest)) : W p l e R s m args below meth c H locs 0 0 Q' (F0 m pc ls (.int x :: .int i :: .ref (Q 35) :: rest)) := by
  subst hu
  exact va_iast (D := gD G) hC.1 hC.2.1 hC.2.2.2.2.2.1.1 hH.1 hH.2.1 hH.2.2 28 0 rfl rfl (gi_in hg) hdg (fun H locs a b d => kk H locs ⟨a, b, d⟩)
theorem ml_36 {i : Int32} (hC : mX p c cc nL s m args G Z Q) (hH : mH G Q u s H locs) (hg : gi i 300 = true) (hdg : decode cc pc = .ok (.iaload, 1)) (kk : W p l e R s m args below meth c H locs 0 0 Q' (F0 m (pc + 1) ls (.int (ra u 36 i) :: rest))) : W p l e R s m args below meth c H locs 0 0 Q' (F0 m pc ls (.int i :: .ref (Q 36) :: rest)) :=
  va_iald (D := gD G) hC.1 hC.2.1 hC.2.2.2.2.2.1.1 hH.1 29 0 rfl rfl (gi_in hg) hdg kk
theorem ms_36 {i x : Int32} (hC : mX p c cc nL s m args G Z Q) (hH : mH G Q u s H locs) (hu : wa u 36 i x = u1) (hg : gi i 300 = true) (hdg : decode cc pc = .ok (.iastore, 1)) (kk : ∀ (H : Heap) (locs : List Loc), mH G Q u1 s H locs → W p l e R s m args below meth c H locs 0 0 Q' (F0 m (pc + 1) ls rest)) : W p l e R s m args below meth c H locs 0 0 Q' (F0 m pc ls (.int x :: .int i :: .ref (Q 36) :: rest)) := by
  subst hu
  exact va_iast (D := gD G) hC.1 hC.2.1 hC.2.2.2.2.2.1.1 hH.1 hH.2.1 hH.2.2 29 0 rfl rfl (gi_in hg) hdg (fun H locs a b d => kk H locs ⟨a, b, d⟩)
theorem ml_37 {i : Int32} (hC : mX p c cc nL s m args G Z Q) (hH : mH G Q u s H locs) (hg : gi i 300 = true) (hdg : decode cc pc = .ok (.iaload, 1)) (kk : W p l e R s m args below meth c H locs 0 0 Q' (F0 m (pc + 1) ls (.int (ra u 37 i) :: rest))) : W p l e R s m args below meth c H locs 0 0 Q' (F0 m pc ls (.int i :: .ref (Q 37) :: rest)) :=
  va_iald (D := gD G) hC.1 hC.2.1 hC.2.2.2.2.2.1.1 hH.1 30 0 rfl rfl (gi_in hg) hdg kk
theorem ms_37 {i x : Int32} (hC : mX p c cc nL s m args G Z Q) (hH : mH G Q u s H locs) (hu : wa u 37 i x = u1) (hg : gi i 300 = true) (hdg : decode cc pc = .ok (.iastore, 1)) (kk : ∀ (H : Heap) (locs : List Loc), mH G Q u1 s H locs → W p l e R s m args below meth c H locs 0 0 Q' (F0 m (pc + 1) ls rest)) : W p l e R s m args below meth c H locs 0 0 Q' (F0 m pc ls (.int x :: .int i :: .ref (Q 37) :: rest)) := by
  subst hu
  exact va_iast (D := gD G) hC.1 hC.2.1 hC.2.2.2.2.2.1.1 hH.1 hH.2.1 hH.2.2 30 0 rfl rfl (gi_in hg) hdg (fun H locs a b d => kk H locs ⟨a, b, d⟩)
theorem ml_38 {i : Int32} (hC : mX p c cc nL s m args G Z Q) (hH : mH G Q u s H locs) (hg : gi i 301 = true) (hdg : decode cc pc = .ok (.iaload, 1)) (kk : W p l e R s m args below meth c H locs 0 0 Q' (F0 m (pc + 1) ls (.int (ra u 38 i) :: rest))) : W p l e R s m args below meth c H locs 0 0 Q' (F0 m pc ls (.int i :: .ref (Q 38) :: rest)) :=
  va_iald (D := gD G) hC.1 hC.2.1 hC.2.2.2.2.2.1.1 hH.1 31 0 rfl rfl (gi_in hg) hdg kk
theorem ms_38 {i x : Int32} (hC : mX p c cc nL s m args G Z Q) (hH : mH G Q u s H locs) (hu : wa u 38 i x = u1) (hg : gi i 301 = true) (hdg : decode cc pc = .ok (.iastore, 1)) (kk : ∀ (H : Heap) (locs : List Loc), mH G Q u1 s H locs → W p l e R s m args below meth c H locs 0 0 Q' (F0 m (pc + 1) ls rest)) : W p l e R s m args below meth c H locs 0 0 Q' (F0 m pc ls (.int x :: .int i :: .ref (Q 38) :: rest)) := by
  subst hu
  exact va_iast (D := gD G) hC.1 hC.2.1 hC.2.2.2.2.2.1.1 hH.1 hH.2.1 hH.2.2 31 0 rfl rfl (gi_in hg) hdg (fun H locs a b d => kk H locs ⟨a, b, d⟩)
theorem ml_40 {i : Int32} (hC : mX p c cc nL s m args G Z Q) (hH : mH G Q u s H locs) (hg : gi i 3000 = true) (hdg : decode cc pc = .ok (.baload, 1)) (kk : W p l e R s m args below meth c H locs 0 0 Q' (F0 m (pc + 1) ls (.int (ra u 40 i) :: rest))) : W p l e R s m args below meth c H locs 0 0 Q' (F0 m pc ls (.int i :: .ref (Q 40) :: rest)) :=
  va_bald (D := gD G) hC.1 hC.2.1 hC.2.2.2.2.2.1.1 hH.1 32 1 rfl rfl (gi_in hg) hdg kk
theorem ms_40 {i x : Int32} (hC : mX p c cc nL s m args G Z Q) (hH : mH G Q u s H locs) (hu : wa u 40 i (vp_nar .byte x) = u1) (hg : gi i 3000 = true) (hdg : decode cc pc = .ok (.bastore, 1)) (kk : ∀ (H : Heap) (locs : List Loc), mH G Q u1 s H locs → W p l e R s m args below meth c H locs 0 0 Q' (F0 m (pc + 1) ls rest)) : W p l e R s m args below meth c H locs 0 0 Q' (F0 m pc ls (.int x :: .int i :: .ref (Q 40) :: rest)) := by
  subst hu
  exact va_bast (D := gD G) hC.1 hC.2.1 hC.2.2.2.2.2.1.1 hH.1 hH.2.1 hH.2.2 32 1 rfl rfl (gi_in hg) hdg (fun H locs a b d => kk H locs ⟨a, b, d⟩)
theorem ml_52 {i : Int32} (hC : mX p c cc nL s m args G Z Q) (hH : mH G Q u s H locs) (hg : gi i 2000 = true) (hdg : decode cc pc = .ok (.iaload, 1)) (kk : W p l e R s m args below meth c H locs 0 0 Q' (F0 m (pc + 1) ls (.int (ra u 52 i) :: rest))) : W p l e R s m args below meth c H locs 0 0 Q' (F0 m pc ls (.int i :: .ref (Q 52) :: rest)) :=
  va_iald (D := gD G) hC.1 hC.2.1 hC.2.2.2.2.2.1.1 hH.1 33 0 rfl rfl (gi_in hg) hdg kk
theorem ms_52 {i x : Int32} (hC : mX p c cc nL s m args G Z Q) (hH : mH G Q u s H locs) (hu : wa u 52 i x = u1) (hg : gi i 2000 = true) (hdg : decode cc pc = .ok (.iastore, 1)) (kk : ∀ (H : Heap) (locs : List Loc), mH G Q u1 s H locs → W p l e R s m args below meth c H locs 0 0 Q' (F0 m (pc + 1) ls rest)) : W p l e R s m args below meth c H locs 0 0 Q' (F0 m pc ls (.int x :: .int i :: .ref (Q 52) :: rest)) := by
  subst hu
  exact va_iast (D := gD G) hC.1 hC.2.1 hC.2.2.2.2.2.1.1 hH.1 hH.2.1 hH.2.2 33 0 rfl rfl (gi_in hg) hdg (fun H locs a b d => kk H locs ⟨a, b, d⟩)
theorem ml_54 {i : Int32} (hC : mX p c cc nL s m args G Z Q) (hH : mH G Q u s H locs) (hg : gi i 24000 = true) (hdg : decode cc pc = .ok (.baload, 1)) (kk : W p l e R s m args below meth c H locs 0 0 Q' (F0 m (pc + 1) ls (.int (ra u 54 i) :: rest))) : W p l e R s m args below meth c H locs 0 0 Q' (F0 m pc ls (.int i :: .ref (Q 54) :: rest)) :=
  va_bald (D := gD G) hC.1 hC.2.1 hC.2.2.2.2.2.1.1 hH.1 34 1 rfl rfl (gi_in hg) hdg kk
theorem ms_54 {i x : Int32} (hC : mX p c cc nL s m args G Z Q) (hH : mH G Q u s H locs) (hu : wa u 54 i (vp_nar .byte x) = u1) (hg : gi i 24000 = true) (hdg : decode cc pc = .ok (.bastore, 1)) (kk : ∀ (H : Heap) (locs : List Loc), mH G Q u1 s H locs → W p l e R s m args below meth c H locs 0 0 Q' (F0 m (pc + 1) ls rest)) : W p l e R s m args below meth c H locs 0 0 Q' (F0 m pc ls (.int x :: .int i :: .ref (Q 54) :: rest)) := by
  subst hu
  exact va_bast (D := gD G) hC.1 hC.2.1 hC.2.2.2.2.2.1.1 hH.1 hH.2.1 hH.2.2 34 1 rfl rfl (gi_in hg) hdg (fun H locs a b d => kk H locs ⟨a, b, d⟩)
theorem ml_56 {i : Int32} (hC : mX p c cc nL s m args G Z Q) (hH : mH G Q u s H locs) (hg : gi i 3000 = true) (hdg : decode cc pc = .ok (.baload, 1)) (kk : W p l e R s m args below meth c H locs 0 0 Q' (F0 m (pc + 1) ls (.int (ra u 56 i) :: rest))) : W p l e R s m args below meth c H locs 0 0 Q' (F0 m pc ls (.int i :: .ref (Q 56) :: rest)) :=
  va_bald (D := gD G) hC.1 hC.2.1 hC.2.2.2.2.2.1.1 hH.1 35 1 rfl rfl (gi_in hg) hdg kk
theorem ms_56 {i x : Int32} (hC : mX p c cc nL s m args G Z Q) (hH : mH G Q u s H locs) (hu : wa u 56 i (vp_nar .byte x) = u1) (hg : gi i 3000 = true) (hdg : decode cc pc = .ok (.bastore, 1)) (kk : ∀ (H : Heap) (locs : List Loc), mH G Q u1 s H locs → W p l e R s m args below meth c H locs 0 0 Q' (F0 m (pc + 1) ls rest)) : W p l e R s m args below meth c H locs 0 0 Q' (F0 m pc ls (.int x :: .int i :: .ref (Q 56) :: rest)) := by
  subst hu
  exact va_bast (D := gD G) hC.1 hC.2.1 hC.2.2.2.2.2.1.1 hH.1 hH.2.1 hH.2.2 35 1 rfl rfl (gi_in hg) hdg (fun H locs a b d => kk H locs ⟨a, b, d⟩)
theorem ml_57 {i : Int32} (hC : mX p c cc nL s m args G Z Q) (hH : mH G Q u s H locs) (hg : gi i 32 = true) (hdg : decode cc pc = .ok (.iaload, 1)) (kk : W p l e R s m args below meth c H locs 0 0 Q' (F0 m (pc + 1) ls (.int (ra u 57 i) :: rest))) : W p l e R s m args below meth c H locs 0 0 Q' (F0 m pc ls (.int i :: .ref (Q 57) :: rest)) :=
  va_iald (D := gD G) hC.1 hC.2.1 hC.2.2.2.2.2.1.1 hH.1 36 0 rfl rfl (gi_in hg) hdg kk
theorem ms_57 {i x : Int32} (hC : mX p c cc nL s m args G Z Q) (hH : mH G Q u s H locs) (hu : wa u 57 i x = u1) (hg : gi i 32 = true) (hdg : decode cc pc = .ok (.iastore, 1)) (kk : ∀ (H : Heap) (locs : List Loc), mH G Q u1 s H locs → W p l e R s m args below meth c H locs 0 0 Q' (F0 m (pc + 1) ls rest)) : W p l e R s m args below meth c H locs 0 0 Q' (F0 m pc ls (.int x :: .int i :: .ref (Q 57) :: rest)) := by
  subst hu
  exact va_iast (D := gD G) hC.1 hC.2.1 hC.2.2.2.2.2.1.1 hH.1 hH.2.1 hH.2.2 36 0 rfl rfl (gi_in hg) hdg (fun H locs a b d => kk H locs ⟨a, b, d⟩)
theorem ml_58 {i : Int32} (hC : mX p c cc nL s m args G Z Q) (hH : mH G Q u s H locs) (hg : gi i 32 = true) (hdg : decode cc pc = .ok (.iaload, 1)) (kk : W p l e R s m args below meth c H locs 0 0 Q' (F0 m (pc + 1) ls (.int (ra u 58 i) :: rest))) : W p l e R s m args below meth c H locs 0 0 Q' (F0 m pc ls (.int i :: .ref (Q 58) :: rest)) :=
  va_iald (D := gD G) hC.1 hC.2.1 hC.2.2.2.2.2.1.1 hH.1 37 0 rfl rfl (gi_in hg) hdg kk
theorem ms_58 {i x : Int32} (hC : mX p c cc nL s m args G Z Q) (hH : mH G Q u s H locs) (hu : wa u 58 i x = u1) (hg : gi i 32 = true) (hdg : decode cc pc = .ok (.iastore, 1)) (kk : ∀ (H : Heap) (locs : List Loc), mH G Q u1 s H locs → W p l e R s m args below meth c H locs 0 0 Q' (F0 m (pc + 1) ls rest)) : W p l e R s m args below meth c H locs 0 0 Q' (F0 m pc ls (.int x :: .int i :: .ref (Q 58) :: rest)) := by
  subst hu
  exact va_iast (D := gD G) hC.1 hC.2.1 hC.2.2.2.2.2.1.1 hH.1 hH.2.1 hH.2.2 37 0 rfl rfl (gi_in hg) hdg (fun H locs a b d => kk H locs ⟨a, b, d⟩)
theorem ml_59 {i : Int32} (hC : mX p c cc nL s m args G Z Q) (hH : mH G Q u s H locs) (hg : gi i 16 = true) (hdg : decode cc pc = .ok (.iaload, 1)) (kk : W p l e R s m args below meth c H locs 0 0 Q' (F0 m (pc + 1) ls (.int (ra u 59 i) :: rest))) : W p l e R s m args below meth c H locs 0 0 Q' (F0 m pc ls (.int i :: .ref (Q 59) :: rest)) :=
  va_iald (D := gD G) hC.1 hC.2.1 hC.2.2.2.2.2.1.1 hH.1 38 0 rfl rfl (gi_in hg) hdg kk
theorem ms_59 {i x : Int32} (hC : mX p c cc nL s m args G Z Q) (hH : mH G Q u s H locs) (hu : wa u 59 i x = u1) (hg : gi i 16 = true) (hdg : decode cc pc = .ok (.iastore, 1)) (kk : ∀ (H : Heap) (locs : List Loc), mH G Q u1 s H locs → W p l e R s m args below meth c H locs 0 0 Q' (F0 m (pc + 1) ls rest)) : W p l e R s m args below meth c H locs 0 0 Q' (F0 m pc ls (.int x :: .int i :: .ref (Q 59) :: rest)) := by
  subst hu
  exact va_iast (D := gD G) hC.1 hC.2.1 hC.2.2.2.2.2.1.1 hH.1 hH.2.1 hH.2.2 38 0 rfl rfl (gi_in hg) hdg (fun H locs a b d => kk H locs ⟨a, b, d⟩)
theorem ml_60 {i : Int32} (hC : mX p c cc nL s m args G Z Q) (hH : mH G Q u s H locs) (hg : gi i 32 = true) (hdg : decode cc pc = .ok (.baload, 1)) (kk : W p l e R s m args below meth c H locs 0 0 Q' (F0 m (pc + 1) ls (.int (ra u 60 i) :: rest))) : W p l e R s m args below meth c H locs 0 0 Q' (F0 m pc ls (.int i :: .ref (Q 60) :: rest)) :=
  va_zald (D := gD G) hC.1 hC.2.1 hC.2.2.2.2.2.1.1 hH.1 39 2 rfl rfl (gi_in hg) hdg kk
theorem ms_60 {i x : Int32} (hC : mX p c cc nL s m args G Z Q) (hH : mH G Q u s H locs) (hu : wa u 60 i (vp_nar .boolean x) = u1) (hg : gi i 32 = true) (hdg : decode cc pc = .ok (.bastore, 1)) (kk : ∀ (H : Heap) (locs : List Loc), mH G Q u1 s H locs → W p l e R s m args below meth c H locs 0 0 Q' (F0 m (pc + 1) ls rest)) : W p l e R s m args below meth c H locs 0 0 Q' (F0 m pc ls (.int x :: .int i :: .ref (Q 60) :: rest)) := by
  subst hu
  exact va_zast (D := gD G) hC.1 hC.2.1 hC.2.2.2.2.2.1.1 hH.1 hH.2.1 hH.2.2 39 2 rfl rfl (gi_in hg) hdg (fun H locs a b d => kk H locs ⟨a, b, d⟩)
theorem ml_61 {i : Int32} (hC : mX p c cc nL s m args G Z Q) (hH : mH G Q u s H locs) (hg : gi i 160 = true) (hdg : decode cc pc = .ok (.iaload, 1)) (kk : W p l e R s m args below meth c H locs 0 0 Q' (F0 m (pc + 1) ls (.int (ra u 61 i) :: rest))) : W p l e R s m args below meth c H locs 0 0 Q' (F0 m pc ls (.int i :: .ref (Q 61) :: rest)) :=
  va_iald (D := gD G) hC.1 hC.2.1 hC.2.2.2.2.2.1.1 hH.1 40 0 rfl rfl (gi_in hg) hdg kk
theorem ms_61 {i x : Int32} (hC : mX p c cc nL s m args G Z Q) (hH : mH G Q u s H locs) (hu : wa u 61 i x = u1) (hg : gi i 160 = true) (hdg : decode cc pc = .ok (.iastore, 1)) (kk : ∀ (H : Heap) (locs : List Loc), mH G Q u1 s H locs → W p l e R s m args below meth c H locs 0 0 Q' (F0 m (pc + 1) ls rest)) : W p l e R s m args below meth c H locs 0 0 Q' (F0 m pc ls (.int x :: .int i :: .ref (Q 61) :: rest)) := by
  subst hu
  exact va_iast (D := gD G) hC.1 hC.2.1 hC.2.2.2.2.2.1.1 hH.1 hH.2.1 hH.2.2 40 0 rfl rfl (gi_in hg) hdg (fun H locs a b d => kk H locs ⟨a, b, d⟩)
theorem ml_62 {i : Int32} (hC : mX p c cc nL s m args G Z Q) (hH : mH G Q u s H locs) (hg : gi i 160 = true) (hdg : decode cc pc = .ok (.iaload, 1)) (kk : W p l e R s m args below meth c H locs 0 0 Q' (F0 m (pc + 1) ls (.int (ra u 62 i) :: rest))) : W p l e R s m args below meth c H locs 0 0 Q' (F0 m pc ls (.int i :: .ref (Q 62) :: rest)) :=
  va_iald (D := gD G) hC.1 hC.2.1 hC.2.2.2.2.2.1.1 hH.1 41 0 rfl rfl (gi_in hg) hdg kk
theorem ms_62 {i x : Int32} (hC : mX p c cc nL s m args G Z Q) (hH : mH G Q u s H locs) (hu : wa u 62 i x = u1) (hg : gi i 160 = true) (hdg : decode cc pc = .ok (.iastore, 1)) (kk : ∀ (H : Heap) (locs : List Loc), mH G Q u1 s H locs → W p l e R s m args below meth c H locs 0 0 Q' (F0 m (pc + 1) ls rest)) : W p l e R s m args below meth c H locs 0 0 Q' (F0 m pc ls (.int x :: .int i :: .ref (Q 62) :: rest)) := by
  subst hu
  exact va_iast (D := gD G) hC.1 hC.2.1 hC.2.2.2.2.2.1.1 hH.1 hH.2.1 hH.2.2 41 0 rfl rfl (gi_in hg) hdg (fun H locs a b d => kk H locs ⟨a, b, d⟩)
theorem ml_63 {i : Int32} (hC : mX p c cc nL s m args G Z Q) (hH : mH G Q u s H locs) (hg : gi i 160 = true) (hdg : decode cc pc = .ok (.iaload, 1)) (kk : W p l e R s m args below meth c H locs 0 0 Q' (F0 m (pc + 1) ls (.int (ra u 63 i) :: rest))) : W p l e R s m args below meth c H locs 0 0 Q' (F0 m pc ls (.int i :: .ref (Q 63) :: rest)) :=
  va_iald (D := gD G) hC.1 hC.2.1 hC.2.2.2.2.2.1.1 hH.1 42 0 rfl rfl (gi_in hg) hdg kk
theorem ms_63 {i x : Int32} (hC : mX p c cc nL s m args G Z Q) (hH : mH G Q u s H locs) (hu : wa u 63 i x = u1) (hg : gi i 160 = true) (hdg : decode cc pc = .ok (.iastore, 1)) (kk : ∀ (H : Heap) (locs : List Loc), mH G Q u1 s H locs → W p l e R s m args below meth c H locs 0 0 Q' (F0 m (pc + 1) ls rest)) : W p l e R s m args below meth c H locs 0 0 Q' (F0 m pc ls (.int x :: .int i :: .ref (Q 63) :: rest)) := by
  subst hu
  exact va_iast (D := gD G) hC.1 hC.2.1 hC.2.2.2.2.2.1.1 hH.1 hH.2.1 hH.2.2 42 0 rfl rfl (gi_in hg) hdg (fun H locs a b d => kk H locs ⟨a, b, d⟩)
theorem ml_64 {i : Int32} (hC : mX p c cc nL s m args G Z Q) (hH : mH G Q u s H locs) (hg : gi i 160 = true) (hdg : decode cc pc = .ok (.iaload, 1)) (kk : W p l e R s m args below meth c H locs 0 0 Q' (F0 m (pc + 1) ls (.int (ra u 64 i) :: rest))) : W p l e R s m args below meth c H locs 0 0 Q' (F0 m pc ls (.int i :: .ref (Q 64) :: rest)) :=
  va_iald (D := gD G) hC.1 hC.2.1 hC.2.2.2.2.2.1.1 hH.1 43 0 rfl rfl (gi_in hg) hdg kk
theorem ms_64 {i x : Int32} (hC : mX p c cc nL s m args G Z Q) (hH : mH G Q u s H locs) (hu : wa u 64 i x = u1) (hg : gi i 160 = true) (hdg : decode cc pc = .ok (.iastore, 1)) (kk : ∀ (H : Heap) (locs : List Loc), mH G Q u1 s H locs → W p l e R s m args below meth c H locs 0 0 Q' (F0 m (pc + 1) ls rest)) : W p l e R s m args below meth c H locs 0 0 Q' (F0 m pc ls (.int x :: .int i :: .ref (Q 64) :: rest)) := by
  subst hu
  exact va_iast (D := gD G) hC.1 hC.2.1 hC.2.2.2.2.2.1.1 hH.1 hH.2.1 hH.2.2 43 0 rfl rfl (gi_in hg) hdg (fun H locs a b d => kk H locs ⟨a, b, d⟩)
theorem ml_65 {i : Int32} (hC : mX p c cc nL s m args G Z Q) (hH : mH G Q u s H locs) (hg : gi i 160 = true) (hdg : decode cc pc = .ok (.iaload, 1)) (kk : W p l e R s m args below meth c H locs 0 0 Q' (F0 m (pc + 1) ls (.int (ra u 65 i) :: rest))) : W p l e R s m args below meth c H locs 0 0 Q' (F0 m pc ls (.int i :: .ref (Q 65) :: rest)) :=
  va_iald (D := gD G) hC.1 hC.2.1 hC.2.2.2.2.2.1.1 hH.1 44 0 rfl rfl (gi_in hg) hdg kk
theorem ms_65 {i x : Int32} (hC : mX p c cc nL s m args G Z Q) (hH : mH G Q u s H locs) (hu : wa u 65 i x = u1) (hg : gi i 160 = true) (hdg : decode cc pc = .ok (.iastore, 1)) (kk : ∀ (H : Heap) (locs : List Loc), mH G Q u1 s H locs → W p l e R s m args below meth c H locs 0 0 Q' (F0 m (pc + 1) ls rest)) : W p l e R s m args below meth c H locs 0 0 Q' (F0 m pc ls (.int x :: .int i :: .ref (Q 65) :: rest)) := by
  subst hu
  exact va_iast (D := gD G) hC.1 hC.2.1 hC.2.2.2.2.2.1.1 hH.1 hH.2.1 hH.2.2 44 0 rfl rfl (gi_in hg) hdg (fun H locs a b d => kk H locs ⟨a, b, d⟩)
theorem ml_66 {i : Int32} (hC : mX p c cc nL s m args G Z Q) (hH : mH G Q u s H locs) (hg : gi i 160 = true) (hdg : decode cc pc = .ok (.iaload, 1)) (kk : W p l e R s m args below meth c H locs 0 0 Q' (F0 m (pc + 1) ls (.int (ra u 66 i) :: rest))) : W p l e R s m args below meth c H locs 0 0 Q' (F0 m pc ls (.int i :: .ref (Q 66) :: rest)) :=
  va_iald (D := gD G) hC.1 hC.2.1 hC.2.2.2.2.2.1.1 hH.1 45 0 rfl rfl (gi_in hg) hdg kk
theorem ms_66 {i x : Int32} (hC : mX p c cc nL s m args G Z Q) (hH : mH G Q u s H locs) (hu : wa u 66 i x = u1) (hg : gi i 160 = true) (hdg : decode cc pc = .ok (.iastore, 1)) (kk : ∀ (H : Heap) (locs : List Loc), mH G Q u1 s H locs → W p l e R s m args below meth c H locs 0 0 Q' (F0 m (pc + 1) ls rest)) : W p l e R s m args below meth c H locs 0 0 Q' (F0 m pc ls (.int x :: .int i :: .ref (Q 66) :: rest)) := by
  subst hu
  exact va_iast (D := gD G) hC.1 hC.2.1 hC.2.2.2.2.2.1.1 hH.1 hH.2.1 hH.2.2 45 0 rfl rfl (gi_in hg) hdg (fun H locs a b d => kk H locs ⟨a, b, d⟩)
theorem ml_67 {i : Int32} (hC : mX p c cc nL s m args G Z Q) (hH : mH G Q u s H locs) (hg : gi i 160 = true) (hdg : decode cc pc = .ok (.iaload, 1)) (kk : W p l e R s m args below meth c H locs 0 0 Q' (F0 m (pc + 1) ls (.int (ra u 67 i) :: rest))) : W p l e R s m args below meth c H locs 0 0 Q' (F0 m pc ls (.int i :: .ref (Q 67) :: rest)) :=
  va_iald (D := gD G) hC.1 hC.2.1 hC.2.2.2.2.2.1.1 hH.1 46 0 rfl rfl (gi_in hg) hdg kk
theorem ms_67 {i x : Int32} (hC : mX p c cc nL s m args G Z Q) (hH : mH G Q u s H locs) (hu : wa u 67 i x = u1) (hg : gi i 160 = true) (hdg : decode cc pc = .ok (.iastore, 1)) (kk : ∀ (H : Heap) (locs : List Loc), mH G Q u1 s H locs → W p l e R s m args below meth c H locs 0 0 Q' (F0 m (pc + 1) ls rest)) : W p l e R s m args below meth c H locs 0 0 Q' (F0 m pc ls (.int x :: .int i :: .ref (Q 67) :: rest)) := by
  subst hu
  exact va_iast (D := gD G) hC.1 hC.2.1 hC.2.2.2.2.2.1.1 hH.1 hH.2.1 hH.2.2 46 0 rfl rfl (gi_in hg) hdg (fun H locs a b d => kk H locs ⟨a, b, d⟩)
theorem ml_68 {i : Int32} (hC : mX p c cc nL s m args G Z Q) (hH : mH G Q u s H locs) (hg : gi i 160 = true) (hdg : decode cc pc = .ok (.iaload, 1)) (kk : W p l e R s m args below meth c H locs 0 0 Q' (F0 m (pc + 1) ls (.int (ra u 68 i) :: rest))) : W p l e R s m args below meth c H locs 0 0 Q' (F0 m pc ls (.int i :: .ref (Q 68) :: rest)) :=
  va_iald (D := gD G) hC.1 hC.2.1 hC.2.2.2.2.2.1.1 hH.1 47 0 rfl rfl (gi_in hg) hdg kk
theorem ms_68 {i x : Int32} (hC : mX p c cc nL s m args G Z Q) (hH : mH G Q u s H locs) (hu : wa u 68 i x = u1) (hg : gi i 160 = true) (hdg : decode cc pc = .ok (.iastore, 1)) (kk : ∀ (H : Heap) (locs : List Loc), mH G Q u1 s H locs → W p l e R s m args below meth c H locs 0 0 Q' (F0 m (pc + 1) ls rest)) : W p l e R s m args below meth c H locs 0 0 Q' (F0 m pc ls (.int x :: .int i :: .ref (Q 68) :: rest)) := by
  subst hu
  exact va_iast (D := gD G) hC.1 hC.2.1 hC.2.2.2.2.2.1.1 hH.1 hH.2.1 hH.2.2 47 0 rfl rfl (gi_in hg) hdg (fun H locs a b d => kk H locs ⟨a, b, d⟩)
theorem ml_70 {i : Int32} (hC : mX p c cc nL s m args G Z Q) (hH : mH G Q u s H locs) (hg : gi i 96 = true) (hdg : decode cc pc = .ok (.iaload, 1)) (kk : W p l e R s m args below meth c H locs 0 0 Q' (F0 m (pc + 1) ls (.int (ra u 70 i) :: rest))) : W p l e R s m args below meth c H locs 0 0 Q' (F0 m pc ls (.int i :: .ref (Q 70) :: rest)) :=
  va_iald (D := gD G) hC.1 hC.2.1 hC.2.2.2.2.2.1.1 hH.1 48 0 rfl rfl (gi_in hg) hdg kk
theorem ms_70 {i x : Int32} (hC : mX p c cc nL s m args G Z Q) (hH : mH G Q u s H locs) (hu : wa u 70 i x = u1) (hg : gi i 96 = true) (hdg : decode cc pc = .ok (.iastore, 1)) (kk : ∀ (H : Heap) (locs : List Loc), mH G Q u1 s H locs → W p l e R s m args below meth c H locs 0 0 Q' (F0 m (pc + 1) ls rest)) : W p l e R s m args below meth c H locs 0 0 Q' (F0 m pc ls (.int x :: .int i :: .ref (Q 70) :: rest)) := by
  subst hu
  exact va_iast (D := gD G) hC.1 hC.2.1 hC.2.2.2.2.2.1.1 hH.1 hH.2.1 hH.2.2 48 0 rfl rfl (gi_in hg) hdg (fun H locs a b d => kk H locs ⟨a, b, d⟩)
theorem ml_71 {i : Int32} (hC : mX p c cc nL s m args G Z Q) (hH : mH G Q u s H locs) (hg : gi i 4 = true) (hdg : decode cc pc = .ok (.iaload, 1)) (kk : W p l e R s m args below meth c H locs 0 0 Q' (F0 m (pc + 1) ls (.int (ra u 71 i) :: rest))) : W p l e R s m args below meth c H locs 0 0 Q' (F0 m pc ls (.int i :: .ref (Q 71) :: rest)) :=
  va_iald (D := gD G) hC.1 hC.2.1 hC.2.2.2.2.2.1.1 hH.1 49 0 rfl rfl (gi_in hg) hdg kk
theorem ms_71 {i x : Int32} (hC : mX p c cc nL s m args G Z Q) (hH : mH G Q u s H locs) (hu : wa u 71 i x = u1) (hg : gi i 4 = true) (hdg : decode cc pc = .ok (.iastore, 1)) (kk : ∀ (H : Heap) (locs : List Loc), mH G Q u1 s H locs → W p l e R s m args below meth c H locs 0 0 Q' (F0 m (pc + 1) ls rest)) : W p l e R s m args below meth c H locs 0 0 Q' (F0 m pc ls (.int x :: .int i :: .ref (Q 71) :: rest)) := by
  subst hu
  exact va_iast (D := gD G) hC.1 hC.2.1 hC.2.2.2.2.2.1.1 hH.1 hH.2.1 hH.2.2 49 0 rfl rfl (gi_in hg) hdg (fun H locs a b d => kk H locs ⟨a, b, d⟩)
theorem ml_src {i : Int32} (hC : mX p c cc nL s m args G Z Q) (hH : mH G Q u s H locs) (hg : gi i 3000 = true) (hdg : decode cc pc = .ok (.baload, 1)) (kk : W p l e R s m args below meth c H locs 0 0 Q' (F0 m (pc + 1) ls (.int (rz u i) :: rest))) : W p l e R s m args below meth c H locs 0 0 Q' (F0 m pc ls (.int i :: .ref (if u.1 41 = 0 then Q 40 else Q 56) :: rest)) := by
  by_cases h0 : u.1 41 = 0
  · rw [if_pos h0]
    have e0 : rz u i = ra u 40 i := if_pos h0
    rw [e0] at kk
    exact ml_40 hC hH hg hdg kk
  · rw [if_neg h0]
    have e0 : rz u i = ra u 56 i := if_neg h0
    rw [e0] at kk
    exact ml_56 hC hH hg hdg kk
end MC
theorem kwX13_in : kwS yX13_in cX13_in 6 (some .boolean) 203 := ⟨wmc_X13_in, wma106, wma177⟩
theorem kwX13_anew : kwV yX13_anew cX13_anew 3 none 173 := ⟨wmc_X13_anew, wma3, wma178, wma179⟩
theorem kwX13_isClass : kwS yX13_isClass cX13_isClass 1 (some .boolean) 214 := ⟨wmc_X13_isClass, wma140, wma180⟩
theorem kwX13_halving : kwV yX13_halving cX13_halving 3 (some .int) 207 := ⟨wmc_X13_halving, wma111, wma181, wma182⟩
theorem kwX13_rounds : kwV yX13_rounds cX13_rounds 2 (some .int) 211 := ⟨wmc_X13_rounds, wma110, wma183, wma184⟩
theorem kwX13_fights : kwV yX13_fights cX13_fights 3 (some .int) 218 := ⟨wmc_X13_fights, wma109, wma185, wma186⟩
theorem kwX13_isFight : kwV yX13_isFight cX13_isFight 3 (some .boolean) 508 := ⟨wmc_X13_isFight, wma151, wma187, wma188⟩
theorem kwX13_base : kwV yX13_base cX13_base 3 (some .int) 221 := ⟨wmc_X13_base, wma125, wma189, wma190⟩
theorem kwX13_isSecond : kwV yX13_isSecond cX13_isSecond 3 (some .boolean) 229 := ⟨wmc_X13_isSecond, wma120, wma191, wma192⟩
theorem kwX13_finalOf : kwV yX13_finalOf cX13_finalOf 2 (some .int) 553 := ⟨wmc_X13_finalOf, wma169, wma193, wma194⟩
theorem kwX13_roundOf : kwV yX13_roundOf cX13_roundOf 4 (some .int) 243 := ⟨wmc_X13_roundOf, wma127, wma195, wma196⟩
theorem kwX13_halfOf : kwV yX13_halfOf cX13_halfOf 3 (some .int) 233 := ⟨wmc_X13_halfOf, wma121, wma197, wma198⟩
theorem kwX13_stepOf : kwV yX13_stepOf cX13_stepOf 3 (some .int) 236 := ⟨wmc_X13_stepOf, wma122, wma199, wma200⟩
theorem kwX13_sideOf : kwV yX13_sideOf cX13_sideOf 7 (some .int) 252 := ⟨wmc_X13_sideOf, wma118, wma201, wma202⟩
theorem kwX13_pair : kwV yX13_pair cX13_pair 6 (some .int) 225 := ⟨wmc_X13_pair, wma119, wma203, wma204⟩
theorem kwX13_second : kwV yX13_second cX13_second 5 (some .int) 239 := ⟨wmc_X13_second, wma123, wma205, wma206⟩
theorem kwX13_loserTo : kwV yX13_loserTo cX13_loserTo 7 (some .int) 249 := ⟨wmc_X13_loserTo, wma124, wma207, wma208⟩
theorem kwX13_winnerOf : kwV yX13_winnerOf cX13_winnerOf 5 (some .int) 246 := ⟨wmc_X13_winnerOf, wma126, wma209, wma210⟩
theorem kwX13_isWalk : kwV yX13_isWalk cX13_isWalk 5 (some .boolean) 505 := ⟨wmc_X13_isWalk, wma150, wma211, wma212⟩
theorem kwX13_isReady : kwV yX13_isReady cX13_isReady 3 (some .boolean) 514 := ⟨wmc_X13_isReady, wma153, wma213, wma214⟩
theorem kwX13_holds : kwV yX13_holds cX13_holds 7 (some .boolean) 533 := ⟨wmc_X13_holds, wma130, wma215, wma216⟩
theorem kwX13_termOf : kwV yX13_termOf cX13_termOf 5 (some .int) 255 := ⟨wmc_X13_termOf, wma131, wma217, wma218⟩
theorem kwX13_joined : kwS yX13_joined cX13_joined 3 (some .int) 259 := ⟨wmc_X13_joined, wma132, wma219⟩
theorem kwX13_wrong : kwV yX13_wrong cX13_wrong 3 (some (.object "JudoHallModel$Stop")) 311 := ⟨wmc_X13_wrong, wma90, wma220, wma221⟩
theorem kwX13_byteAt : kwV yX13_byteAt cX13_byteAt 2 (some .int) 274 := ⟨wmc_X13_byteAt, wma81, wma222, wma223⟩
theorem kwX13_isLetter : kwS yX13_isLetter cX13_isLetter 1 (some .boolean) 280 := ⟨wmc_X13_isLetter, wma82, wma224⟩
theorem kwX13_isDigit : kwS yX13_isDigit cX13_isDigit 1 (some .boolean) 283 := ⟨wmc_X13_isDigit, wma83, wma225⟩
theorem kwX13_scan : kwV yX13_scan cX13_scan 3 none 315 := ⟨wmc_X13_scan, wma80, wma226, wma227⟩
theorem kwX13_isText : kwV yX13_isText cX13_isText 4 (some .boolean) 304 := ⟨wmc_X13_isText, wma87, wma228, wma229⟩
theorem kwX13_is : kwV yX13_is cX13_is 2 (some .boolean) 308 := ⟨wmc_X13_is, wma86, wma230, wma231⟩
theorem kwX13_need : kwV yX13_need cX13_need 2 none 348 := ⟨wmc_X13_need, wma85, wma232, wma233⟩
theorem kwX13_number : kwV yX13_number cX13_number 2 (some .int) 352 := ⟨wmc_X13_number, wma91, wma234, wma235⟩
theorem kwX13_isQuoted : kwV yX13_isQuoted cX13_isQuoted 1 (some .boolean) 341 := ⟨wmc_X13_isQuoted, wma93, wma236, wma237⟩
theorem kwX13_findSign : kwV yX13_findSign cX13_findSign 4 (some .int) 360 := ⟨wmc_X13_findSign, wma94, wma238, wma239⟩
theorem kwX13_name : kwV yX13_name cX13_name 1 none 357 := ⟨wmc_X13_name, wma92, wma240, wma241⟩
theorem kwX13_readLaws : kwV yX13_readLaws cX13_readLaws 2 none 454 := ⟨wmc_X13_readLaws, wma79, wma242, wma243⟩
theorem kwX13_counts : kwV yX13_counts cX13_counts 1 none 369 := ⟨wmc_X13_counts, wma98, wma244, wma245⟩
theorem kwX13_put : kwV yX13_put cX13_put 3 none 372 := ⟨wmc_X13_put, wma101, wma246, wma247⟩
theorem kwX13_hold : kwV yX13_hold cX13_hold 1 none 379 := ⟨wmc_X13_hold, wma104, wma248, wma249⟩
theorem kwX13_release : kwV yX13_release cX13_release 2 none 382 := ⟨wmc_X13_release, wma100, wma250, wma251⟩
theorem kwX13_readOr : kwV yX13_readOr cX13_readOr 1 none 366 := ⟨wmc_X13_readOr, wma95, wma252, wma253⟩
theorem kwX13_readAnd : kwV yX13_readAnd cX13_readAnd 1 none 376 := ⟨wmc_X13_readAnd, wma96, wma254, wma255⟩
theorem kwX13_opens : kwV yX13_opens cX13_opens 1 none 389 := ⟨wmc_X13_opens, wma99, wma256, wma257⟩
theorem kwX13_readNot : kwV yX13_readNot cX13_readNot 2 none 386 := ⟨wmc_X13_readNot, wma97, wma258, wma259⟩
theorem kwX13_readSum : kwV yX13_readSum cX13_readSum 2 none 396 := ⟨wmc_X13_readSum, wma102, wma260, wma261⟩
theorem kwX13_readTerm : kwV yX13_readTerm cX13_readTerm 3 none 411 := ⟨wmc_X13_readTerm, wma103, wma262, wma263⟩
theorem kwX13_act : kwV yX13_act cX13_act 5 (some .int) 466 := ⟨wmc_X13_act, wma138, wma264, wma265⟩
theorem kwX13_does : kwV yX13_does cX13_does 7 (some .int) 421 := ⟨wmc_X13_does, wma77, wma266, wma267⟩
theorem kwX13_takeLaws : Cond.codeWith yX13_takeLaws cX13_takeLaws 6 (some .int) [(51, 55, 58, 105)] ∈ wM ∧ Cond.methodLink RX13 424 yX13_takeLaws ∈ wM ∧ Cond.instanceMethod yX13_takeLaws ∈ wM ∧ Cond.selects RX13 yX13_takeLaws yX13_takeLaws ∈ wM := ⟨wmc_X13_takeLaws, wma78, wma270, wma271⟩
theorem kwX13_lawsAgain : kwV yX13_lawsAgain cX13_lawsAgain 3 none 463 := ⟨wmc_X13_lawsAgain, wma137, wma272, wma273⟩
theorem kwX13_lay : kwV yX13_lay cX13_lay 3 none 469 := ⟨wmc_X13_lay, wma139, wma278, wma279⟩
theorem kwX13_isFighter : kwV yX13_isFighter cX13_isFighter 2 (some .boolean) 476 := ⟨wmc_X13_isFighter, wma144, wma284, wma285⟩
theorem kwX13_comes : kwV yX13_comes cX13_comes 4 (some .int) 427 := ⟨wmc_X13_comes, wma105, wma290, wma291⟩
theorem kwX13_weighed : kwV yX13_weighed cX13_weighed 4 (some .int) 481 := ⟨wmc_X13_weighed, wma108, wma296, wma297⟩
theorem kwX13_makeRow : kwV yX13_makeRow cX13_makeRow 6 none 488 := ⟨wmc_X13_makeRow, wma112, wma300, wma301⟩
theorem kwX13_draws : kwV yX13_draws cX13_draws 7 (some .int) 430 := ⟨wmc_X13_draws, wma107, wma302, wma303⟩
theorem kwX13_isOther : kwV yX13_isOther cX13_isOther 3 (some .boolean) 495 := ⟨wmc_X13_isOther, wma114, wma304, wma305⟩
theorem kwX13_settle : kwV yX13_settle cX13_settle 4 none 491 := ⟨wmc_X13_settle, wma113, wma306, wma307⟩
theorem kwX13_bestPlace : kwV yX13_bestPlace cX13_bestPlace 12 (some .int) 498 := ⟨wmc_X13_bestPlace, wma115, wma308, wma309⟩
theorem kwX13_about : kwV yX13_about cX13_about 5 (some .int) 547 := ⟨wmc_X13_about, wma163, wma312, wma313⟩
theorem kwX13_matOf : kwV yX13_matOf cX13_matOf 4 (some .int) 517 := ⟨wmc_X13_matOf, wma136, wma314, wma315⟩
theorem kwX13_isMat : kwS yX13_isMat cX13_isMat 1 (some .boolean) 524 := ⟨wmc_X13_isMat, wma156, wma322⟩
theorem kwX13_rests : kwV yX13_rests cX13_rests 4 (some .boolean) 527 := ⟨wmc_X13_rests, wma157, wma323, wma324⟩
theorem kwX13_begins : kwV yX13_begins cX13_begins 6 (some .int) 433 := ⟨wmc_X13_begins, wma117, wma327, wma328⟩
theorem kwX13_asked : kwV yX13_asked cX13_asked 6 (some .int) 441 := ⟨wmc_X13_asked, wma129, wma329, wma330⟩
theorem kwX13_passes : kwV yX13_passes cX13_passes 4 (some .int) 445 := ⟨wmc_X13_passes, wma134, wma331, wma332⟩
theorem kwX13_goesOver : kwV yX13_goesOver cX13_goesOver 2 none 530 := ⟨wmc_X13_goesOver, wma128, wma333, wma334⟩
theorem kwX13_ends : kwV yX13_ends cX13_ends 6 (some .int) 448 := ⟨wmc_X13_ends, wma133, wma335, wma336⟩
theorem kwX13_struck : kwV yX13_struck cX13_struck 7 (some .int) 451 := ⟨wmc_X13_struck, wma135, wma347, wma348⟩
theorem kwX13_won : kwV yX13_won cX13_won 5 (some .int) 556 := ⟨wmc_X13_won, wma166, wma351, wma352⟩
theorem kwX13_sum : kwV yX13_sum cX13_sum 5 (some .int) 559 := ⟨wmc_X13_sum, wma167, wma353, wma354⟩
theorem kwX13_alike : kwV yX13_alike cX13_alike 5 (some .int) 562 := ⟨wmc_X13_alike, wma168, wma355, wma356⟩
theorem kwX13_isAhead : kwV yX13_isAhead cX13_isAhead 7 (some .boolean) 565 := ⟨wmc_X13_isAhead, wma165, wma357, wma358⟩
theorem kwX13_ordered : kwV yX13_ordered cX13_ordered 7 (some .int) 550 := ⟨wmc_X13_ordered, wma164, wma359, wma360⟩
theorem kwX13_stage : kwV yX13_stage cX13_stage 4 (some .int) 576 := ⟨wmc_X13_stage, wma173, wma361, wma362⟩
theorem kwX13_tires : kwV yX13_tires cX13_tires 3 none 573 := ⟨wmc_X13_tires, wma172, wma365, wma366⟩
theorem kwX13_isOver : kwV yX13_isOver cX13_isOver 6 (some .boolean) 587 := ⟨wmc_X13_isOver, wma175, wma367, wma368⟩
theorem kwX13_mayBegin : kwV yX13_mayBegin cX13_mayBegin 8 (some .boolean) 579 := ⟨wmc_X13_mayBegin, wma174, wma369, wma370⟩
end
section
/-! ===== programs over the reference's state; a state has marks: which cells have been written since anew() last began ===== -/
abbrev GS : Type := MS × (Nat → Bool) × (Nat → Nat → Bool)
abbrev PG (β : Type) : Type := GS → Option (β × GS)
def prt {β : Type} (x : β) : PG β := fun w => some (x, w)
def pog {β : Type} (b : Bool) (p : PG β) : PG β := fun w => match b with
  | true => p w
  | false => none
def pli {β : Type} (x : Int32) (c : Int32 → PG β) : PG β := c x
def pcl {α β : Type} (p : PG α) (c : α → PG β) : PG β := fun w => match p w with
  | some (a, w1) => c a w1
  | none => none
def poi {β : Type} (x : Option Int32) (c : Int32 → PG β) : PG β := match x with
  | some a => c a
  | none => fun _ => none
def pot {β : Type} (x : Option Int32) (n : PG β) (c : Int32 → PG β) : PG β := match x with
  | some a => c a
  | none => n
def prf {β : Type} (k : Nat) (c : Int32 → PG β) : PG β := fun w => match w.2.1 k with
  | true => c (w.1.1 k) w
  | false => none
def puf {β : Type} (k : Nat) (c : Int32 → PG β) : PG β := fun w => c (w.1.1 k) w
def swf (k : Nat) (v : Int32) (w : GS) : GS := (si w.1 k v, (fun j => if j = k then true else w.2.1 j), w.2.2)
def swd (k : Nat) (i v : Int32) (w : GS) : GS := (wa w.1 k i v, w.2.1, fun a j => if a = k then (if j = i.toNatClampNeg then true else w.2.2 k j) else w.2.2 a j)
def sclr (w : GS) : GS := (w.1, (fun k => if [2, 3, 4, 27, 28, 29, 30, 31, 41, 43, 44, 45, 46, 47, 48, 51].contains k then false else w.2.1 k), fun k j => if [0, 1, 5, 6, 7, 8, 9, 10, 11, 12, 14, 15, 16, 17, 18, 19, 20, 21, 22, 23, 24, 25, 26, 32, 33, 34, 35, 36, 37, 38, 56, 57, 58, 59, 60].contains k then false else w.2.2 k j)
def pwf {β : Type} (k : Nat) (v : Int32) (p : PG β) : PG β := fun w => p (swf k v w)
def prd {β : Type} (k n : Nat) (i : Int32) (c : Int32 → PG β) : PG β := fun w => match gi i n && w.2.2 k i.toNatClampNeg with
  | true => c (ra w.1 k i) w
  | false => none
def pud {β : Type} (k n : Nat) (i : Int32) (c : Int32 → PG β) : PG β := fun w => match gi i n with
  | true => c (ra w.1 k i) w
  | false => none
def pwd {β : Type} (k n : Nat) (i v : Int32) (p : PG β) : PG β := fun w => match gi i n with
  | true => p (swd k i v w)
  | false => none
def psr {β : Type} (i : Int32) (c : Int32 → PG β) : PG β := fun w => match w.2.1 41 && (gi i 3000 && (decide (w.1.1 41 = 0) || w.2.2 56 i.toNatClampNeg)) with
  | true => c (rz w.1 i) w
  | false => none
/-- the cells that anew() and what follows it must write before they are read -/
def clrI (k : Nat) : Bool := [2, 3, 4, 27, 28, 29, 30, 31, 41, 43, 44, 45, 46, 47, 48, 51].contains k
def clrA (k : Nat) : Bool := [0, 1, 5, 6, 7, 8, 9, 10, 11, 12, 14, 15, 16, 17, 18, 19, 20, 21, 22, 23, 24, 25, 26, 32, 33, 34, 35, 36, 37, 38, 56, 57, 58, 59, 60].contains k
def pclr {β : Type} (p : PG β) : PG β := fun w => p (sclr w)
/-- the laws' cells, which readLaws() writes anew -/
def sclL (w : GS) : GS := (w.1, (fun k => if [27, 28, 29, 30, 31].contains k then false else w.2.1 k), fun k j => if [32, 33, 34, 35, 36, 37].contains k then false else w.2.2 k j)
def pclL {β : Type} (p : PG β) : PG β := fun w => p (sclL w)
theorem pog_some {β : Type} {b : Bool} {p : PG β} {w : GS} {y : β × GS} (h : pog b p w = some y) : b = true ∧ p w = some y := by
  cases b with
  | true => exact ⟨rfl, h⟩
  | false => cases h
theorem pli_some {β : Type} {x : Int32} {c : Int32 → PG β} {w : GS} {y : β × GS} (h : pli x c w = some y) : ∃ v : Int32, x = v ∧ c v w = some y := ⟨x, rfl, h⟩
theorem pcl_some {α β : Type} {p : PG α} {c : α → PG β} {w : GS} {y : β × GS} (h : pcl p c w = some y) : ∃ (a : α) (w1 : GS), p w = some (a, w1) ∧ c a w1 = some y := by
  unfold pcl at h
  cases hp : p w with
  | none => rw [hp] at h; cases h
  | some q => rw [hp] at h; exact ⟨q.1, q.2, rfl, h⟩
theorem poi_some {β : Type} {x : Option Int32} {c : Int32 → PG β} {w : GS} {y : β × GS} (h : poi x c w = some y) : ∃ a : Int32, x = some a ∧ c a w = some y := by
  cases x with
  | none => cases h
  | some a => exact ⟨a, rfl, h⟩
theorem pot_none {β : Type} {n : PG β} {c : Int32 → PG β} {w : GS} {y : β × GS} (h : pot none n c w = some y) : n w = some y := h
theorem pot_some {β : Type} {r : Int32} {n : PG β} {c : Int32 → PG β} {w : GS} {y : β × GS} (h : pot (some r) n c w = some y) : c r w = some y := h
theorem prf_some {β : Type} {k : Nat} {c : Int32 → PG β} {w : GS} {y : β × GS} (h : prf k c w = some y) : ∃ x : Int32, w.1.1 k = x ∧ c x w = some y := by
  unfold prf at h
  cases hb : w.2.1 k with
  | false => rw [hb] at h; cases h
  | true => rw [hb] at h; exact ⟨_, rfl, h⟩
theorem puf_some {β : Type} {k : Nat} {c : Int32 → PG β} {w : GS} {y : β × GS} (h : puf k c w = some y) : ∃ x : Int32, w.1.1 k = x ∧ c x w = some y := ⟨_, rfl, h⟩
theorem pwf_some {β : Type} {k : Nat} {v : Int32} {p : PG β} {w : GS} {y : β × GS} (h : pwf k v p w = some y) : ∃ w1 : GS, si w.1 k v = w1.1 ∧ p w1 = some y := ⟨swf k v w, rfl, h⟩
theorem prd_some {β : Type} {k n : Nat} {i : Int32} {c : Int32 → PG β} {w : GS} {y : β × GS} (h : prd k n i c w = some y) : ∃ x : Int32, gi i n = true ∧ ra w.1 k i = x ∧ c x w = some y := by
  unfold prd at h
  cases hb : gi i n && w.2.2 k i.toNatClampNeg with
  | false => rw [hb] at h; cases h
  | true => rw [hb] at h; exact ⟨_, (Bool.and_eq_true_iff.mp hb).1, rfl, h⟩
theorem pud_some {β : Type} {k n : Nat} {i : Int32} {c : Int32 → PG β} {w : GS} {y : β × GS} (h : pud k n i c w = some y) : ∃ x : Int32, gi i n = true ∧ ra w.1 k i = x ∧ c x w = some y := by
  unfold pud at h
  cases hb : gi i n with
  | false => rw [hb] at h; cases h
  | true => rw [hb] at h; exact ⟨_, rfl, rfl, h⟩
theorem pwd_some {β : Type} {k n : Nat} {i v : Int32} {p : PG β} {w : GS} {y : β × GS} (h : pwd k n i v p w = some y) : ∃ w1 : GS, gi i n = true ∧ wa w.1 k i v = w1.1 ∧ p w1 = some y := by
  unfold pwd at h
  cases hb : gi i n with
  | false => rw [hb] at h; cases h
  | true => rw [hb] at h; exact ⟨swd k i v w, rfl, rfl, h⟩
theorem psr_some {β : Type} {i : Int32} {c : Int32 → PG β} {w : GS} {y : β × GS} (h : psr i c w = some y) : ∃ x : Int32, gi i 3000 = true ∧ rz w.1 i = x ∧ c x w = some y := by
  unfold psr at h
  cases hb : w.2.1 41 && (gi i 3000 && (decide (w.1.1 41 = 0) || w.2.2 56 i.toNatClampNeg)) with
  | false => rw [hb] at h; cases h
  | true => rw [hb] at h; exact ⟨_, (Bool.and_eq_true_iff.mp (Bool.and_eq_true_iff.mp hb).2).1, rfl, h⟩
theorem pclL_some {β : Type} {p : PG β} {w : GS} {y : β × GS} (h : pclL p w = some y) : ∃ w1 : GS, w.1 = w1.1 ∧ p w1 = some y := ⟨sclL w, rfl, h⟩
theorem pclr_some {β : Type} {p : PG β} {w : GS} {y : β × GS} (h : pclr p w = some y) : ∃ w1 : GS, w.1 = w1.1 ∧ p w1 = some y := ⟨sclr w, rfl, h⟩
theorem prt_eq {v r : Int32} {w w1 : GS} (h : prt v w = some (r, w1)) : some (v, w.1) = some (r, w1.1) := by cases h; rfl
theorem prt_eqS {v r : Int32} {w w1 : GS} (h : prt (some v) w = some (some r, w1)) : some (v, w.1) = some (r, w1.1) := by cases h; rfl
theorem prt_eqT {w w1 : GS} (h : prt (none : Option Int32) w = some (none, w1)) : some ((none : Option Int32), w.1) = some ((none : Option Int32), w1.1) := by cases h; rfl
theorem prt_no {r : Int32} {w w1 : GS} (h : prt (none : Option Int32) w = some (some r, w1)) : False := by cases h
theorem prt_no2 {r : Int32} {w w1 : GS} (h : prt (some r) w = some (none, w1)) : False := by cases h
end
section
/-! ===== programs that look at marked cells alone ===== -/
def trk (k : Nat) : Bool := !([40, 42, 49, 50, 52, 53, 55, 61, 62, 69].contains k)
/-- v has at least u's marks, and at u's marks the same values (but for the cells that are not kept track of) -/
def Ag (u v : GS) : Prop := (∀ k, trk k = true → u.2.1 k = true → v.2.1 k = true ∧ v.1.1 k = u.1.1 k) ∧ ∀ k j, trk k = true → u.2.2 k j = true → v.2.2 k j = true ∧ v.1.2 k j = u.1.2 k j
/-- the source is the kept text -/
def Sk (c : Bool) (u : GS) : Prop := c = true → u.2.1 41 = true ∧ u.1.1 41 = 1
def Det {β : Type} (c : Bool) (p : PG β) : Prop := ∀ u v : GS, Ag u v → Sk c u → ∀ (r : β) (u1 : GS), p u = some (r, u1) → ∃ v1 : GS, p v = some (r, v1) ∧ Ag u1 v1 ∧ Sk c u1
theorem Ag.trans {u v w : GS} (h1 : Ag u v) (h2 : Ag v w) : Ag u w := ⟨fun k ht h => ⟨(h2.1 k ht (h1.1 k ht h).1).1, (h2.1 k ht (h1.1 k ht h).1).2.trans (h1.1 k ht h).2⟩, fun k j ht h => ⟨(h2.2 k j ht (h1.2 k j ht h).1).1, (h2.2 k j ht (h1.2 k j ht h).1).2.trans (h1.2 k j ht h).2⟩⟩
theorem Det_rt {β : Type} {c : Bool} (x : β) : Det c (prt x) := fun u v h hs r u1 e => by cases e; exact ⟨v, rfl, h, hs⟩
theorem Det_no {β : Type} {c : Bool} : Det c (fun _ => none : PG β) := fun _ _ _ _ _ _ e => by cases e
theorem Det_og {β : Type} {c : Bool} {b : Bool} {p : PG β} (hp : Det c p) : Det c (pog b p) := fun u v h hs r u1 e => by
  obtain ⟨hb, e⟩ := pog_some e
  subst hb
  exact hp u v h hs r u1 e
theorem Det_li {β : Type} {c : Bool} {x : Int32} {q : Int32 → PG β} (hq : ∀ x, Det c (q x)) : Det c (pli x q) := hq x
theorem Det_cl {α β : Type} {c : Bool} {p : PG α} {q : α → PG β} (hp : Det c p) (hq : ∀ a, Det c (q a)) : Det c (pcl p q) := fun u v h hs r u1 e => by
  obtain ⟨a, w1, e1, e2⟩ := pcl_some e
  obtain ⟨v1, f1, g1, s1⟩ := hp u v h hs a w1 e1
  obtain ⟨v2, f2, g2, s2⟩ := hq a w1 v1 g1 s1 r u1 e2
  exact ⟨v2, by unfold pcl; rw [f1]; exact f2, g2, s2⟩
theorem Det_oi {β : Type} {c : Bool} {x : Option Int32} {q : Int32 → PG β} (hq : ∀ x, Det c (q x)) : Det c (poi x q) := by
  cases x with
  | none => exact Det_no
  | some a => exact hq a
theorem Det_ot {β : Type} {c : Bool} {x : Option Int32} {n : PG β} {q : Int32 → PG β} (hn : Det c n) (hq : ∀ x, Det c (q x)) : Det c (pot x n q) := by
  cases x with
  | none => exact hn
  | some a => exact hq a
theorem Det_ite {β : Type} {c : Bool} {b : Prop} [Decidable b] {p q : PG β} (hp : Det c p) (hq : Det c q) : Det c (if b then p else q) := by
  by_cases h : b
  · rw [if_pos h]; exact hp
  · rw [if_neg h]; exact hq
theorem Det_rf {β : Type} {c : Bool} {k : Nat} {q : Int32 → PG β} (hk : trk k = true) (hq : ∀ x, Det c (q x)) : Det c (prf k q) := fun u v h hs r u1 e => by
  unfold prf at e
  cases hb : u.2.1 k with
  | false => rw [hb] at e; cases e
  | true =>
    rw [hb] at e
    obtain ⟨v1, f1, g1, s1⟩ := hq _ u v h hs r u1 e
    refine ⟨v1, ?_, g1, s1⟩
    unfold prf
    rw [(h.1 k hk hb).1, (h.1 k hk hb).2]
    exact f1
theorem Det_rd {β : Type} {c : Bool} {k n : Nat} {i : Int32} {q : Int32 → PG β} (hk : trk k = true) (hq : ∀ x, Det c (q x)) : Det c (prd k n i q) := fun u v h hs r u1 e => by
  unfold prd at e
  cases hb : gi i n && u.2.2 k i.toNatClampNeg with
  | false => rw [hb] at e; cases e
  | true =>
    rw [hb] at e
    obtain ⟨b1, b2⟩ := Bool.and_eq_true_iff.mp hb
    obtain ⟨v1, f1, g1, s1⟩ := hq _ u v h hs r u1 e
    refine ⟨v1, ?_, g1, s1⟩
    unfold prd
    rw [b1, (h.2 k _ hk b2).1]
    have hr : ra v.1 k i = ra u.1 k i := (h.2 k _ hk b2).2
    rw [hr]
    exact f1
theorem Det_wf {β : Type} {c : Bool} {k : Nat} {x : Int32} {p : PG β} (hk : ¬ k = 41) (hp : Det c p) : Det c (pwf k x p) := fun u v h hs r u1 e => by
  refine hp (swf k x u) (swf k x v) ⟨fun j ht hj => ?_, h.2⟩ (fun hc => ?_) r u1 e
  · by_cases hjk : j = k
    · refine ⟨if_pos hjk, ?_⟩
      show (if j = k then x else v.1.1 j) = (if j = k then x else u.1.1 j)
      rw [if_pos hjk, if_pos hjk]
    · have hj' : u.2.1 j = true := by
        have hj2 : (if j = k then true else u.2.1 j) = true := hj
        rw [if_neg hjk] at hj2
        exact hj2
      refine ⟨(if_neg hjk).trans (h.1 j ht hj').1, ?_⟩
      show (if j = k then x else v.1.1 j) = (if j = k then x else u.1.1 j)
      rw [if_neg hjk, if_neg hjk]
      exact (h.1 j ht hj').2
  · refine ⟨(if_neg (fun z => hk z.symm)).trans (hs hc).1, ?_⟩
    show (if 41 = k then x else u.1.1 41) = 1
    rw [if_neg (fun z => hk z.symm)]
    exact (hs hc).2
theorem Det_wd {β : Type} {c : Bool} {k n : Nat} {i x : Int32} {p : PG β} (hp : Det c p) : Det c (pwd k n i x p) := fun u v h hs r u1 e => by
  unfold pwd at e
  cases hb : gi i n with
  | false => rw [hb] at e; cases e
  | true =>
    rw [hb] at e
    have hag : Ag (swd k i x u) (swd k i x v) := by
      refine ⟨h.1, fun a j ht hj => ?_⟩
      by_cases hak : a = k
      · subst hak
        by_cases hji : j = i.toNatClampNeg
        · refine ⟨by show (if a = a then (if j = i.toNatClampNeg then true else _) else _) = true; rw [if_pos rfl, if_pos hji], ?_⟩
          show (if a = a then upd (v.1.2 a) i.toNatClampNeg x else _) j = (if a = a then upd (u.1.2 a) i.toNatClampNeg x else _) j
          rw [if_pos rfl, if_pos rfl]
          show (if j = i.toNatClampNeg then x else _) = (if j = i.toNatClampNeg then x else _)
          rw [if_pos hji, if_pos hji]
        · have hj' : u.2.2 a j = true := by
            have hj2 : (if a = a then (if j = i.toNatClampNeg then true else u.2.2 a j) else u.2.2 a j) = true := hj
            rw [if_pos rfl, if_neg hji] at hj2
            exact hj2
          refine ⟨by show (if a = a then (if j = i.toNatClampNeg then true else v.2.2 a j) else _) = true; rw [if_pos rfl, if_neg hji]; exact (h.2 a j ht hj').1, ?_⟩
          show (if a = a then upd (v.1.2 a) i.toNatClampNeg x else _) j = (if a = a then upd (u.1.2 a) i.toNatClampNeg x else _) j
          rw [if_pos rfl, if_pos rfl]
          show (if j = i.toNatClampNeg then x else v.1.2 a j) = (if j = i.toNatClampNeg then x else u.1.2 a j)
          rw [if_neg hji, if_neg hji]
          exact (h.2 a j ht hj').2
      · have hj' : u.2.2 a j = true := by
          have hj2 : (if a = k then (if j = i.toNatClampNeg then true else u.2.2 k j) else u.2.2 a j) = true := hj
          rw [if_neg hak] at hj2
          exact hj2
        refine ⟨by show (if a = k then _ else v.2.2 a j) = true; rw [if_neg hak]; exact (h.2 a j ht hj').1, ?_⟩
        show (if a = k then _ else v.1.2 a) j = (if a = k then _ else u.1.2 a) j
        rw [if_neg hak, if_neg hak]
        exact (h.2 a j ht hj').2
    obtain ⟨v1, f1, g1, s1⟩ := hp (swd k i x u) (swd k i x v) hag hs r u1 e
    refine ⟨v1, ?_, g1, s1⟩
    unfold pwd
    rw [hb]
    exact f1
theorem Det_sr {β : Type} {i : Int32} {q : Int32 → PG β} (hq : ∀ x, Det true (q x)) : Det true (psr i q) := fun u v h hs r u1 e => by
  obtain ⟨hs1, hs2⟩ := hs rfl
  have hn : ¬ (1 : Int32) = 0 := by decide
  unfold psr at e
  cases hb : u.2.1 41 && (gi i 3000 && (decide (u.1.1 41 = 0) || u.2.2 56 i.toNatClampNeg)) with
  | false => rw [hb] at e; cases e
  | true =>
    rw [hb] at e
    obtain ⟨b1, b2⟩ := Bool.and_eq_true_iff.mp (Bool.and_eq_true_iff.mp hb).2
    rw [hs2, decide_eq_false hn, Bool.false_or] at b2
    obtain ⟨v1, f1, g1, s1⟩ := hq _ u v h hs r u1 e
    refine ⟨v1, ?_, g1, s1⟩
    have hv := h.1 41 (by decide) hs1
    have ha := h.2 56 _ (by decide) b2
    unfold psr
    rw [hv.1, b1, hv.2, hs2, decide_eq_false hn, ha.1]
    have hr : rz v.1 i = rz u.1 i := by
      unfold rz
      rw [hv.2, hs2, if_neg hn, if_neg hn]
      exact ha.2
    rw [hr]
    exact f1
theorem Ag.clL {u v : GS} (h : Ag u v) : Ag (sclL u) (sclL v) := by
  refine ⟨fun k ht hk => ?_, fun k j ht hk => ?_⟩
  · have hk2 : (if [27, 28, 29, 30, 31].contains k = true then false else u.2.1 k) = true := hk
    by_cases hc : [27, 28, 29, 30, 31].contains k = true
    · rw [if_pos hc] at hk2; cases hk2
    · rw [if_neg hc] at hk2
      refine ⟨?_, (h.1 k ht hk2).2⟩
      show (if [27, 28, 29, 30, 31].contains k = true then false else v.2.1 k) = true
      rw [if_neg hc]
      exact (h.1 k ht hk2).1
  · have hk2 : (if [32, 33, 34, 35, 36, 37].contains k = true then false else u.2.2 k j) = true := hk
    by_cases hc : [32, 33, 34, 35, 36, 37].contains k = true
    · rw [if_pos hc] at hk2; cases hk2
    · rw [if_neg hc] at hk2
      refine ⟨?_, (h.2 k j ht hk2).2⟩
      show (if [32, 33, 34, 35, 36, 37].contains k = true then false else v.2.2 k j) = true
      rw [if_neg hc]
      exact (h.2 k j ht hk2).1
theorem Det_clL {β : Type} {c : Bool} {p : PG β} (hp : Det c p) : Det c (pclL p) := fun u v h hs r u1 e => hp (sclL u) (sclL v) h.clL (fun hc => ⟨(hs hc).1, (hs hc).2⟩) r u1 e
theorem Ag.clr {u v : GS} (h : Ag u v) : Ag (sclr u) (sclr v) := by
  refine ⟨fun k ht hk => ?_, fun k j ht hk => ?_⟩
  · have hk2 : (if clrI k = true then false else u.2.1 k) = true := hk
    by_cases hc : clrI k = true
    · rw [if_pos hc] at hk2; cases hk2
    · rw [if_neg hc] at hk2
      refine ⟨?_, (h.1 k ht hk2).2⟩
      show (if clrI k = true then false else v.2.1 k) = true
      rw [if_neg hc]
      exact (h.1 k ht hk2).1
  · have hk2 : (if clrA k = true then false else u.2.2 k j) = true := hk
    by_cases hc : clrA k = true
    · rw [if_pos hc] at hk2; cases hk2
    · rw [if_neg hc] at hk2
      refine ⟨?_, (h.2 k j ht hk2).2⟩
      show (if clrA k = true then false else v.2.2 k j) = true
      rw [if_neg hc]
      exact (h.2 k j ht hk2).1
theorem Det_clr {β : Type} {p : PG β} (hp : Det false p) : Det false (pclr p) := fun u v h _ r u1 e => hp (sclr u) (sclr v) h.clr (fun hc => by cases hc) r u1 e
theorem Det.weaken {β : Type} {p : PG β} (h : Det false p) (hk : ∀ u r u1, p u = some (r, u1) → Sk true u → Sk true u1) : Det true p := fun u v a s r u1 e => by
  obtain ⟨v1, f1, g1, -⟩ := h u v a (fun z => by cases z) r u1 e
  exact ⟨v1, f1, g1, hk u r u1 e s⟩
end
section
def f_in (a0 : Int64) (a1 : Int64) (a2 : Int64) : PG (Int32) := (if (lg_cmp a0 a1) < 0 then prt 0 else (if 0 < (lg_cmp a0 a2) then prt 0 else prt 1))
set_option maxHeartbeats 4000000 in
set_option maxRecDepth 100000 in
theorem m_in (l : Launch) (G : gG) (Z : gM) (Q : Nat → Nat) (u u1 : GS) (r : Int32) (a0 : Int64) (a1 : Int64) (a2 : Int64) (sz : Nat) (hF : f_in a0 a1 a2 u = some (r, u1)) : Met l yX13_in (Cond.code yX13_in cX13_in 6 (some .boolean) :: wM) { frames := 0, cells := 0, slots := 0, locals := 0 } (va_Pc [.long a0, .long a1, .long a2] (mPM G Z Q u.1 sz)) (mQi G Q u1.1 r sz) 0 0 (mA Q sz) := by
  refine Met.ofW (cc := cX13_in) (maxL := 6) (ret := (some .boolean)) (by decide) rfl ?_
  intro p e s m args below meth c s₁ B hml hv
  obtain ⟨rfl, rfl, hP, hB, hD, hE⟩ := hv
  have hr := B.returns
  have hlocks := B.notSynchronized
  have hts := atoms_spec (ws := Cond.code yX13_in cX13_in 6 (some .boolean) :: wM) B.pre
  have hC : mX p c cX13_in 6 s m _ G Z Q := ⟨B.exec, B.bytes, hml, findClass_of_methodNamed B.named, fun w h => hts w (List.mem_cons_of_mem _ h), hB, hE⟩
  have hx := hC.1
  have hb := hC.2.1
  have hH : mH G Q u.1 s s.heap [] := ⟨hP, hD, va_S.rf⟩
  have hl := lv_entry ([.long a0, .long a1, .long a2]) (n := 6) (Nat.le_of_ble_eq_true rfl)
  rw [lg_entry_eq]
  generalize (lg_sl ([.long a0, .long a1, .long a2]) ++ List.replicate (6 - (lg_sl ([.long a0, .long a1, .long a2])).length) Slot.unset).toArray = ls at hl ⊢
  have hl : lv_has ls 6 [(0, .long a0), (2, .long a1), (4, .long a2)] := hl
  unfold f_in at hF
  refine lv_lload_n hx hb dX13_in_0 rfl (lv_at hl 0 rfl) ?_
  refine lv_lload_n hx hb dX13_in_1 rfl (lv_at hl 1 rfl) ?_
  refine W.lcmp hx hb dX13_in_2 ?_
  refine lv_if_lt (tgt := 17) hx hb dX13_in_3 (by decide) (fun c_1 => ?_) (fun c_1 => ?_)
  · rw [if_pos c_1] at hF
    refine lv_iconst (v := 0) hx hb dX13_in_17 (by decide) ?_
    have hF := prt_eq hF
    exact mr_z hC hH hr rfl hF dX13_in_18 hlocks
  · rw [if_neg c_1] at hF
    refine lv_lload_n hx hb dX13_in_6 rfl (lv_at hl 0 rfl) ?_
    refine lv_lload hx hb dX13_in_7 (lv_at hl 2 rfl) ?_
    refine W.lcmp hx hb dX13_in_9 ?_
    refine lv_if_gt (tgt := 17) hx hb dX13_in_10 (by decide) (fun c_2 => ?_) (fun c_2 => ?_)
    · rw [if_pos c_2] at hF
      refine lv_iconst (v := 0) hx hb dX13_in_17 (by decide) ?_
      have hF := prt_eq hF
      exact mr_z hC hH hr rfl hF dX13_in_18 hlocks
    · rw [if_neg c_2] at hF
      refine lv_iconst (v := 1) hx hb dX13_in_13 (by decide) ?_
      refine lv_goto (tgt := 18) hx hb dX13_in_14 (by decide) ?_
      have hF := prt_eq hF
      exact mr_z hC hH hr rfl hF dX13_in_18 hlocks
def f_isClass (a0 : Int32) : PG (Int32) := pcl (f_in a0.toInt64 0 3) (fun r_1 => pog (gb r_1) (prt r_1))
set_option maxHeartbeats 4000000 in
set_option maxRecDepth 100000 in
theorem m_isClass (l : Launch) (G : gG) (Z : gM) (Q : Nat → Nat) (u u1 : GS) (r : Int32) (a0 : Int32) (sz : Nat) (hF : f_isClass a0 u = some (r, u1)) : Met l yX13_isClass (Cond.code yX13_isClass cX13_isClass 1 (some .boolean) :: wM) { frames := 1, cells := 0, slots := 0, locals := 25 } (va_Pc [.int a0] (mPM G Z Q u.1 sz)) (mQi G Q u1.1 r sz) 0 0 (mA Q sz) := by
  refine Met.ofW (cc := cX13_isClass) (maxL := 1) (ret := (some .boolean)) (by decide) rfl ?_
  intro p e s m args below meth c s₁ B hml hv
  obtain ⟨rfl, rfl, hP, hB, hD, hE⟩ := hv
  have hr := B.returns
  have hlocks := B.notSynchronized
  have hts := atoms_spec (ws := Cond.code yX13_isClass cX13_isClass 1 (some .boolean) :: wM) B.pre
  have hC : mX p c cX13_isClass 1 s m _ G Z Q := ⟨B.exec, B.bytes, hml, findClass_of_methodNamed B.named, fun w h => hts w (List.mem_cons_of_mem _ h), hB, hE⟩
  have hx := hC.1
  have hb := hC.2.1
  have hH : mH G Q u.1 s s.heap [] := ⟨hP, hD, va_S.rf⟩
  have hl := lv_entry ([.int a0]) (n := 1) (Nat.le_of_ble_eq_true rfl)
  rw [lg_entry_eq]
  generalize (lg_sl ([.int a0]) ++ List.replicate (1 - (lg_sl ([.int a0])).length) Slot.unset).toArray = ls at hl ⊢
  have hl : lv_has ls 1 [(0, .int a0)] := hl
  unfold f_isClass at hF
  refine lv_iload_n hx hb dX13_isClass_0 rfl (lv_at hl 0 rfl) ?_
  refine lv_i2l (v := a0.toInt64) hx hb dX13_isClass_1 rfl ?_
  refine lv_lconst (v := 0) hx hb dX13_isClass_2 (by decide) ?_
  refine lv_ldc2 (v := 3) hx hb hC.2.2.2.1 (hC.2.2.2.2.1 _ wma141) dX13_isClass_3 ?_
  obtain ⟨r_1, u_2, h_3, hF⟩ := pcl_some hF
  refine mcS_i (As := [.long a0.toInt64, .long 0, .long 3]) (rest := []) hC hH (m_in l G Z Q u u_2 r_1 a0.toInt64 0 3 _ h_3) kwX13_in kVX13_in ⟨Nat.le_of_ble_eq_true rfl, Nat.le_of_ble_eq_true rfl⟩ rfl hl.1 rfl (Nat.le_of_ble_eq_true rfl) dX13_isClass_6 (fun H locs hH => ?_)
  obtain ⟨g_4, hF⟩ := pog_some hF
  have hF := prt_eq hF
  exact mr_z hC hH hr g_4 hF dX13_isClass_9 hlocks
def lp_halving_2 : Nat → Int32 → Int32 → (Int32 → Int32 → PG (Int32)) → PG (Int32)
  | 0, _, _, _ => fun _ => none
  | n2 + 1, v1, v2, K2_20 => prd 13 4 v1 (fun x_1 => (if x_1 ≤ (1 <<< (v2 &&& 31)) then K2_20 v1 v2 else pli (v2 + 1) (fun x_5 => lp_halving_2 n2 v1 x_5 K2_20)))
def f_halving (a0 : Int32) : PG (Int32) := lp_halving_2 fuel a0 0 (fun v1 v2 => prt v2)
set_option maxHeartbeats 4000000 in
set_option maxRecDepth 100000 in
theorem m_halving (l : Launch) (G : gG) (Z : gM) (Q : Nat → Nat) (u u1 : GS) (r : Int32) (a0 : Int32) (sz : Nat) (hF : f_halving a0 u = some (r, u1)) : Met l yX13_halving (Cond.code yX13_halving cX13_halving 3 (some .int) :: wM) { frames := 0, cells := 0, slots := 0, locals := 0 } (va_Pc [.ref (Q 72), .int a0] (mPM G Z Q u.1 sz)) (mQi G Q u1.1 r sz) 0 0 (mA Q sz) := by
  refine Met.ofW (cc := cX13_halving) (maxL := 3) (ret := (some .int)) (by decide) rfl ?_
  intro p e s m args below meth c s₁ B hml hv
  obtain ⟨rfl, rfl, hP, hB, hD, hE⟩ := hv
  have hr := B.returns
  have hlocks := B.notSynchronized
  have hts := atoms_spec (ws := Cond.code yX13_halving cX13_halving 3 (some .int) :: wM) B.pre
  have hC : mX p c cX13_halving 3 s m _ G Z Q := ⟨B.exec, B.bytes, hml, findClass_of_methodNamed B.named, fun w h => hts w (List.mem_cons_of_mem _ h), hB, hE⟩
  have hx := hC.1
  have hb := hC.2.1
  have hH : mH G Q u.1 s s.heap [] := ⟨hP, hD, va_S.rf⟩
  have hl := lv_entry ([.ref (Q 72), .int a0]) (n := 3) (Nat.le_of_ble_eq_true rfl)
  rw [lg_entry_eq]
  generalize (lg_sl ([.ref (Q 72), .int a0]) ++ List.replicate (3 - (lg_sl ([.ref (Q 72), .int a0])).length) Slot.unset).toArray = ls at hl ⊢
  have hl : lv_has ls 3 [(0, .ref (Q 72)), (1, .int a0)] := hl
  unfold f_halving at hF
  refine lv_iconst (v := 0) hx hb dX13_halving_0 (by decide) ?_
  refine lv_istore_n (lv' := [(2, .int 0), (0, .ref (Q 72)), (1, .int a0)]) hx hb dX13_halving_1 rfl hl (by decide) rfl (fun ls hl => ?_)
  have hL2 : ∀ (K2_20 : Int32 → Int32 → PG (Int32)), (∀ (v1 v2 : Int32) (u : GS) (H : Heap) (locs : List Loc) (ls : Array Slot), lv_has ls 3 [(0, .ref (Q 72)), (1, .int v1), (2, .int v2)] → mH G Q u.1 s H locs → K2_20 v1 v2 u = some ((r, u1)) → W p l e (headSpec (Cond.code yX13_halving cX13_halving 3 (some .int) :: wM) { frames := 0, cells := 0, slots := 0, locals := 0 }).room s m [.ref (Q 72), .int a0].toArray below meth c H locs 0 0 (MQ below (mQi G Q u1.1 r s.heap.size) [.ref (Q 72), .int a0].toArray s 0 0 (mA Q s.heap.size)) (F0 m 20 ls [])) → ∀ (n2 : Nat) (v1 v2 : Int32) (u : GS) (H : Heap) (locs : List Loc) (ls : Array Slot), lv_has ls 3 [(0, .ref (Q 72)), (1, .int v1), (2, .int v2)] → mH G Q u.1 s H locs → lp_halving_2 n2 v1 v2 K2_20 u = some ((r, u1)) → W p l e (headSpec (Cond.code yX13_halving cX13_halving 3 (some .int) :: wM) { frames := 0, cells := 0, slots := 0, locals := 0 }).room s m [.ref (Q 72), .int a0].toArray below meth c H locs 0 0 (MQ below (mQi G Q u1.1 r s.heap.size) [.ref (Q 72), .int a0].toArray s 0 0 (mA Q s.heap.size)) (F0 m 2 ls []) := by
    intro K2_20 hK2_20 n2
    induction n2 with
    | zero => intro v1 v2 u H locs ls hl hH hF; cases hF
    | succ n2 ih2 =>
      intro v1 v2 u H locs ls hl hH hF
      unfold lp_halving_2 at hF
      refine lv_iconst (v := 1) hx hb dX13_halving_2 (by decide) ?_
      refine lv_iload_n hx hb dX13_halving_3 rfl (lv_at hl 2 rfl) ?_
      refine lv_ishl hx hb dX13_halving_4 ?_
      refine lv_aload_n hx hb dX13_halving_5 rfl (lv_at hl 0 rfl) ?_
      refine mg_13 hC hH dX13_halving_6 ?_
      refine lv_iload_n hx hb dX13_halving_9 rfl (lv_at hl 1 rfl) ?_
      obtain ⟨x_1, g_2, e_3, hF⟩ := prd_some hF
      refine ml_13 hC hH g_2 dX13_halving_10 ?_
      refine gx_ti e_3 ?_
      refine lv_icmp_ge (tgt := 20) hx hb dX13_halving_11 (by decide) (fun c_4 => ?_) (fun c_4 => ?_)
      · rw [if_pos c_4] at hF
        exact hK2_20 v1 v2 u _ _ _ (lv_sub hl [0, 1, 2] rfl) hH hF
      · rw [if_neg c_4] at hF
        obtain ⟨x_5, e_6, hF⟩ := pli_some hF
        refine lv_iinc (v := x_5) (lv' := [(2, .int x_5), (0, .ref (Q 72)), (1, .int v1)]) hx hb dX13_halving_14 hl (k := 2) rfl e_6 (by decide) rfl (fun ls hl => ?_)
        refine lv_goto (tgt := 2) hx hb dX13_halving_17 (by decide) ?_
        exact ih2 v1 x_5 u _ _ _ (lv_sub hl [1, 2, 0] rfl) hH hF
  refine hL2 _ (fun v1 v2 u H locs ls hl hH hF => ?_) fuel a0 0 u _ _ _ (lv_sub hl [1, 2, 0] rfl) hH hF
  refine lv_iload_n hx hb dX13_halving_20 rfl (lv_at hl 2 rfl) ?_
  have hF := prt_eq hF
  exact mr_i hC hH hr hF dX13_halving_21 hlocks
def f_rounds (a0 : Int32) : PG (Int32) := pcl (f_halving a0) (fun r_1 => prt (r_1 - 1))
set_option maxHeartbeats 4000000 in
set_option maxRecDepth 100000 in
theorem m_rounds (l : Launch) (G : gG) (Z : gM) (Q : Nat → Nat) (u u1 : GS) (r : Int32) (a0 : Int32) (sz : Nat) (hF : f_rounds a0 u = some (r, u1)) : Met l yX13_rounds (Cond.code yX13_rounds cX13_rounds 2 (some .int) :: wM) { frames := 1, cells := 0, slots := 0, locals := 22 } (va_Pc [.ref (Q 72), .int a0] (mPM G Z Q u.1 sz)) (mQi G Q u1.1 r sz) 0 0 (mA Q sz) := by
  refine Met.ofW (cc := cX13_rounds) (maxL := 2) (ret := (some .int)) (by decide) rfl ?_
  intro p e s m args below meth c s₁ B hml hv
  obtain ⟨rfl, rfl, hP, hB, hD, hE⟩ := hv
  have hr := B.returns
  have hlocks := B.notSynchronized
  have hts := atoms_spec (ws := Cond.code yX13_rounds cX13_rounds 2 (some .int) :: wM) B.pre
  have hC : mX p c cX13_rounds 2 s m _ G Z Q := ⟨B.exec, B.bytes, hml, findClass_of_methodNamed B.named, fun w h => hts w (List.mem_cons_of_mem _ h), hB, hE⟩
  have hx := hC.1
  have hb := hC.2.1
  have hH : mH G Q u.1 s s.heap [] := ⟨hP, hD, va_S.rf⟩
  have hl := lv_entry ([.ref (Q 72), .int a0]) (n := 2) (Nat.le_of_ble_eq_true rfl)
  rw [lg_entry_eq]
  generalize (lg_sl ([.ref (Q 72), .int a0]) ++ List.replicate (2 - (lg_sl ([.ref (Q 72), .int a0])).length) Slot.unset).toArray = ls at hl ⊢
  have hl : lv_has ls 2 [(0, .ref (Q 72)), (1, .int a0)] := hl
  unfold f_rounds at hF
  refine lv_aload_n hx hb dX13_rounds_0 rfl (lv_at hl 0 rfl) ?_
  refine lv_iload_n hx hb dX13_rounds_1 rfl (lv_at hl 1 rfl) ?_
  obtain ⟨r_1, u_2, h_3, hF⟩ := pcl_some hF
  refine mcV_i (As := [.int a0]) (rest := []) hC hH (m_halving l G Z Q u u_2 r_1 a0 _ h_3) kwX13_halving kVX13_halving ⟨Nat.le_of_ble_eq_true rfl, Nat.le_of_ble_eq_true rfl⟩ rfl hl.1 rfl (Nat.le_of_ble_eq_true rfl) dX13_rounds_2 (fun H locs hH => ?_)
  refine lv_iconst (v := 1) hx hb dX13_rounds_5 (by decide) ?_
  refine lv_isub hx hb dX13_rounds_6 ?_
  have hF := prt_eq hF
  exact mr_i hC hH hr hF dX13_rounds_7 hlocks
def f_fights (a0 : Int32) : PG (Int32) := prd 13 4 a0 (fun x_1 => prd 12 4 a0 (fun x_4 => (if x_4 = 0 then prt 0 else prd 12 4 a0 (fun x_8 => (if x_8 = 1 then prt ((x_1 * (x_1 - 1)) / 2) else pcl (f_rounds a0) (fun r_12 => prt ((x_1 - 1) + (2 * (r_12 - 1)))))))))
set_option maxHeartbeats 4000000 in
set_option maxRecDepth 100000 in
theorem m_fights (l : Launch) (G : gG) (Z : gM) (Q : Nat → Nat) (u u1 : GS) (r : Int32) (a0 : Int32) (sz : Nat) (hF : f_fights a0 u = some (r, u1)) : Met l yX13_fights (Cond.code yX13_fights cX13_fights 3 (some .int) :: wM) { frames := 2, cells := 0, slots := 0, locals := 43 } (va_Pc [.ref (Q 72), .int a0] (mPM G Z Q u.1 sz)) (mQi G Q u1.1 r sz) 0 0 (mA Q sz) := by
  refine Met.ofW (cc := cX13_fights) (maxL := 3) (ret := (some .int)) (by decide) rfl ?_
  intro p e s m args below meth c s₁ B hml hv
  obtain ⟨rfl, rfl, hP, hB, hD, hE⟩ := hv
  have hr := B.returns
  have hlocks := B.notSynchronized
  have hts := atoms_spec (ws := Cond.code yX13_fights cX13_fights 3 (some .int) :: wM) B.pre
  have hC : mX p c cX13_fights 3 s m _ G Z Q := ⟨B.exec, B.bytes, hml, findClass_of_methodNamed B.named, fun w h => hts w (List.mem_cons_of_mem _ h), hB, hE⟩
  have hx := hC.1
  have hb := hC.2.1
  have hH : mH G Q u.1 s s.heap [] := ⟨hP, hD, va_S.rf⟩
  have hl := lv_entry ([.ref (Q 72), .int a0]) (n := 3) (Nat.le_of_ble_eq_true rfl)
  rw [lg_entry_eq]
  generalize (lg_sl ([.ref (Q 72), .int a0]) ++ List.replicate (3 - (lg_sl ([.ref (Q 72), .int a0])).length) Slot.unset).toArray = ls at hl ⊢
  have hl : lv_has ls 3 [(0, .ref (Q 72)), (1, .int a0)] := hl
  unfold f_fights at hF
  refine lv_aload_n hx hb dX13_fights_0 rfl (lv_at hl 0 rfl) ?_
  refine mg_13 hC hH dX13_fights_1 ?_
  refine lv_iload_n hx hb dX13_fights_4 rfl (lv_at hl 1 rfl) ?_
  obtain ⟨x_1, g_2, e_3, hF⟩ := prd_some hF
  refine ml_13 hC hH g_2 dX13_fights_5 ?_
  refine gx_ti e_3 ?_
  refine lv_istore_n (lv' := [(2, .int x_1), (0, .ref (Q 72)), (1, .int a0)]) hx hb dX13_fights_6 rfl hl (by decide) rfl (fun ls hl => ?_)
  refine lv_aload_n hx hb dX13_fights_7 rfl (lv_at hl 1 rfl) ?_
  refine mg_12 hC hH dX13_fights_8 ?_
  refine lv_iload_n hx hb dX13_fights_11 rfl (lv_at hl 2 rfl) ?_
  obtain ⟨x_4, g_5, e_6, hF⟩ := prd_some hF
  refine ml_12 hC hH g_5 dX13_fights_12 ?_
  refine gx_ti e_6 ?_
  refine lv_if_ne (tgt := 20) hx hb dX13_fights_13 (by decide) (fun c_7 => ?_) (fun c_7 => ?_)
  · rw [if_neg c_7] at hF
    refine lv_aload_n hx hb dX13_fights_20 rfl (lv_at hl 1 rfl) ?_
    refine mg_12 hC hH dX13_fights_21 ?_
    refine lv_iload_n hx hb dX13_fights_24 rfl (lv_at hl 2 rfl) ?_
    obtain ⟨x_8, g_9, e_10, hF⟩ := prd_some hF
    refine ml_12 hC hH g_9 dX13_fights_25 ?_
    refine gx_ti e_10 ?_
    refine lv_iconst (v := 1) hx hb dX13_fights_26 (by decide) ?_
    refine lv_icmp_ne (tgt := 40) hx hb dX13_fights_27 (by decide) (fun c_11 => ?_) (fun c_11 => ?_)
    · rw [if_neg c_11] at hF
      refine lv_iload_n hx hb dX13_fights_40 rfl (lv_at hl 0 rfl) ?_
      refine lv_iconst (v := 1) hx hb dX13_fights_41 (by decide) ?_
      refine lv_isub hx hb dX13_fights_42 ?_
      refine lv_iconst (v := 2) hx hb dX13_fights_43 (by decide) ?_
      refine lv_aload_n hx hb dX13_fights_44 rfl (lv_at hl 1 rfl) ?_
      refine lv_iload_n hx hb dX13_fights_45 rfl (lv_at hl 2 rfl) ?_
      obtain ⟨r_12, u_13, h_14, hF⟩ := pcl_some hF
      refine mcV_i (As := [.int a0]) (rest := [.int 2, .int (x_1 - 1)]) hC hH (m_rounds l G Z Q u u_13 r_12 a0 _ h_14) kwX13_rounds kVX13_rounds ⟨Nat.le_of_ble_eq_true rfl, Nat.le_of_ble_eq_true rfl⟩ rfl hl.1 rfl (Nat.le_of_ble_eq_true rfl) dX13_fights_46 (fun H locs hH => ?_)
      refine lv_iconst (v := 1) hx hb dX13_fights_49 (by decide) ?_
      refine lv_isub hx hb dX13_fights_50 ?_
      refine lv_imul hx hb dX13_fights_51 ?_
      refine lv_iadd hx hb dX13_fights_52 ?_
      have hF := prt_eq hF
      exact mr_i hC hH hr hF dX13_fights_53 hlocks
    · rw [if_pos c_11] at hF
      refine lv_iload_n hx hb dX13_fights_30 rfl (lv_at hl 0 rfl) ?_
      refine lv_iload_n hx hb dX13_fights_31 rfl (lv_at hl 0 rfl) ?_
      refine lv_iconst (v := 1) hx hb dX13_fights_32 (by decide) ?_
      refine lv_isub hx hb dX13_fights_33 ?_
      refine lv_imul hx hb dX13_fights_34 ?_
      refine lv_iconst (v := 2) hx hb dX13_fights_35 (by decide) ?_
      refine lv_idiv hx hb dX13_fights_36 (by decide) ?_
      refine lv_goto (tgt := 53) hx hb dX13_fights_37 (by decide) ?_
      have hF := prt_eq hF
      exact mr_i hC hH hr hF dX13_fights_53 hlocks
  · rw [if_pos c_7] at hF
    refine lv_iconst (v := 0) hx hb dX13_fights_16 (by decide) ?_
    refine lv_goto (tgt := 53) hx hb dX13_fights_17 (by decide) ?_
    have hF := prt_eq hF
    exact mr_i hC hH hr hF dX13_fights_53 hlocks
def f_isFight (a0 : Int32) (a1 : Int32) : PG (Int32) := pcl (f_isClass a0) (fun r_1 => (if r_1 = 0 then prt 0 else pcl (f_fights a0) (fun r_5 => pcl (f_in a1.toInt64 0 ((r_5.toInt64 : Int64) - (1 : Int64))) (fun r_8 => (if r_8 = 0 then prt 0 else prt 1)))))
set_option maxHeartbeats 4000000 in
set_option maxRecDepth 100000 in
theorem m_isFight (l : Launch) (G : gG) (Z : gM) (Q : Nat → Nat) (u u1 : GS) (r : Int32) (a0 : Int32) (a1 : Int32) (sz : Nat) (hF : f_isFight a0 a1 u = some (r, u1)) : Met l yX13_isFight (Cond.code yX13_isFight cX13_isFight 3 (some .boolean) :: wM) { frames := 3, cells := 0, slots := 0, locals := 65 } (va_Pc [.ref (Q 72), .int a0, .int a1] (mPM G Z Q u.1 sz)) (mQi G Q u1.1 r sz) 0 0 (mA Q sz) := by
  refine Met.ofW (cc := cX13_isFight) (maxL := 3) (ret := (some .boolean)) (by decide) rfl ?_
  intro p e s m args below meth c s₁ B hml hv
  obtain ⟨rfl, rfl, hP, hB, hD, hE⟩ := hv
  have hr := B.returns
  have hlocks := B.notSynchronized
  have hts := atoms_spec (ws := Cond.code yX13_isFight cX13_isFight 3 (some .boolean) :: wM) B.pre
  have hC : mX p c cX13_isFight 3 s m _ G Z Q := ⟨B.exec, B.bytes, hml, findClass_of_methodNamed B.named, fun w h => hts w (List.mem_cons_of_mem _ h), hB, hE⟩
  have hx := hC.1
  have hb := hC.2.1
  have hH : mH G Q u.1 s s.heap [] := ⟨hP, hD, va_S.rf⟩
  have hl := lv_entry ([.ref (Q 72), .int a0, .int a1]) (n := 3) (Nat.le_of_ble_eq_true rfl)
  rw [lg_entry_eq]
  generalize (lg_sl ([.ref (Q 72), .int a0, .int a1]) ++ List.replicate (3 - (lg_sl ([.ref (Q 72), .int a0, .int a1])).length) Slot.unset).toArray = ls at hl ⊢
  have hl : lv_has ls 3 [(0, .ref (Q 72)), (1, .int a0), (2, .int a1)] := hl
  unfold f_isFight at hF
  refine lv_iload_n hx hb dX13_isFight_0 rfl (lv_at hl 1 rfl) ?_
  obtain ⟨r_1, u_2, h_3, hF⟩ := pcl_some hF
  refine mcS_i (As := [.int a0]) (rest := []) hC hH (m_isClass l G Z Q u u_2 r_1 a0 _ h_3) kwX13_isClass kVX13_isClass ⟨Nat.le_of_ble_eq_true rfl, Nat.le_of_ble_eq_true rfl⟩ rfl hl.1 rfl (Nat.le_of_ble_eq_true rfl) dX13_isFight_1 (fun H locs hH => ?_)
  refine lv_if_eq (tgt := 28) hx hb dX13_isFight_4 (by decide) (fun c_4 => ?_) (fun c_4 => ?_)
  · rw [if_pos c_4] at hF
    refine lv_iconst (v := 0) hx hb dX13_isFight_28 (by decide) ?_
    have hF := prt_eq hF
    exact mr_z hC hH hr rfl hF dX13_isFight_29 hlocks
  · rw [if_neg c_4] at hF
    refine lv_iload_n hx hb dX13_isFight_7 rfl (lv_at hl 2 rfl) ?_
    refine lv_i2l (v := a1.toInt64) hx hb dX13_isFight_8 rfl ?_
    refine lv_lconst (v := 0) hx hb dX13_isFight_9 (by decide) ?_
    refine lv_aload_n hx hb dX13_isFight_10 rfl (lv_at hl 0 rfl) ?_
    refine lv_iload_n hx hb dX13_isFight_11 rfl (lv_at hl 1 rfl) ?_
    obtain ⟨r_5, u_6, h_7, hF⟩ := pcl_some hF
    refine mcV_i (As := [.int a0]) (rest := [.long 0, .long a1.toInt64]) hC hH (m_fights l G Z Q u_2 u_6 r_5 a0 _ h_7) kwX13_fights kVX13_fights ⟨Nat.le_of_ble_eq_true rfl, Nat.le_of_ble_eq_true rfl⟩ rfl hl.1 rfl (Nat.le_of_ble_eq_true rfl) dX13_isFight_12 (fun H locs hH => ?_)
    refine lv_i2l (v := r_5.toInt64) hx hb dX13_isFight_15 rfl ?_
    refine lv_lconst (v := 1) hx hb dX13_isFight_16 (by decide) ?_
    refine lv_lsub hx hb dX13_isFight_17 ?_
    obtain ⟨r_8, u_9, h_10, hF⟩ := pcl_some hF
    refine mcS_i (As := [.long a1.toInt64, .long 0, .long ((r_5.toInt64 : Int64) - (1 : Int64))]) (rest := []) hC hH (m_in l G Z Q u_6 u_9 r_8 a1.toInt64 0 ((r_5.toInt64 : Int64) - (1 : Int64)) _ h_10) kwX13_in kVX13_in ⟨Nat.le_of_ble_eq_true rfl, Nat.le_of_ble_eq_true rfl⟩ rfl hl.1 rfl (Nat.le_of_ble_eq_true rfl) dX13_isFight_18 (fun H locs hH => ?_)
    refine lv_if_eq (tgt := 28) hx hb dX13_isFight_21 (by decide) (fun c_11 => ?_) (fun c_11 => ?_)
    · rw [if_pos c_11] at hF
      refine lv_iconst (v := 0) hx hb dX13_isFight_28 (by decide) ?_
      have hF := prt_eq hF
      exact mr_z hC hH hr rfl hF dX13_isFight_29 hlocks
    · rw [if_neg c_11] at hF
      refine lv_iconst (v := 1) hx hb dX13_isFight_24 (by decide) ?_
      refine lv_goto (tgt := 29) hx hb dX13_isFight_25 (by decide) ?_
      have hF := prt_eq hF
      exact mr_z hC hH hr rfl hF dX13_isFight_29 hlocks
def f_base (a0 : Int32) (a1 : Int32) : PG (Int32) := prd 13 4 a0 (fun x_1 => prd 13 4 a0 (fun x_4 => prt (x_1 - (x_4 >>> (a1 &&& 31)))))
set_option maxHeartbeats 4000000 in
set_option maxRecDepth 100000 in
theorem m_base (l : Launch) (G : gG) (Z : gM) (Q : Nat → Nat) (u u1 : GS) (r : Int32) (a0 : Int32) (a1 : Int32) (sz : Nat) (hF : f_base a0 a1 u = some (r, u1)) : Met l yX13_base (Cond.code yX13_base cX13_base 3 (some .int) :: wM) { frames := 0, cells := 0, slots := 0, locals := 0 } (va_Pc [.ref (Q 72), .int a0, .int a1] (mPM G Z Q u.1 sz)) (mQi G Q u1.1 r sz) 0 0 (mA Q sz) := by
  refine Met.ofW (cc := cX13_base) (maxL := 3) (ret := (some .int)) (by decide) rfl ?_
  intro p e s m args below meth c s₁ B hml hv
  obtain ⟨rfl, rfl, hP, hB, hD, hE⟩ := hv
  have hr := B.returns
  have hlocks := B.notSynchronized
  have hts := atoms_spec (ws := Cond.code yX13_base cX13_base 3 (some .int) :: wM) B.pre
  have hC : mX p c cX13_base 3 s m _ G Z Q := ⟨B.exec, B.bytes, hml, findClass_of_methodNamed B.named, fun w h => hts w (List.mem_cons_of_mem _ h), hB, hE⟩
  have hx := hC.1
  have hb := hC.2.1
  have hH : mH G Q u.1 s s.heap [] := ⟨hP, hD, va_S.rf⟩
  have hl := lv_entry ([.ref (Q 72), .int a0, .int a1]) (n := 3) (Nat.le_of_ble_eq_true rfl)
  rw [lg_entry_eq]
  generalize (lg_sl ([.ref (Q 72), .int a0, .int a1]) ++ List.replicate (3 - (lg_sl ([.ref (Q 72), .int a0, .int a1])).length) Slot.unset).toArray = ls at hl ⊢
  have hl : lv_has ls 3 [(0, .ref (Q 72)), (1, .int a0), (2, .int a1)] := hl
  unfold f_base at hF
  refine lv_aload_n hx hb dX13_base_0 rfl (lv_at hl 0 rfl) ?_
  refine mg_13 hC hH dX13_base_1 ?_
  refine lv_iload_n hx hb dX13_base_4 rfl (lv_at hl 1 rfl) ?_
  obtain ⟨x_1, g_2, e_3, hF⟩ := prd_some hF
  refine ml_13 hC hH g_2 dX13_base_5 ?_
  refine gx_ti e_3 ?_
  refine lv_aload_n hx hb dX13_base_6 rfl (lv_at hl 0 rfl) ?_
  refine mg_13 hC hH dX13_base_7 ?_
  refine lv_iload_n hx hb dX13_base_10 rfl (lv_at hl 1 rfl) ?_
  obtain ⟨x_4, g_5, e_6, hF⟩ := prd_some hF
  refine ml_13 hC hH g_5 dX13_base_11 ?_
  refine gx_ti e_6 ?_
  refine lv_iload_n hx hb dX13_base_12 rfl (lv_at hl 2 rfl) ?_
  refine lv_ishr hx hb dX13_base_13 ?_
  refine lv_isub hx hb dX13_base_14 ?_
  have hF := prt_eq hF
  exact mr_i hC hH hr hF dX13_base_15 hlocks
def f_isSecond (a0 : Int32) (a1 : Int32) : PG (Int32) := prd 12 4 a0 (fun x_1 => (if x_1 = 2 then prd 13 4 a0 (fun x_5 => (if a1 < (x_5 - 1) then prt 0 else prt 1)) else prt 0))
set_option maxHeartbeats 4000000 in
set_option maxRecDepth 100000 in
theorem m_isSecond (l : Launch) (G : gG) (Z : gM) (Q : Nat → Nat) (u u1 : GS) (r : Int32) (a0 : Int32) (a1 : Int32) (sz : Nat) (hF : f_isSecond a0 a1 u = some (r, u1)) : Met l yX13_isSecond (Cond.code yX13_isSecond cX13_isSecond 3 (some .boolean) :: wM) { frames := 0, cells := 0, slots := 0, locals := 0 } (va_Pc [.ref (Q 72), .int a0, .int a1] (mPM G Z Q u.1 sz)) (mQi G Q u1.1 r sz) 0 0 (mA Q sz) := by
  refine Met.ofW (cc := cX13_isSecond) (maxL := 3) (ret := (some .boolean)) (by decide) rfl ?_
  intro p e s m args below meth c s₁ B hml hv
  obtain ⟨rfl, rfl, hP, hB, hD, hE⟩ := hv
  have hr := B.returns
  have hlocks := B.notSynchronized
  have hts := atoms_spec (ws := Cond.code yX13_isSecond cX13_isSecond 3 (some .boolean) :: wM) B.pre
  have hC : mX p c cX13_isSecond 3 s m _ G Z Q := ⟨B.exec, B.bytes, hml, findClass_of_methodNamed B.named, fun w h => hts w (List.mem_cons_of_mem _ h), hB, hE⟩
  have hx := hC.1
  have hb := hC.2.1
  have hH : mH G Q u.1 s s.heap [] := ⟨hP, hD, va_S.rf⟩
  have hl := lv_entry ([.ref (Q 72), .int a0, .int a1]) (n := 3) (Nat.le_of_ble_eq_true rfl)
  rw [lg_entry_eq]
  generalize (lg_sl ([.ref (Q 72), .int a0, .int a1]) ++ List.replicate (3 - (lg_sl ([.ref (Q 72), .int a0, .int a1])).length) Slot.unset).toArray = ls at hl ⊢
  have hl : lv_has ls 3 [(0, .ref (Q 72)), (1, .int a0), (2, .int a1)] := hl
  unfold f_isSecond at hF
  refine lv_aload_n hx hb dX13_isSecond_0 rfl (lv_at hl 0 rfl) ?_
  refine mg_12 hC hH dX13_isSecond_1 ?_
  refine lv_iload_n hx hb dX13_isSecond_4 rfl (lv_at hl 1 rfl) ?_
  obtain ⟨x_1, g_2, e_3, hF⟩ := prd_some hF
  refine ml_12 hC hH g_2 dX13_isSecond_5 ?_
  refine gx_ti e_3 ?_
  refine lv_iconst (v := 2) hx hb dX13_isSecond_6 (by decide) ?_
  refine lv_icmp_ne (tgt := 26) hx hb dX13_isSecond_7 (by decide) (fun c_4 => ?_) (fun c_4 => ?_)
  · rw [if_neg c_4] at hF
    refine lv_iconst (v := 0) hx hb dX13_isSecond_26 (by decide) ?_
    have hF := prt_eq hF
    exact mr_z hC hH hr rfl hF dX13_isSecond_27 hlocks
  · rw [if_pos c_4] at hF
    refine lv_iload_n hx hb dX13_isSecond_10 rfl (lv_at hl 2 rfl) ?_
    refine lv_aload_n hx hb dX13_isSecond_11 rfl (lv_at hl 0 rfl) ?_
    refine mg_13 hC hH dX13_isSecond_12 ?_
    refine lv_iload_n hx hb dX13_isSecond_15 rfl (lv_at hl 1 rfl) ?_
    obtain ⟨x_5, g_6, e_7, hF⟩ := prd_some hF
    refine ml_13 hC hH g_6 dX13_isSecond_16 ?_
    refine gx_ti e_7 ?_
    refine lv_iconst (v := 1) hx hb dX13_isSecond_17 (by decide) ?_
    refine lv_isub hx hb dX13_isSecond_18 ?_
    refine lv_icmp_lt (tgt := 26) hx hb dX13_isSecond_19 (by decide) (fun c_8 => ?_) (fun c_8 => ?_)
    · rw [if_pos c_8] at hF
      refine lv_iconst (v := 0) hx hb dX13_isSecond_26 (by decide) ?_
      have hF := prt_eq hF
      exact mr_z hC hH hr rfl hF dX13_isSecond_27 hlocks
    · rw [if_neg c_8] at hF
      refine lv_iconst (v := 1) hx hb dX13_isSecond_22 (by decide) ?_
      refine lv_goto (tgt := 27) hx hb dX13_isSecond_23 (by decide) ?_
      have hF := prt_eq hF
      exact mr_z hC hH hr rfl hF dX13_isSecond_27 hlocks
def f_finalOf (a0 : Int32) : PG (Int32) := prd 13 4 a0 (fun x_1 => prt (x_1 - 2))
set_option maxHeartbeats 4000000 in
set_option maxRecDepth 100000 in
theorem m_finalOf (l : Launch) (G : gG) (Z : gM) (Q : Nat → Nat) (u u1 : GS) (r : Int32) (a0 : Int32) (sz : Nat) (hF : f_finalOf a0 u = some (r, u1)) : Met l yX13_finalOf (Cond.code yX13_finalOf cX13_finalOf 2 (some .int) :: wM) { frames := 0, cells := 0, slots := 0, locals := 0 } (va_Pc [.ref (Q 72), .int a0] (mPM G Z Q u.1 sz)) (mQi G Q u1.1 r sz) 0 0 (mA Q sz) := by
  refine Met.ofW (cc := cX13_finalOf) (maxL := 2) (ret := (some .int)) (by decide) rfl ?_
  intro p e s m args below meth c s₁ B hml hv
  obtain ⟨rfl, rfl, hP, hB, hD, hE⟩ := hv
  have hr := B.returns
  have hlocks := B.notSynchronized
  have hts := atoms_spec (ws := Cond.code yX13_finalOf cX13_finalOf 2 (some .int) :: wM) B.pre
  have hC : mX p c cX13_finalOf 2 s m _ G Z Q := ⟨B.exec, B.bytes, hml, findClass_of_methodNamed B.named, fun w h => hts w (List.mem_cons_of_mem _ h), hB, hE⟩
  have hx := hC.1
  have hb := hC.2.1
  have hH : mH G Q u.1 s s.heap [] := ⟨hP, hD, va_S.rf⟩
  have hl := lv_entry ([.ref (Q 72), .int a0]) (n := 2) (Nat.le_of_ble_eq_true rfl)
  rw [lg_entry_eq]
  generalize (lg_sl ([.ref (Q 72), .int a0]) ++ List.replicate (2 - (lg_sl ([.ref (Q 72), .int a0])).length) Slot.unset).toArray = ls at hl ⊢
  have hl : lv_has ls 2 [(0, .ref (Q 72)), (1, .int a0)] := hl
  unfold f_finalOf at hF
  refine lv_aload_n hx hb dX13_finalOf_0 rfl (lv_at hl 0 rfl) ?_
  refine mg_13 hC hH dX13_finalOf_1 ?_
  refine lv_iload_n hx hb dX13_finalOf_4 rfl (lv_at hl 1 rfl) ?_
  obtain ⟨x_1, g_2, e_3, hF⟩ := prd_some hF
  refine ml_13 hC hH g_2 dX13_finalOf_5 ?_
  refine gx_ti e_3 ?_
  refine lv_iconst (v := 2) hx hb dX13_finalOf_6 (by decide) ?_
  refine lv_isub hx hb dX13_finalOf_7 ?_
  have hF := prt_eq hF
  exact mr_i hC hH hr hF dX13_finalOf_8 hlocks
def lp_roundOf_2 : Nat → Int32 → Int32 → Int32 → (Int32 → Int32 → Int32 → PG (Int32)) → PG (Int32)
  | 0, _, _, _, _ => fun _ => none
  | n2 + 1, v1, v2, v3, K2_20 => pcl (f_base v1 (v3 + 1)) (fun r_1 => (if v2 < r_1 then K2_20 v1 v2 v3 else pli (v3 + 1) (fun x_5 => lp_roundOf_2 n2 v1 v2 x_5 K2_20)))
def f_roundOf (a0 : Int32) (a1 : Int32) : PG (Int32) := lp_roundOf_2 fuel a0 a1 0 (fun v1 v2 v3 => prt v3)
set_option maxHeartbeats 4000000 in
set_option maxRecDepth 100000 in
theorem m_roundOf (l : Launch) (G : gG) (Z : gM) (Q : Nat → Nat) (u u1 : GS) (r : Int32) (a0 : Int32) (a1 : Int32) (sz : Nat) (hF : f_roundOf a0 a1 u = some (r, u1)) : Met l yX13_roundOf (Cond.code yX13_roundOf cX13_roundOf 4 (some .int) :: wM) { frames := 1, cells := 0, slots := 0, locals := 22 } (va_Pc [.ref (Q 72), .int a0, .int a1] (mPM G Z Q u.1 sz)) (mQi G Q u1.1 r sz) 0 0 (mA Q sz) := by
  refine Met.ofW (cc := cX13_roundOf) (maxL := 4) (ret := (some .int)) (by decide) rfl ?_
  intro p e s m args below meth c s₁ B hml hv
  obtain ⟨rfl, rfl, hP, hB, hD, hE⟩ := hv
  have hr := B.returns
  have hlocks := B.notSynchronized
  have hts := atoms_spec (ws := Cond.code yX13_roundOf cX13_roundOf 4 (some .int) :: wM) B.pre
  have hC : mX p c cX13_roundOf 4 s m _ G Z Q := ⟨B.exec, B.bytes, hml, findClass_of_methodNamed B.named, fun w h => hts w (List.mem_cons_of_mem _ h), hB, hE⟩
  have hx := hC.1
  have hb := hC.2.1
  have hH : mH G Q u.1 s s.heap [] := ⟨hP, hD, va_S.rf⟩
  have hl := lv_entry ([.ref (Q 72), .int a0, .int a1]) (n := 4) (Nat.le_of_ble_eq_true rfl)
  rw [lg_entry_eq]
  generalize (lg_sl ([.ref (Q 72), .int a0, .int a1]) ++ List.replicate (4 - (lg_sl ([.ref (Q 72), .int a0, .int a1])).length) Slot.unset).toArray = ls at hl ⊢
  have hl : lv_has ls 4 [(0, .ref (Q 72)), (1, .int a0), (2, .int a1)] := hl
  unfold f_roundOf at hF
  refine lv_iconst (v := 0) hx hb dX13_roundOf_0 (by decide) ?_
  refine lv_istore_n (lv' := [(3, .int 0), (0, .ref (Q 72)), (1, .int a0), (2, .int a1)]) hx hb dX13_roundOf_1 rfl hl (by decide) rfl (fun ls hl => ?_)
  have hL2 : ∀ (K2_20 : Int32 → Int32 → Int32 → PG (Int32)), (∀ (v1 v2 v3 : Int32) (u : GS) (H : Heap) (locs : List Loc) (ls : Array Slot), lv_has ls 4 [(0, .ref (Q 72)), (1, .int v1), (2, .int v2), (3, .int v3)] → mH G Q u.1 s H locs → K2_20 v1 v2 v3 u = some ((r, u1)) → W p l e (headSpec (Cond.code yX13_roundOf cX13_roundOf 4 (some .int) :: wM) { frames := 1, cells := 0, slots := 0, locals := 22 }).room s m [.ref (Q 72), .int a0, .int a1].toArray below meth c H locs 0 0 (MQ below (mQi G Q u1.1 r s.heap.size) [.ref (Q 72), .int a0, .int a1].toArray s 0 0 (mA Q s.heap.size)) (F0 m 20 ls [])) → ∀ (n2 : Nat) (v1 v2 v3 : Int32) (u : GS) (H : Heap) (locs : List Loc) (ls : Array Slot), lv_has ls 4 [(0, .ref (Q 72)), (1, .int v1), (2, .int v2), (3, .int v3)] → mH G Q u.1 s H locs → lp_roundOf_2 n2 v1 v2 v3 K2_20 u = some ((r, u1)) → W p l e (headSpec (Cond.code yX13_roundOf cX13_roundOf 4 (some .int) :: wM) { frames := 1, cells := 0, slots := 0, locals := 22 }).room s m [.ref (Q 72), .int a0, .int a1].toArray below meth c H locs 0 0 (MQ below (mQi G Q u1.1 r s.heap.size) [.ref (Q 72), .int a0, .int a1].toArray s 0 0 (mA Q s.heap.size)) (F0 m 2 ls []) := by
    intro K2_20 hK2_20 n2
    induction n2 with
    | zero => intro v1 v2 v3 u H locs ls hl hH hF; cases hF
    | succ n2 ih2 =>
      intro v1 v2 v3 u H locs ls hl hH hF
      unfold lp_roundOf_2 at hF
      refine lv_iload_n hx hb dX13_roundOf_2 rfl (lv_at hl 2 rfl) ?_
      refine lv_aload_n hx hb dX13_roundOf_3 rfl (lv_at hl 0 rfl) ?_
      refine lv_iload_n hx hb dX13_roundOf_4 rfl (lv_at hl 1 rfl) ?_
      refine lv_iload_n hx hb dX13_roundOf_5 rfl (lv_at hl 3 rfl) ?_
      refine lv_iconst (v := 1) hx hb dX13_roundOf_6 (by decide) ?_
      refine lv_iadd hx hb dX13_roundOf_7 ?_
      obtain ⟨r_1, u_2, h_3, hF⟩ := pcl_some hF
      refine mcV_i (As := [.int v1, .int (v3 + 1)]) (rest := [.int v2]) hC hH (m_base l G Z Q u u_2 r_1 v1 (v3 + 1) _ h_3) kwX13_base kVX13_base ⟨Nat.le_of_ble_eq_true rfl, Nat.le_of_ble_eq_true rfl⟩ rfl hl.1 rfl (Nat.le_of_ble_eq_true rfl) dX13_roundOf_8 (fun H locs hH => ?_)
      refine lv_icmp_lt (tgt := 20) hx hb dX13_roundOf_11 (by decide) (fun c_4 => ?_) (fun c_4 => ?_)
      · rw [if_pos c_4] at hF
        exact hK2_20 v1 v2 v3 u_2 _ _ _ (lv_sub hl [0, 1, 2, 3] rfl) hH hF
      · rw [if_neg c_4] at hF
        obtain ⟨x_5, e_6, hF⟩ := pli_some hF
        refine lv_iinc (v := x_5) (lv' := [(3, .int x_5), (0, .ref (Q 72)), (1, .int v1), (2, .int v2)]) hx hb dX13_roundOf_14 hl (k := 3) rfl e_6 (by decide) rfl (fun ls hl => ?_)
        refine lv_goto (tgt := 2) hx hb dX13_roundOf_17 (by decide) ?_
        exact ih2 v1 v2 x_5 u_2 _ _ _ (lv_sub hl [1, 2, 3, 0] rfl) hH hF
  refine hL2 _ (fun v1 v2 v3 u H locs ls hl hH hF => ?_) fuel a0 a1 0 u _ _ _ (lv_sub hl [1, 2, 3, 0] rfl) hH hF
  refine lv_iload_n hx hb dX13_roundOf_20 rfl (lv_at hl 3 rfl) ?_
  have hF := prt_eq hF
  exact mr_i hC hH hr hF dX13_roundOf_21 hlocks
def f_halfOf (a0 : Int32) (a1 : Int32) : PG (Int32) := prd 13 4 a0 (fun x_1 => pcl (f_rounds a0) (fun r_4 => pog (gz (r_4 - 1)) (prt (((a1 - x_1) + 1) / (r_4 - 1)))))
set_option maxHeartbeats 4000000 in
set_option maxRecDepth 100000 in
theorem m_halfOf (l : Launch) (G : gG) (Z : gM) (Q : Nat → Nat) (u u1 : GS) (r : Int32) (a0 : Int32) (a1 : Int32) (sz : Nat) (hF : f_halfOf a0 a1 u = some (r, u1)) : Met l yX13_halfOf (Cond.code yX13_halfOf cX13_halfOf 3 (some .int) :: wM) { frames := 2, cells := 0, slots := 0, locals := 43 } (va_Pc [.ref (Q 72), .int a0, .int a1] (mPM G Z Q u.1 sz)) (mQi G Q u1.1 r sz) 0 0 (mA Q sz) := by
  refine Met.ofW (cc := cX13_halfOf) (maxL := 3) (ret := (some .int)) (by decide) rfl ?_
  intro p e s m args below meth c s₁ B hml hv
  obtain ⟨rfl, rfl, hP, hB, hD, hE⟩ := hv
  have hr := B.returns
  have hlocks := B.notSynchronized
  have hts := atoms_spec (ws := Cond.code yX13_halfOf cX13_halfOf 3 (some .int) :: wM) B.pre
  have hC : mX p c cX13_halfOf 3 s m _ G Z Q := ⟨B.exec, B.bytes, hml, findClass_of_methodNamed B.named, fun w h => hts w (List.mem_cons_of_mem _ h), hB, hE⟩
  have hx := hC.1
  have hb := hC.2.1
  have hH : mH G Q u.1 s s.heap [] := ⟨hP, hD, va_S.rf⟩
  have hl := lv_entry ([.ref (Q 72), .int a0, .int a1]) (n := 3) (Nat.le_of_ble_eq_true rfl)
  rw [lg_entry_eq]
  generalize (lg_sl ([.ref (Q 72), .int a0, .int a1]) ++ List.replicate (3 - (lg_sl ([.ref (Q 72), .int a0, .int a1])).length) Slot.unset).toArray = ls at hl ⊢
  have hl : lv_has ls 3 [(0, .ref (Q 72)), (1, .int a0), (2, .int a1)] := hl
  unfold f_halfOf at hF
  refine lv_iload_n hx hb dX13_halfOf_0 rfl (lv_at hl 2 rfl) ?_
  refine lv_aload_n hx hb dX13_halfOf_1 rfl (lv_at hl 0 rfl) ?_
  refine mg_13 hC hH dX13_halfOf_2 ?_
  refine lv_iload_n hx hb dX13_halfOf_5 rfl (lv_at hl 1 rfl) ?_
  obtain ⟨x_1, g_2, e_3, hF⟩ := prd_some hF
  refine ml_13 hC hH g_2 dX13_halfOf_6 ?_
  refine gx_ti e_3 ?_
  refine lv_isub hx hb dX13_halfOf_7 ?_
  refine lv_iconst (v := 1) hx hb dX13_halfOf_8 (by decide) ?_
  refine lv_iadd hx hb dX13_halfOf_9 ?_
  refine lv_aload_n hx hb dX13_halfOf_10 rfl (lv_at hl 0 rfl) ?_
  refine lv_iload_n hx hb dX13_halfOf_11 rfl (lv_at hl 1 rfl) ?_
  obtain ⟨r_4, u_5, h_6, hF⟩ := pcl_some hF
  refine mcV_i (As := [.int a0]) (rest := [.int ((a1 - x_1) + 1)]) hC hH (m_rounds l G Z Q u u_5 r_4 a0 _ h_6) kwX13_rounds kVX13_rounds ⟨Nat.le_of_ble_eq_true rfl, Nat.le_of_ble_eq_true rfl⟩ rfl hl.1 rfl (Nat.le_of_ble_eq_true rfl) dX13_halfOf_12 (fun H locs hH => ?_)
  refine lv_iconst (v := 1) hx hb dX13_halfOf_15 (by decide) ?_
  refine lv_isub hx hb dX13_halfOf_16 ?_
  obtain ⟨g_7, hF⟩ := pog_some hF
  refine lv_idiv hx hb dX13_halfOf_17 (gz_ne g_7) ?_
  have hF := prt_eq hF
  exact mr_i hC hH hr hF dX13_halfOf_18 hlocks
def f_stepOf (a0 : Int32) (a1 : Int32) : PG (Int32) := prd 13 4 a0 (fun x_1 => pcl (f_rounds a0) (fun r_4 => pog (gz (r_4 - 1)) (prt ((((a1 - x_1) + 1) - ((a1 - x_1) + 1) / (r_4 - 1) * (r_4 - 1)) + 1))))
set_option maxHeartbeats 4000000 in
set_option maxRecDepth 100000 in
theorem m_stepOf (l : Launch) (G : gG) (Z : gM) (Q : Nat → Nat) (u u1 : GS) (r : Int32) (a0 : Int32) (a1 : Int32) (sz : Nat) (hF : f_stepOf a0 a1 u = some (r, u1)) : Met l yX13_stepOf (Cond.code yX13_stepOf cX13_stepOf 3 (some .int) :: wM) { frames := 2, cells := 0, slots := 0, locals := 43 } (va_Pc [.ref (Q 72), .int a0, .int a1] (mPM G Z Q u.1 sz)) (mQi G Q u1.1 r sz) 0 0 (mA Q sz) := by
  refine Met.ofW (cc := cX13_stepOf) (maxL := 3) (ret := (some .int)) (by decide) rfl ?_
  intro p e s m args below meth c s₁ B hml hv
  obtain ⟨rfl, rfl, hP, hB, hD, hE⟩ := hv
  have hr := B.returns
  have hlocks := B.notSynchronized
  have hts := atoms_spec (ws := Cond.code yX13_stepOf cX13_stepOf 3 (some .int) :: wM) B.pre
  have hC : mX p c cX13_stepOf 3 s m _ G Z Q := ⟨B.exec, B.bytes, hml, findClass_of_methodNamed B.named, fun w h => hts w (List.mem_cons_of_mem _ h), hB, hE⟩
  have hx := hC.1
  have hb := hC.2.1
  have hH : mH G Q u.1 s s.heap [] := ⟨hP, hD, va_S.rf⟩
  have hl := lv_entry ([.ref (Q 72), .int a0, .int a1]) (n := 3) (Nat.le_of_ble_eq_true rfl)
  rw [lg_entry_eq]
  generalize (lg_sl ([.ref (Q 72), .int a0, .int a1]) ++ List.replicate (3 - (lg_sl ([.ref (Q 72), .int a0, .int a1])).length) Slot.unset).toArray = ls at hl ⊢
  have hl : lv_has ls 3 [(0, .ref (Q 72)), (1, .int a0), (2, .int a1)] := hl
  unfold f_stepOf at hF
  refine lv_iload_n hx hb dX13_stepOf_0 rfl (lv_at hl 2 rfl) ?_
  refine lv_aload_n hx hb dX13_stepOf_1 rfl (lv_at hl 0 rfl) ?_
  refine mg_13 hC hH dX13_stepOf_2 ?_
  refine lv_iload_n hx hb dX13_stepOf_5 rfl (lv_at hl 1 rfl) ?_
  obtain ⟨x_1, g_2, e_3, hF⟩ := prd_some hF
  refine ml_13 hC hH g_2 dX13_stepOf_6 ?_
  refine gx_ti e_3 ?_
  refine lv_isub hx hb dX13_stepOf_7 ?_
  refine lv_iconst (v := 1) hx hb dX13_stepOf_8 (by decide) ?_
  refine lv_iadd hx hb dX13_stepOf_9 ?_
  refine lv_aload_n hx hb dX13_stepOf_10 rfl (lv_at hl 0 rfl) ?_
  refine lv_iload_n hx hb dX13_stepOf_11 rfl (lv_at hl 1 rfl) ?_
  obtain ⟨r_4, u_5, h_6, hF⟩ := pcl_some hF
  refine mcV_i (As := [.int a0]) (rest := [.int ((a1 - x_1) + 1)]) hC hH (m_rounds l G Z Q u u_5 r_4 a0 _ h_6) kwX13_rounds kVX13_rounds ⟨Nat.le_of_ble_eq_true rfl, Nat.le_of_ble_eq_true rfl⟩ rfl hl.1 rfl (Nat.le_of_ble_eq_true rfl) dX13_stepOf_12 (fun H locs hH => ?_)
  refine lv_iconst (v := 1) hx hb dX13_stepOf_15 (by decide) ?_
  refine lv_isub hx hb dX13_stepOf_16 ?_
  obtain ⟨g_7, hF⟩ := pog_some hF
  refine lv_irem hx hb dX13_stepOf_17 (gz_ne g_7) ?_
  refine lv_iconst (v := 1) hx hb dX13_stepOf_18 (by decide) ?_
  refine lv_iadd hx hb dX13_stepOf_19 ?_
  have hF := prt_eq hF
  exact mr_i hC hH hr hF dX13_stepOf_20 hlocks
def lp_pair_6 : Nat → Int32 → Int32 → Int32 → Int32 → Int32 → (Int32 → Int32 → Int32 → Int32 → Int32 → PG (Int32)) → PG (Int32)
  | 0, _, _, _, _, _, _ => fun _ => none
  | n6 + 1, v1, v2, v3, v4, v5, K6_40 => prd 13 4 v1 (fun x_1 => (if v4 < (x_1 - v5) then K6_40 v1 v2 v3 v4 v5 else prd 13 4 v1 (fun x_5 => pli (v4 - (x_5 - v5)) (fun x_8 => pli (v5 + 1) (fun x_10 => lp_pair_6 n6 v1 v2 v3 x_8 x_10 K6_40)))))
def f_pair (a0 : Int32) (a1 : Int32) (a2 : Int32) : PG (Int32) := lp_pair_6 fuel a0 a1 a2 a1 1 (fun v1 v2 v3 v4 v5 => (if v3 = 0 then prt v4 else prt (v4 + v5)))
set_option maxHeartbeats 4000000 in
set_option maxRecDepth 100000 in
theorem m_pair (l : Launch) (G : gG) (Z : gM) (Q : Nat → Nat) (u u1 : GS) (r : Int32) (a0 : Int32) (a1 : Int32) (a2 : Int32) (sz : Nat) (hF : f_pair a0 a1 a2 u = some (r, u1)) : Met l yX13_pair (Cond.code yX13_pair cX13_pair 6 (some .int) :: wM) { frames := 0, cells := 0, slots := 0, locals := 0 } (va_Pc [.ref (Q 72), .int a0, .int a1, .int a2] (mPM G Z Q u.1 sz)) (mQi G Q u1.1 r sz) 0 0 (mA Q sz) := by
  refine Met.ofW (cc := cX13_pair) (maxL := 6) (ret := (some .int)) (by decide) rfl ?_
  intro p e s m args below meth c s₁ B hml hv
  obtain ⟨rfl, rfl, hP, hB, hD, hE⟩ := hv
  have hr := B.returns
  have hlocks := B.notSynchronized
  have hts := atoms_spec (ws := Cond.code yX13_pair cX13_pair 6 (some .int) :: wM) B.pre
  have hC : mX p c cX13_pair 6 s m _ G Z Q := ⟨B.exec, B.bytes, hml, findClass_of_methodNamed B.named, fun w h => hts w (List.mem_cons_of_mem _ h), hB, hE⟩
  have hx := hC.1
  have hb := hC.2.1
  have hH : mH G Q u.1 s s.heap [] := ⟨hP, hD, va_S.rf⟩
  have hl := lv_entry ([.ref (Q 72), .int a0, .int a1, .int a2]) (n := 6) (Nat.le_of_ble_eq_true rfl)
  rw [lg_entry_eq]
  generalize (lg_sl ([.ref (Q 72), .int a0, .int a1, .int a2]) ++ List.replicate (6 - (lg_sl ([.ref (Q 72), .int a0, .int a1, .int a2])).length) Slot.unset).toArray = ls at hl ⊢
  have hl : lv_has ls 6 [(0, .ref (Q 72)), (1, .int a0), (2, .int a1), (3, .int a2)] := hl
  unfold f_pair at hF
  refine lv_iload_n hx hb dX13_pair_0 rfl (lv_at hl 2 rfl) ?_
  refine lv_istore (lv' := [(4, .int a1), (0, .ref (Q 72)), (1, .int a0), (2, .int a1), (3, .int a2)]) hx hb dX13_pair_1 hl (by decide) rfl (fun ls hl => ?_)
  refine lv_iconst (v := 1) hx hb dX13_pair_3 (by decide) ?_
  refine lv_istore (lv' := [(5, .int 1), (4, .int a1), (0, .ref (Q 72)), (1, .int a0), (2, .int a1), (3, .int a2)]) hx hb dX13_pair_4 hl (by decide) rfl (fun ls hl => ?_)
  have hL6 : ∀ (K6_40 : Int32 → Int32 → Int32 → Int32 → Int32 → PG (Int32)), (∀ (v1 v2 v3 v4 v5 : Int32) (u : GS) (H : Heap) (locs : List Loc) (ls : Array Slot), lv_has ls 6 [(0, .ref (Q 72)), (1, .int v1), (2, .int v2), (3, .int v3), (4, .int v4), (5, .int v5)] → mH G Q u.1 s H locs → K6_40 v1 v2 v3 v4 v5 u = some ((r, u1)) → W p l e (headSpec (Cond.code yX13_pair cX13_pair 6 (some .int) :: wM) { frames := 0, cells := 0, slots := 0, locals := 0 }).room s m [.ref (Q 72), .int a0, .int a1, .int a2].toArray below meth c H locs 0 0 (MQ below (mQi G Q u1.1 r s.heap.size) [.ref (Q 72), .int a0, .int a1, .int a2].toArray s 0 0 (mA Q s.heap.size)) (F0 m 40 ls [])) → ∀ (n6 : Nat) (v1 v2 v3 v4 v5 : Int32) (u : GS) (H : Heap) (locs : List Loc) (ls : Array Slot), lv_has ls 6 [(0, .ref (Q 72)), (1, .int v1), (2, .int v2), (3, .int v3), (4, .int v4), (5, .int v5)] → mH G Q u.1 s H locs → lp_pair_6 n6 v1 v2 v3 v4 v5 K6_40 u = some ((r, u1)) → W p l e (headSpec (Cond.code yX13_pair cX13_pair 6 (some .int) :: wM) { frames := 0, cells := 0, slots := 0, locals := 0 }).room s m [.ref (Q 72), .int a0, .int a1, .int a2].toArray below meth c H locs 0 0 (MQ below (mQi G Q u1.1 r s.heap.size) [.ref (Q 72), .int a0, .int a1, .int a2].toArray s 0 0 (mA Q s.heap.size)) (F0 m 6 ls []) := by
    intro K6_40 hK6_40 n6
    induction n6 with
    | zero => intro v1 v2 v3 v4 v5 u H locs ls hl hH hF; cases hF
    | succ n6 ih6 =>
      intro v1 v2 v3 v4 v5 u H locs ls hl hH hF
      unfold lp_pair_6 at hF
      refine lv_iload hx hb dX13_pair_6 (lv_at hl 4 rfl) ?_
      refine lv_aload_n hx hb dX13_pair_8 rfl (lv_at hl 0 rfl) ?_
      refine mg_13 hC hH dX13_pair_9 ?_
      refine lv_iload_n hx hb dX13_pair_12 rfl (lv_at hl 1 rfl) ?_
      obtain ⟨x_1, g_2, e_3, hF⟩ := prd_some hF
      refine ml_13 hC hH g_2 dX13_pair_13 ?_
      refine gx_ti e_3 ?_
      refine lv_iload hx hb dX13_pair_14 (lv_at hl 5 rfl) ?_
      refine lv_isub hx hb dX13_pair_16 ?_
      refine lv_icmp_lt (tgt := 40) hx hb dX13_pair_17 (by decide) (fun c_4 => ?_) (fun c_4 => ?_)
      · rw [if_pos c_4] at hF
        exact hK6_40 v1 v2 v3 v4 v5 u _ _ _ (lv_sub hl [0, 1, 2, 3, 4, 5] rfl) hH hF
      · rw [if_neg c_4] at hF
        refine lv_iload hx hb dX13_pair_20 (lv_at hl 4 rfl) ?_
        refine lv_aload_n hx hb dX13_pair_22 rfl (lv_at hl 0 rfl) ?_
        refine mg_13 hC hH dX13_pair_23 ?_
        refine lv_iload_n hx hb dX13_pair_26 rfl (lv_at hl 1 rfl) ?_
        obtain ⟨x_5, g_6, e_7, hF⟩ := prd_some hF
        refine ml_13 hC hH g_6 dX13_pair_27 ?_
        refine gx_ti e_7 ?_
        refine lv_iload hx hb dX13_pair_28 (lv_at hl 5 rfl) ?_
        refine lv_isub hx hb dX13_pair_30 ?_
        refine lv_isub hx hb dX13_pair_31 ?_
        obtain ⟨x_8, e_9, hF⟩ := pli_some hF
        refine gx_ti e_9 ?_
        refine lv_istore (lv' := [(4, .int x_8), (0, .ref (Q 72)), (1, .int v1), (2, .int v2), (3, .int v3), (5, .int v5)]) hx hb dX13_pair_32 hl (by decide) rfl (fun ls hl => ?_)
        obtain ⟨x_10, e_11, hF⟩ := pli_some hF
        refine lv_iinc (v := x_10) (lv' := [(5, .int x_10), (4, .int x_8), (0, .ref (Q 72)), (1, .int v1), (2, .int v2), (3, .int v3)]) hx hb dX13_pair_34 hl (k := 5) rfl e_11 (by decide) rfl (fun ls hl => ?_)
        refine lv_goto (tgt := 6) hx hb dX13_pair_37 (by decide) ?_
        exact ih6 v1 v2 v3 x_8 x_10 u _ _ _ (lv_sub hl [2, 3, 4, 5, 1, 0] rfl) hH hF
  refine hL6 _ (fun v1 v2 v3 v4 v5 u H locs ls hl hH hF => ?_) fuel a0 a1 a2 a1 1 u _ _ _ (lv_sub hl [2, 3, 4, 5, 1, 0] rfl) hH hF
  refine lv_iload_n hx hb dX13_pair_40 rfl (lv_at hl 3 rfl) ?_
  refine lv_if_ne (tgt := 49) hx hb dX13_pair_41 (by decide) (fun c_12 => ?_) (fun c_12 => ?_)
  · rw [if_neg c_12] at hF
    refine lv_iload hx hb dX13_pair_49 (lv_at hl 4 rfl) ?_
    refine lv_iload hx hb dX13_pair_51 (lv_at hl 5 rfl) ?_
    refine lv_iadd hx hb dX13_pair_53 ?_
    have hF := prt_eq hF
    exact mr_i hC hH hr hF dX13_pair_54 hlocks
  · rw [if_pos c_12] at hF
    refine lv_iload hx hb dX13_pair_44 (lv_at hl 4 rfl) ?_
    refine lv_goto (tgt := 54) hx hb dX13_pair_46 (by decide) ?_
    have hF := prt_eq hF
    exact mr_i hC hH hr hF dX13_pair_54 hlocks
end
section
def bd_sideOf (F : Nat → Int32 → Int32 → Int32 → Int32 → PG (Int32)) (a0 : Int32) (a1 : Int32) (a2 : Int32) : PG (Int32) := prd 12 4 a0 (fun x_1 => (if x_1 = 1 then pcl (f_pair a0 a1 a2) (fun r_37 => prd 14 128 ((32 * a0) + r_37) (fun x_40 => prt x_40)) else pcl (f_isSecond a0 a1) (fun r_5 => (if r_5 = 0 then pcl (f_roundOf a0 a1) (fun r_9 => pcl (f_base a0 r_9) (fun r_12 => pli (a1 - r_12) (fun x_15 => (if r_9 = 0 then prd 14 128 (((32 * a0) + (2 * x_15)) + a2) (fun x_24 => (if x_24 = (-1) then prt (-2) else prt x_24)) else pcl (f_base a0 (r_9 - 1)) (fun r_18 => pcl (F 3 a0 ((r_18 + (2 * x_15)) + a2) 0 0) (fun r_21 => prt r_21)))))) else pcl (f_halfOf a0 a1) (fun r_28 => pcl (f_stepOf a0 a1) (fun r_31 => pcl (F 1 a0 r_28 r_31 a2) (fun r_34 => prt r_34)))))))
def bd_second (F : Nat → Int32 → Int32 → Int32 → Int32 → PG (Int32)) (a0 : Int32) (a1 : Int32) (a2 : Int32) (a3 : Int32) : PG (Int32) := (if a3 = 1 then pcl (F 2 a0 a1 a2 0) (fun r_15 => prt r_15) else (if a2 ≤ 1 then pcl (F 2 a0 a1 0 0) (fun r_3 => prt r_3) else prd 13 4 a0 (fun x_6 => pcl (f_rounds a0) (fun r_9 => pcl (F 3 a0 ((((x_6 - 1) + (a1 * (r_9 - 1))) + a2) - 2) 0 0) (fun r_12 => prt r_12)))))
def bd_loserTo (F : Nat → Int32 → Int32 → Int32 → Int32 → PG (Int32)) (a0 : Int32) (a1 : Int32) (a2 : Int32) : PG (Int32) := pcl (f_rounds a0) (fun r_1 => pcl (f_base a0 (r_1 - 1)) (fun r_4 => pcl (F 3 a0 (r_4 + a1) 0 0) (fun r_7 => (if r_7 = (-1) then prt (-1) else pcl (f_base a0 a2) (fun r_11 => prd 10 96 r_7 (fun x_14 => pli (r_11 + (x_14 >>> ((a2 + 1) &&& 31))) (fun x_17 => pcl (F 0 a0 x_17 0 0) (fun r_19 => (if r_19 = r_7 then pcl (F 0 a0 x_17 1 0) (fun r_23 => prt r_23) else prt r_19)))))))))
def bd_winnerOf (F : Nat → Int32 → Int32 → Int32 → Int32 → PG (Int32)) (a0 : Int32) (a1 : Int32) : PG (Int32) := prd 15 160 ((40 * a0) + a1) (fun x_1 => (if x_1 = 2 then prd 18 160 ((40 * a0) + a1) (fun x_13 => prt x_13) else pcl (F 0 a0 a1 0 0) (fun r_5 => pcl (F 0 a0 a1 1 0) (fun r_8 => (if r_5 = (-2) then prt r_8 else (if r_8 = (-2) then prt r_5 else prt (-1)))))))
set_option maxHeartbeats 4000000 in
set_option maxRecDepth 100000 in
theorem bm_sideOf (l : Launch) (G : gG) (Z : gM) (Q : Nat → Nat) (d : Nat) (F : Nat → Int32 → Int32 → Int32 → Int32 → PG (Int32)) (hr_sideOf : ∀ (u u1 : GS) (r : Int32) (a0 a1 a2 : Int32) (sz : Nat), F 0 a0 a1 a2 0 u = some (r, u1) → Met l yX13_sideOf (Cond.code yX13_sideOf cX13_sideOf 7 (some .int) :: wM) { frames := 12 * d + 20, cells := 0, slots := 0, locals := 140 * d + 400 } (va_Pc [.ref (Q 72), .int a0, .int a1, .int a2] (mPM G Z Q u.1 sz)) (mQi G Q u1.1 r sz) 0 0 (mA Q sz)) (hr_second : ∀ (u u1 : GS) (r : Int32) (a0 a1 a2 a3 : Int32) (sz : Nat), F 1 a0 a1 a2 a3 u = some (r, u1) → Met l yX13_second (Cond.code yX13_second cX13_second 5 (some .int) :: wM) { frames := 12 * d + 20, cells := 0, slots := 0, locals := 140 * d + 400 } (va_Pc [.ref (Q 72), .int a0, .int a1, .int a2, .int a3] (mPM G Z Q u.1 sz)) (mQi G Q u1.1 r sz) 0 0 (mA Q sz)) (hr_loserTo : ∀ (u u1 : GS) (r : Int32) (a0 a1 a2 : Int32) (sz : Nat), F 2 a0 a1 a2 0 u = some (r, u1) → Met l yX13_loserTo (Cond.code yX13_loserTo cX13_loserTo 7 (some .int) :: wM) { frames := 12 * d + 20, cells := 0, slots := 0, locals := 140 * d + 400 } (va_Pc [.ref (Q 72), .int a0, .int a1, .int a2] (mPM G Z Q u.1 sz)) (mQi G Q u1.1 r sz) 0 0 (mA Q sz)) (hr_winnerOf : ∀ (u u1 : GS) (r : Int32) (a0 a1 : Int32) (sz : Nat), F 3 a0 a1 0 0 u = some (r, u1) → Met l yX13_winnerOf (Cond.code yX13_winnerOf cX13_winnerOf 5 (some .int) :: wM) { frames := 12 * d + 20, cells := 0, slots := 0, locals := 140 * d + 400 } (va_Pc [.ref (Q 72), .int a0, .int a1] (mPM G Z Q u.1 sz)) (mQi G Q u1.1 r sz) 0 0 (mA Q sz)) (u u1 : GS) (r : Int32) (a0 : Int32) (a1 : Int32) (a2 : Int32) (sz : Nat) (hF : bd_sideOf F a0 a1 a2 u = some (r, u1)) : Met l yX13_sideOf (Cond.code yX13_sideOf cX13_sideOf 7 (some .int) :: wM) { frames := 12 * (d + 1) + 20, cells := 0, slots := 0, locals := 140 * (d + 1) + 400 } (va_Pc [.ref (Q 72), .int a0, .int a1, .int a2] (mPM G Z Q u.1 sz)) (mQi G Q u1.1 r sz) 0 0 (mA Q sz) := by
  refine Met.ofW (cc := cX13_sideOf) (maxL := 7) (ret := (some .int)) (by decide) rfl ?_
  intro p e s m args below meth c s₁ B hml hv
  obtain ⟨rfl, rfl, hP, hB, hD, hE⟩ := hv
  have hr := B.returns
  have hlocks := B.notSynchronized
  have hts := atoms_spec (ws := Cond.code yX13_sideOf cX13_sideOf 7 (some .int) :: wM) B.pre
  have hC : mX p c cX13_sideOf 7 s m _ G Z Q := ⟨B.exec, B.bytes, hml, findClass_of_methodNamed B.named, fun w h => hts w (List.mem_cons_of_mem _ h), hB, hE⟩
  have hx := hC.1
  have hb := hC.2.1
  have hH : mH G Q u.1 s s.heap [] := ⟨hP, hD, va_S.rf⟩
  have hl := lv_entry ([.ref (Q 72), .int a0, .int a1, .int a2]) (n := 7) (Nat.le_of_ble_eq_true rfl)
  rw [lg_entry_eq]
  generalize (lg_sl ([.ref (Q 72), .int a0, .int a1, .int a2]) ++ List.replicate (7 - (lg_sl ([.ref (Q 72), .int a0, .int a1, .int a2])).length) Slot.unset).toArray = ls at hl ⊢
  have hl : lv_has ls 7 [(0, .ref (Q 72)), (1, .int a0), (2, .int a1), (3, .int a2)] := hl
  unfold bd_sideOf at hF
  refine lv_aload_n hx hb dX13_sideOf_0 rfl (lv_at hl 0 rfl) ?_
  refine mg_12 hC hH dX13_sideOf_1 ?_
  refine lv_iload_n hx hb dX13_sideOf_4 rfl (lv_at hl 1 rfl) ?_
  obtain ⟨x_1, g_2, e_3, hF⟩ := prd_some hF
  refine ml_12 hC hH g_2 dX13_sideOf_5 ?_
  refine gx_ti e_3 ?_
  refine lv_iconst (v := 1) hx hb dX13_sideOf_6 (by decide) ?_
  refine lv_icmp_ne (tgt := 28) hx hb dX13_sideOf_7 (by decide) (fun c_4 => ?_) (fun c_4 => ?_)
  · rw [if_neg c_4] at hF
    refine lv_aload_n hx hb dX13_sideOf_28 rfl (lv_at hl 0 rfl) ?_
    refine lv_iload_n hx hb dX13_sideOf_29 rfl (lv_at hl 1 rfl) ?_
    refine lv_iload_n hx hb dX13_sideOf_30 rfl (lv_at hl 2 rfl) ?_
    obtain ⟨r_5, u_6, h_7, hF⟩ := pcl_some hF
    refine mcV_i (As := [.int a0, .int a1]) (rest := []) hC hH (m_isSecond l G Z Q u u_6 r_5 a0 a1 _ h_7) kwX13_isSecond kVX13_isSecond ⟨by show _ ≤ 12 * (d + 1) + 20; omega, by show _ ≤ 140 * (d + 1) + 400; omega⟩ rfl hl.1 rfl (Nat.le_of_ble_eq_true rfl) dX13_sideOf_31 (fun H locs hH => ?_)
    refine lv_if_eq (tgt := 56) hx hb dX13_sideOf_34 (by decide) (fun c_8 => ?_) (fun c_8 => ?_)
    · rw [if_pos c_8] at hF
      refine lv_aload_n hx hb dX13_sideOf_56 rfl (lv_at hl 0 rfl) ?_
      refine lv_iload_n hx hb dX13_sideOf_57 rfl (lv_at hl 1 rfl) ?_
      refine lv_iload_n hx hb dX13_sideOf_58 rfl (lv_at hl 2 rfl) ?_
      obtain ⟨r_9, u_10, h_11, hF⟩ := pcl_some hF
      refine mcV_i (As := [.int a0, .int a1]) (rest := []) hC hH (m_roundOf l G Z Q u_6 u_10 r_9 a0 a1 _ h_11) kwX13_roundOf kVX13_roundOf ⟨by show _ ≤ 12 * (d + 1) + 20; omega, by show _ ≤ 140 * (d + 1) + 400; omega⟩ rfl hl.1 rfl (Nat.le_of_ble_eq_true rfl) dX13_sideOf_59 (fun H locs hH => ?_)
      refine lv_istore (lv' := [(4, .int r_9), (0, .ref (Q 72)), (1, .int a0), (2, .int a1), (3, .int a2)]) hx hb dX13_sideOf_62 hl (by decide) rfl (fun ls hl => ?_)
      refine lv_iload_n hx hb dX13_sideOf_64 rfl (lv_at hl 3 rfl) ?_
      refine lv_aload_n hx hb dX13_sideOf_65 rfl (lv_at hl 1 rfl) ?_
      refine lv_iload_n hx hb dX13_sideOf_66 rfl (lv_at hl 2 rfl) ?_
      refine lv_iload hx hb dX13_sideOf_67 (lv_at hl 0 rfl) ?_
      obtain ⟨r_12, u_13, h_14, hF⟩ := pcl_some hF
      refine mcV_i (As := [.int a0, .int r_9]) (rest := [.int a1]) hC hH (m_base l G Z Q u_10 u_13 r_12 a0 r_9 _ h_14) kwX13_base kVX13_base ⟨by show _ ≤ 12 * (d + 1) + 20; omega, by show _ ≤ 140 * (d + 1) + 400; omega⟩ rfl hl.1 rfl (Nat.le_of_ble_eq_true rfl) dX13_sideOf_69 (fun H locs hH => ?_)
      refine lv_isub hx hb dX13_sideOf_72 ?_
      obtain ⟨x_15, e_16, hF⟩ := pli_some hF
      refine gx_ti e_16 ?_
      refine lv_istore (lv' := [(5, .int x_15), (4, .int r_9), (0, .ref (Q 72)), (1, .int a0), (2, .int a1), (3, .int a2)]) hx hb dX13_sideOf_73 hl (by decide) rfl (fun ls hl => ?_)
      refine lv_iload hx hb dX13_sideOf_75 (lv_at hl 1 rfl) ?_
      refine lv_if_ne (tgt := 112) hx hb dX13_sideOf_77 (by decide) (fun c_17 => ?_) (fun c_17 => ?_)
      · rw [if_neg c_17] at hF
        refine lv_aload_n hx hb dX13_sideOf_112 rfl (lv_at hl 2 rfl) ?_
        refine lv_iload_n hx hb dX13_sideOf_113 rfl (lv_at hl 3 rfl) ?_
        refine lv_aload_n hx hb dX13_sideOf_114 rfl (lv_at hl 2 rfl) ?_
        refine lv_iload_n hx hb dX13_sideOf_115 rfl (lv_at hl 3 rfl) ?_
        refine lv_iload hx hb dX13_sideOf_116 (lv_at hl 1 rfl) ?_
        refine lv_iconst (v := 1) hx hb dX13_sideOf_118 (by decide) ?_
        refine lv_isub hx hb dX13_sideOf_119 ?_
        obtain ⟨r_18, u_19, h_20, hF⟩ := pcl_some hF
        refine mcV_i (As := [.int a0, .int (r_9 - 1)]) (rest := [.int a0, .ref (Q 72)]) hC hH (m_base l G Z Q u_13 u_19 r_18 a0 (r_9 - 1) _ h_20) kwX13_base kVX13_base ⟨by show _ ≤ 12 * (d + 1) + 20; omega, by show _ ≤ 140 * (d + 1) + 400; omega⟩ rfl hl.1 rfl (Nat.le_of_ble_eq_true rfl) dX13_sideOf_120 (fun H locs hH => ?_)
        refine lv_iconst (v := 2) hx hb dX13_sideOf_123 (by decide) ?_
        refine lv_iload hx hb dX13_sideOf_124 (lv_at hl 0 rfl) ?_
        refine lv_imul hx hb dX13_sideOf_126 ?_
        refine lv_iadd hx hb dX13_sideOf_127 ?_
        refine lv_iload_n hx hb dX13_sideOf_128 rfl (lv_at hl 5 rfl) ?_
        refine lv_iadd hx hb dX13_sideOf_129 ?_
        obtain ⟨r_21, u_22, h_23, hF⟩ := pcl_some hF
        refine mcV_i (As := [.int a0, .int ((r_18 + (2 * x_15)) + a2)]) (rest := []) hC hH (hr_winnerOf u_19 u_22 r_21 a0 ((r_18 + (2 * x_15)) + a2) _ h_23) kwX13_winnerOf kVX13_winnerOf ⟨by show _ ≤ 12 * (d + 1) + 20; omega, by show _ ≤ 140 * (d + 1) + 400; omega⟩ rfl hl.1 rfl (Nat.le_of_ble_eq_true rfl) dX13_sideOf_130 (fun H locs hH => ?_)
        have hF := prt_eq hF
        exact mr_i hC hH hr hF dX13_sideOf_133 hlocks
      · rw [if_pos c_17] at hF
        refine lv_aload_n hx hb dX13_sideOf_80 rfl (lv_at hl 2 rfl) ?_
        refine mg_14 hC hH dX13_sideOf_81 ?_
        refine lv_bipush (v := 32) hx hb dX13_sideOf_84 (by decide) ?_
        refine lv_iload_n hx hb dX13_sideOf_86 rfl (lv_at hl 3 rfl) ?_
        refine lv_imul hx hb dX13_sideOf_87 ?_
        refine lv_iconst (v := 2) hx hb dX13_sideOf_88 (by decide) ?_
        refine lv_iload hx hb dX13_sideOf_89 (lv_at hl 0 rfl) ?_
        refine lv_imul hx hb dX13_sideOf_91 ?_
        refine lv_iadd hx hb dX13_sideOf_92 ?_
        refine lv_iload_n hx hb dX13_sideOf_93 rfl (lv_at hl 5 rfl) ?_
        refine lv_iadd hx hb dX13_sideOf_94 ?_
        obtain ⟨x_24, g_25, e_26, hF⟩ := prd_some hF
        refine ml_14 hC hH g_25 dX13_sideOf_95 ?_
        refine gx_ti e_26 ?_
        refine lv_istore (lv' := [(6, .int x_24), (5, .int x_15), (4, .int r_9), (0, .ref (Q 72)), (1, .int a0), (2, .int a1), (3, .int a2)]) hx hb dX13_sideOf_96 hl (by decide) rfl (fun ls hl => ?_)
        refine lv_iload hx hb dX13_sideOf_98 (lv_at hl 0 rfl) ?_
        refine lv_iconst (v := (-1)) hx hb dX13_sideOf_100 (by decide) ?_
        refine lv_icmp_ne (tgt := 109) hx hb dX13_sideOf_101 (by decide) (fun c_27 => ?_) (fun c_27 => ?_)
        · rw [if_neg c_27] at hF
          refine lv_iload hx hb dX13_sideOf_109 (lv_at hl 0 rfl) ?_
          have hF := prt_eq hF
          exact mr_i hC hH hr hF dX13_sideOf_111 hlocks
        · rw [if_pos c_27] at hF
          refine lv_bipush (v := (-2)) hx hb dX13_sideOf_104 (by decide) ?_
          refine lv_goto (tgt := 111) hx hb dX13_sideOf_106 (by decide) ?_
          have hF := prt_eq hF
          exact mr_i hC hH hr hF dX13_sideOf_111 hlocks
    · rw [if_neg c_8] at hF
      refine lv_aload_n hx hb dX13_sideOf_37 rfl (lv_at hl 0 rfl) ?_
      refine lv_iload_n hx hb dX13_sideOf_38 rfl (lv_at hl 1 rfl) ?_
      refine lv_aload_n hx hb dX13_sideOf_39 rfl (lv_at hl 0 rfl) ?_
      refine lv_iload_n hx hb dX13_sideOf_40 rfl (lv_at hl 1 rfl) ?_
      refine lv_iload_n hx hb dX13_sideOf_41 rfl (lv_at hl 2 rfl) ?_
      obtain ⟨r_28, u_29, h_30, hF⟩ := pcl_some hF
      refine mcV_i (As := [.int a0, .int a1]) (rest := [.int a0, .ref (Q 72)]) hC hH (m_halfOf l G Z Q u_6 u_29 r_28 a0 a1 _ h_30) kwX13_halfOf kVX13_halfOf ⟨by show _ ≤ 12 * (d + 1) + 20; omega, by show _ ≤ 140 * (d + 1) + 400; omega⟩ rfl hl.1 rfl (Nat.le_of_ble_eq_true rfl) dX13_sideOf_42 (fun H locs hH => ?_)
      refine lv_aload_n hx hb dX13_sideOf_45 rfl (lv_at hl 0 rfl) ?_
      refine lv_iload_n hx hb dX13_sideOf_46 rfl (lv_at hl 1 rfl) ?_
      refine lv_iload_n hx hb dX13_sideOf_47 rfl (lv_at hl 2 rfl) ?_
      obtain ⟨r_31, u_32, h_33, hF⟩ := pcl_some hF
      refine mcV_i (As := [.int a0, .int a1]) (rest := [.int r_28, .int a0, .ref (Q 72)]) hC hH (m_stepOf l G Z Q u_29 u_32 r_31 a0 a1 _ h_33) kwX13_stepOf kVX13_stepOf ⟨by show _ ≤ 12 * (d + 1) + 20; omega, by show _ ≤ 140 * (d + 1) + 400; omega⟩ rfl hl.1 rfl (Nat.le_of_ble_eq_true rfl) dX13_sideOf_48 (fun H locs hH => ?_)
      refine lv_iload_n hx hb dX13_sideOf_51 rfl (lv_at hl 3 rfl) ?_
      obtain ⟨r_34, u_35, h_36, hF⟩ := pcl_some hF
      refine mcV_i (As := [.int a0, .int r_28, .int r_31, .int a2]) (rest := []) hC hH (hr_second u_32 u_35 r_34 a0 r_28 r_31 a2 _ h_36) kwX13_second kVX13_second ⟨by show _ ≤ 12 * (d + 1) + 20; omega, by show _ ≤ 140 * (d + 1) + 400; omega⟩ rfl hl.1 rfl (Nat.le_of_ble_eq_true rfl) dX13_sideOf_52 (fun H locs hH => ?_)
      have hF := prt_eq hF
      exact mr_i hC hH hr hF dX13_sideOf_55 hlocks
  · rw [if_pos c_4] at hF
    refine lv_aload_n hx hb dX13_sideOf_10 rfl (lv_at hl 0 rfl) ?_
    refine mg_14 hC hH dX13_sideOf_11 ?_
    refine lv_bipush (v := 32) hx hb dX13_sideOf_14 (by decide) ?_
    refine lv_iload_n hx hb dX13_sideOf_16 rfl (lv_at hl 1 rfl) ?_
    refine lv_imul hx hb dX13_sideOf_17 ?_
    refine lv_aload_n hx hb dX13_sideOf_18 rfl (lv_at hl 0 rfl) ?_
    refine lv_iload_n hx hb dX13_sideOf_19 rfl (lv_at hl 1 rfl) ?_
    refine lv_iload_n hx hb dX13_sideOf_20 rfl (lv_at hl 2 rfl) ?_
    refine lv_iload_n hx hb dX13_sideOf_21 rfl (lv_at hl 3 rfl) ?_
    obtain ⟨r_37, u_38, h_39, hF⟩ := pcl_some hF
    refine mcV_i (As := [.int a0, .int a1, .int a2]) (rest := [.int (32 * a0), .ref (Q 14)]) hC hH (m_pair l G Z Q u u_38 r_37 a0 a1 a2 _ h_39) kwX13_pair kVX13_pair ⟨by show _ ≤ 12 * (d + 1) + 20; omega, by show _ ≤ 140 * (d + 1) + 400; omega⟩ rfl hl.1 rfl (Nat.le_of_ble_eq_true rfl) dX13_sideOf_22 (fun H locs hH => ?_)
    refine lv_iadd hx hb dX13_sideOf_25 ?_
    obtain ⟨x_40, g_41, e_42, hF⟩ := prd_some hF
    refine ml_14 hC hH g_41 dX13_sideOf_26 ?_
    refine gx_ti e_42 ?_
    have hF := prt_eq hF
    exact mr_i hC hH hr hF dX13_sideOf_27 hlocks
set_option maxHeartbeats 4000000 in
set_option maxRecDepth 100000 in
theorem bm_second (l : Launch) (G : gG) (Z : gM) (Q : Nat → Nat) (d : Nat) (F : Nat → Int32 → Int32 → Int32 → Int32 → PG (Int32)) (hr_sideOf : ∀ (u u1 : GS) (r : Int32) (a0 a1 a2 : Int32) (sz : Nat), F 0 a0 a1 a2 0 u = some (r, u1) → Met l yX13_sideOf (Cond.code yX13_sideOf cX13_sideOf 7 (some .int) :: wM) { frames := 12 * d + 20, cells := 0, slots := 0, locals := 140 * d + 400 } (va_Pc [.ref (Q 72), .int a0, .int a1, .int a2] (mPM G Z Q u.1 sz)) (mQi G Q u1.1 r sz) 0 0 (mA Q sz)) (hr_second : ∀ (u u1 : GS) (r : Int32) (a0 a1 a2 a3 : Int32) (sz : Nat), F 1 a0 a1 a2 a3 u = some (r, u1) → Met l yX13_second (Cond.code yX13_second cX13_second 5 (some .int) :: wM) { frames := 12 * d + 20, cells := 0, slots := 0, locals := 140 * d + 400 } (va_Pc [.ref (Q 72), .int a0, .int a1, .int a2, .int a3] (mPM G Z Q u.1 sz)) (mQi G Q u1.1 r sz) 0 0 (mA Q sz)) (hr_loserTo : ∀ (u u1 : GS) (r : Int32) (a0 a1 a2 : Int32) (sz : Nat), F 2 a0 a1 a2 0 u = some (r, u1) → Met l yX13_loserTo (Cond.code yX13_loserTo cX13_loserTo 7 (some .int) :: wM) { frames := 12 * d + 20, cells := 0, slots := 0, locals := 140 * d + 400 } (va_Pc [.ref (Q 72), .int a0, .int a1, .int a2] (mPM G Z Q u.1 sz)) (mQi G Q u1.1 r sz) 0 0 (mA Q sz)) (hr_winnerOf : ∀ (u u1 : GS) (r : Int32) (a0 a1 : Int32) (sz : Nat), F 3 a0 a1 0 0 u = some (r, u1) → Met l yX13_winnerOf (Cond.code yX13_winnerOf cX13_winnerOf 5 (some .int) :: wM) { frames := 12 * d + 20, cells := 0, slots := 0, locals := 140 * d + 400 } (va_Pc [.ref (Q 72), .int a0, .int a1] (mPM G Z Q u.1 sz)) (mQi G Q u1.1 r sz) 0 0 (mA Q sz)) (u u1 : GS) (r : Int32) (a0 : Int32) (a1 : Int32) (a2 : Int32) (a3 : Int32) (sz : Nat) (hF : bd_second F a0 a1 a2 a3 u = some (r, u1)) : Met l yX13_second (Cond.code yX13_second cX13_second 5 (some .int) :: wM) { frames := 12 * (d + 1) + 20, cells := 0, slots := 0, locals := 140 * (d + 1) + 400 } (va_Pc [.ref (Q 72), .int a0, .int a1, .int a2, .int a3] (mPM G Z Q u.1 sz)) (mQi G Q u1.1 r sz) 0 0 (mA Q sz) := by
  refine Met.ofW (cc := cX13_second) (maxL := 5) (ret := (some .int)) (by decide) rfl ?_
  intro p e s m args below meth c s₁ B hml hv
  obtain ⟨rfl, rfl, hP, hB, hD, hE⟩ := hv
  have hr := B.returns
  have hlocks := B.notSynchronized
  have hts := atoms_spec (ws := Cond.code yX13_second cX13_second 5 (some .int) :: wM) B.pre
  have hC : mX p c cX13_second 5 s m _ G Z Q := ⟨B.exec, B.bytes, hml, findClass_of_methodNamed B.named, fun w h => hts w (List.mem_cons_of_mem _ h), hB, hE⟩
  have hx := hC.1
  have hb := hC.2.1
  have hH : mH G Q u.1 s s.heap [] := ⟨hP, hD, va_S.rf⟩
  have hl := lv_entry ([.ref (Q 72), .int a0, .int a1, .int a2, .int a3]) (n := 5) (Nat.le_of_ble_eq_true rfl)
  rw [lg_entry_eq]
  generalize (lg_sl ([.ref (Q 72), .int a0, .int a1, .int a2, .int a3]) ++ List.replicate (5 - (lg_sl ([.ref (Q 72), .int a0, .int a1, .int a2, .int a3])).length) Slot.unset).toArray = ls at hl ⊢
  have hl : lv_has ls 5 [(0, .ref (Q 72)), (1, .int a0), (2, .int a1), (3, .int a2), (4, .int a3)] := hl
  unfold bd_second at hF
  refine lv_iload hx hb dX13_second_0 (lv_at hl 4 rfl) ?_
  refine lv_iconst (v := 1) hx hb dX13_second_2 (by decide) ?_
  refine lv_icmp_ne (tgt := 14) hx hb dX13_second_3 (by decide) (fun c_1 => ?_) (fun c_1 => ?_)
  · rw [if_neg c_1] at hF
    refine lv_iload_n hx hb dX13_second_14 rfl (lv_at hl 3 rfl) ?_
    refine lv_iconst (v := 1) hx hb dX13_second_15 (by decide) ?_
    refine lv_icmp_le (tgt := 47) hx hb dX13_second_16 (by decide) (fun c_2 => ?_) (fun c_2 => ?_)
    · rw [if_pos c_2] at hF
      refine lv_aload_n hx hb dX13_second_47 rfl (lv_at hl 0 rfl) ?_
      refine lv_iload_n hx hb dX13_second_48 rfl (lv_at hl 1 rfl) ?_
      refine lv_iload_n hx hb dX13_second_49 rfl (lv_at hl 2 rfl) ?_
      refine lv_iconst (v := 0) hx hb dX13_second_50 (by decide) ?_
      obtain ⟨r_3, u_4, h_5, hF⟩ := pcl_some hF
      refine mcV_i (As := [.int a0, .int a1, .int 0]) (rest := []) hC hH (hr_loserTo u u_4 r_3 a0 a1 0 _ h_5) kwX13_loserTo kVX13_loserTo ⟨by show _ ≤ 12 * (d + 1) + 20; omega, by show _ ≤ 140 * (d + 1) + 400; omega⟩ rfl hl.1 rfl (Nat.le_of_ble_eq_true rfl) dX13_second_51 (fun H locs hH => ?_)
      have hF := prt_eq hF
      exact mr_i hC hH hr hF dX13_second_54 hlocks
    · rw [if_neg c_2] at hF
      refine lv_aload_n hx hb dX13_second_19 rfl (lv_at hl 0 rfl) ?_
      refine lv_iload_n hx hb dX13_second_20 rfl (lv_at hl 1 rfl) ?_
      refine lv_aload_n hx hb dX13_second_21 rfl (lv_at hl 0 rfl) ?_
      refine mg_13 hC hH dX13_second_22 ?_
      refine lv_iload_n hx hb dX13_second_25 rfl (lv_at hl 1 rfl) ?_
      obtain ⟨x_6, g_7, e_8, hF⟩ := prd_some hF
      refine ml_13 hC hH g_7 dX13_second_26 ?_
      refine gx_ti e_8 ?_
      refine lv_iconst (v := 1) hx hb dX13_second_27 (by decide) ?_
      refine lv_isub hx hb dX13_second_28 ?_
      refine lv_iload_n hx hb dX13_second_29 rfl (lv_at hl 2 rfl) ?_
      refine lv_aload_n hx hb dX13_second_30 rfl (lv_at hl 0 rfl) ?_
      refine lv_iload_n hx hb dX13_second_31 rfl (lv_at hl 1 rfl) ?_
      obtain ⟨r_9, u_10, h_11, hF⟩ := pcl_some hF
      refine mcV_i (As := [.int a0]) (rest := [.int a1, .int (x_6 - 1), .int a0, .ref (Q 72)]) hC hH (m_rounds l G Z Q u u_10 r_9 a0 _ h_11) kwX13_rounds kVX13_rounds ⟨by show _ ≤ 12 * (d + 1) + 20; omega, by show _ ≤ 140 * (d + 1) + 400; omega⟩ rfl hl.1 rfl (Nat.le_of_ble_eq_true rfl) dX13_second_32 (fun H locs hH => ?_)
      refine lv_iconst (v := 1) hx hb dX13_second_35 (by decide) ?_
      refine lv_isub hx hb dX13_second_36 ?_
      refine lv_imul hx hb dX13_second_37 ?_
      refine lv_iadd hx hb dX13_second_38 ?_
      refine lv_iload_n hx hb dX13_second_39 rfl (lv_at hl 3 rfl) ?_
      refine lv_iadd hx hb dX13_second_40 ?_
      refine lv_iconst (v := 2) hx hb dX13_second_41 (by decide) ?_
      refine lv_isub hx hb dX13_second_42 ?_
      obtain ⟨r_12, u_13, h_14, hF⟩ := pcl_some hF
      refine mcV_i (As := [.int a0, .int ((((x_6 - 1) + (a1 * (r_9 - 1))) + a2) - 2)]) (rest := []) hC hH (hr_winnerOf u_10 u_13 r_12 a0 ((((x_6 - 1) + (a1 * (r_9 - 1))) + a2) - 2) _ h_14) kwX13_winnerOf kVX13_winnerOf ⟨by show _ ≤ 12 * (d + 1) + 20; omega, by show _ ≤ 140 * (d + 1) + 400; omega⟩ rfl hl.1 rfl (Nat.le_of_ble_eq_true rfl) dX13_second_43 (fun H locs hH => ?_)
      have hF := prt_eq hF
      exact mr_i hC hH hr hF dX13_second_46 hlocks
  · rw [if_pos c_1] at hF
    refine lv_aload_n hx hb dX13_second_6 rfl (lv_at hl 0 rfl) ?_
    refine lv_iload_n hx hb dX13_second_7 rfl (lv_at hl 1 rfl) ?_
    refine lv_iload_n hx hb dX13_second_8 rfl (lv_at hl 2 rfl) ?_
    refine lv_iload_n hx hb dX13_second_9 rfl (lv_at hl 3 rfl) ?_
    obtain ⟨r_15, u_16, h_17, hF⟩ := pcl_some hF
    refine mcV_i (As := [.int a0, .int a1, .int a2]) (rest := []) hC hH (hr_loserTo u u_16 r_15 a0 a1 a2 _ h_17) kwX13_loserTo kVX13_loserTo ⟨by show _ ≤ 12 * (d + 1) + 20; omega, by show _ ≤ 140 * (d + 1) + 400; omega⟩ rfl hl.1 rfl (Nat.le_of_ble_eq_true rfl) dX13_second_10 (fun H locs hH => ?_)
    have hF := prt_eq hF
    exact mr_i hC hH hr hF dX13_second_13 hlocks
set_option maxHeartbeats 4000000 in
set_option maxRecDepth 100000 in
theorem bm_loserTo (l : Launch) (G : gG) (Z : gM) (Q : Nat → Nat) (d : Nat) (F : Nat → Int32 → Int32 → Int32 → Int32 → PG (Int32)) (hr_sideOf : ∀ (u u1 : GS) (r : Int32) (a0 a1 a2 : Int32) (sz : Nat), F 0 a0 a1 a2 0 u = some (r, u1) → Met l yX13_sideOf (Cond.code yX13_sideOf cX13_sideOf 7 (some .int) :: wM) { frames := 12 * d + 20, cells := 0, slots := 0, locals := 140 * d + 400 } (va_Pc [.ref (Q 72), .int a0, .int a1, .int a2] (mPM G Z Q u.1 sz)) (mQi G Q u1.1 r sz) 0 0 (mA Q sz)) (hr_second : ∀ (u u1 : GS) (r : Int32) (a0 a1 a2 a3 : Int32) (sz : Nat), F 1 a0 a1 a2 a3 u = some (r, u1) → Met l yX13_second (Cond.code yX13_second cX13_second 5 (some .int) :: wM) { frames := 12 * d + 20, cells := 0, slots := 0, locals := 140 * d + 400 } (va_Pc [.ref (Q 72), .int a0, .int a1, .int a2, .int a3] (mPM G Z Q u.1 sz)) (mQi G Q u1.1 r sz) 0 0 (mA Q sz)) (hr_loserTo : ∀ (u u1 : GS) (r : Int32) (a0 a1 a2 : Int32) (sz : Nat), F 2 a0 a1 a2 0 u = some (r, u1) → Met l yX13_loserTo (Cond.code yX13_loserTo cX13_loserTo 7 (some .int) :: wM) { frames := 12 * d + 20, cells := 0, slots := 0, locals := 140 * d + 400 } (va_Pc [.ref (Q 72), .int a0, .int a1, .int a2] (mPM G Z Q u.1 sz)) (mQi G Q u1.1 r sz) 0 0 (mA Q sz)) (hr_winnerOf : ∀ (u u1 : GS) (r : Int32) (a0 a1 : Int32) (sz : Nat), F 3 a0 a1 0 0 u = some (r, u1) → Met l yX13_winnerOf (Cond.code yX13_winnerOf cX13_winnerOf 5 (some .int) :: wM) { frames := 12 * d + 20, cells := 0, slots := 0, locals := 140 * d + 400 } (va_Pc [.ref (Q 72), .int a0, .int a1] (mPM G Z Q u.1 sz)) (mQi G Q u1.1 r sz) 0 0 (mA Q sz)) (u u1 : GS) (r : Int32) (a0 : Int32) (a1 : Int32) (a2 : Int32) (sz : Nat) (hF : bd_loserTo F a0 a1 a2 u = some (r, u1)) : Met l yX13_loserTo (Cond.code yX13_loserTo cX13_loserTo 7 (some .int) :: wM) { frames := 12 * (d + 1) + 20, cells := 0, slots := 0, locals := 140 * (d + 1) + 400 } (va_Pc [.ref (Q 72), .int a0, .int a1, .int a2] (mPM G Z Q u.1 sz)) (mQi G Q u1.1 r sz) 0 0 (mA Q sz) := by
  refine Met.ofW (cc := cX13_loserTo) (maxL := 7) (ret := (some .int)) (by decide) rfl ?_
  intro p e s m args below meth c s₁ B hml hv
  obtain ⟨rfl, rfl, hP, hB, hD, hE⟩ := hv
  have hr := B.returns
  have hlocks := B.notSynchronized
  have hts := atoms_spec (ws := Cond.code yX13_loserTo cX13_loserTo 7 (some .int) :: wM) B.pre
  have hC : mX p c cX13_loserTo 7 s m _ G Z Q := ⟨B.exec, B.bytes, hml, findClass_of_methodNamed B.named, fun w h => hts w (List.mem_cons_of_mem _ h), hB, hE⟩
  have hx := hC.1
  have hb := hC.2.1
  have hH : mH G Q u.1 s s.heap [] := ⟨hP, hD, va_S.rf⟩
  have hl := lv_entry ([.ref (Q 72), .int a0, .int a1, .int a2]) (n := 7) (Nat.le_of_ble_eq_true rfl)
  rw [lg_entry_eq]
  generalize (lg_sl ([.ref (Q 72), .int a0, .int a1, .int a2]) ++ List.replicate (7 - (lg_sl ([.ref (Q 72), .int a0, .int a1, .int a2])).length) Slot.unset).toArray = ls at hl ⊢
  have hl : lv_has ls 7 [(0, .ref (Q 72)), (1, .int a0), (2, .int a1), (3, .int a2)] := hl
  unfold bd_loserTo at hF
  refine lv_aload_n hx hb dX13_loserTo_0 rfl (lv_at hl 0 rfl) ?_
  refine lv_iload_n hx hb dX13_loserTo_1 rfl (lv_at hl 1 rfl) ?_
  refine lv_aload_n hx hb dX13_loserTo_2 rfl (lv_at hl 0 rfl) ?_
  refine lv_iload_n hx hb dX13_loserTo_3 rfl (lv_at hl 1 rfl) ?_
  refine lv_aload_n hx hb dX13_loserTo_4 rfl (lv_at hl 0 rfl) ?_
  refine lv_iload_n hx hb dX13_loserTo_5 rfl (lv_at hl 1 rfl) ?_
  obtain ⟨r_1, u_2, h_3, hF⟩ := pcl_some hF
  refine mcV_i (As := [.int a0]) (rest := [.int a0, .ref (Q 72), .int a0, .ref (Q 72)]) hC hH (m_rounds l G Z Q u u_2 r_1 a0 _ h_3) kwX13_rounds kVX13_rounds ⟨by show _ ≤ 12 * (d + 1) + 20; omega, by show _ ≤ 140 * (d + 1) + 400; omega⟩ rfl hl.1 rfl (Nat.le_of_ble_eq_true rfl) dX13_loserTo_6 (fun H locs hH => ?_)
  refine lv_iconst (v := 1) hx hb dX13_loserTo_9 (by decide) ?_
  refine lv_isub hx hb dX13_loserTo_10 ?_
  obtain ⟨r_4, u_5, h_6, hF⟩ := pcl_some hF
  refine mcV_i (As := [.int a0, .int (r_1 - 1)]) (rest := [.int a0, .ref (Q 72)]) hC hH (m_base l G Z Q u_2 u_5 r_4 a0 (r_1 - 1) _ h_6) kwX13_base kVX13_base ⟨by show _ ≤ 12 * (d + 1) + 20; omega, by show _ ≤ 140 * (d + 1) + 400; omega⟩ rfl hl.1 rfl (Nat.le_of_ble_eq_true rfl) dX13_loserTo_11 (fun H locs hH => ?_)
  refine lv_iload_n hx hb dX13_loserTo_14 rfl (lv_at hl 2 rfl) ?_
  refine lv_iadd hx hb dX13_loserTo_15 ?_
  obtain ⟨r_7, u_8, h_9, hF⟩ := pcl_some hF
  refine mcV_i (As := [.int a0, .int (r_4 + a1)]) (rest := []) hC hH (hr_winnerOf u_5 u_8 r_7 a0 (r_4 + a1) _ h_9) kwX13_winnerOf kVX13_winnerOf ⟨by show _ ≤ 12 * (d + 1) + 20; omega, by show _ ≤ 140 * (d + 1) + 400; omega⟩ rfl hl.1 rfl (Nat.le_of_ble_eq_true rfl) dX13_loserTo_16 (fun H locs hH => ?_)
  refine lv_istore (lv' := [(4, .int r_7), (0, .ref (Q 72)), (1, .int a0), (2, .int a1), (3, .int a2)]) hx hb dX13_loserTo_19 hl (by decide) rfl (fun ls hl => ?_)
  refine lv_iload hx hb dX13_loserTo_21 (lv_at hl 0 rfl) ?_
  refine lv_iconst (v := (-1)) hx hb dX13_loserTo_23 (by decide) ?_
  refine lv_icmp_ne (tgt := 29) hx hb dX13_loserTo_24 (by decide) (fun c_10 => ?_) (fun c_10 => ?_)
  · rw [if_neg c_10] at hF
    refine lv_aload_n hx hb dX13_loserTo_29 rfl (lv_at hl 1 rfl) ?_
    refine lv_iload_n hx hb dX13_loserTo_30 rfl (lv_at hl 2 rfl) ?_
    refine lv_iload_n hx hb dX13_loserTo_31 rfl (lv_at hl 4 rfl) ?_
    obtain ⟨r_11, u_12, h_13, hF⟩ := pcl_some hF
    refine mcV_i (As := [.int a0, .int a2]) (rest := []) hC hH (m_base l G Z Q u_8 u_12 r_11 a0 a2 _ h_13) kwX13_base kVX13_base ⟨by show _ ≤ 12 * (d + 1) + 20; omega, by show _ ≤ 140 * (d + 1) + 400; omega⟩ rfl hl.1 rfl (Nat.le_of_ble_eq_true rfl) dX13_loserTo_32 (fun H locs hH => ?_)
    refine lv_aload_n hx hb dX13_loserTo_35 rfl (lv_at hl 1 rfl) ?_
    refine mg_10 hC hH dX13_loserTo_36 ?_
    refine lv_iload hx hb dX13_loserTo_39 (lv_at hl 0 rfl) ?_
    obtain ⟨x_14, g_15, e_16, hF⟩ := prd_some hF
    refine ml_10 hC hH g_15 dX13_loserTo_41 ?_
    refine gx_ti e_16 ?_
    refine lv_iload_n hx hb dX13_loserTo_42 rfl (lv_at hl 4 rfl) ?_
    refine lv_iconst (v := 1) hx hb dX13_loserTo_43 (by decide) ?_
    refine lv_iadd hx hb dX13_loserTo_44 ?_
    refine lv_ishr hx hb dX13_loserTo_45 ?_
    refine lv_iadd hx hb dX13_loserTo_46 ?_
    obtain ⟨x_17, e_18, hF⟩ := pli_some hF
    refine gx_ti e_18 ?_
    refine lv_istore (lv' := [(5, .int x_17), (4, .int r_7), (0, .ref (Q 72)), (1, .int a0), (2, .int a1), (3, .int a2)]) hx hb dX13_loserTo_47 hl (by decide) rfl (fun ls hl => ?_)
    refine lv_aload_n hx hb dX13_loserTo_49 rfl (lv_at hl 2 rfl) ?_
    refine lv_iload_n hx hb dX13_loserTo_50 rfl (lv_at hl 3 rfl) ?_
    refine lv_iload hx hb dX13_loserTo_51 (lv_at hl 0 rfl) ?_
    refine lv_iconst (v := 0) hx hb dX13_loserTo_53 (by decide) ?_
    obtain ⟨r_19, u_20, h_21, hF⟩ := pcl_some hF
    refine mcV_i (As := [.int a0, .int x_17, .int 0]) (rest := []) hC hH (hr_sideOf u_12 u_20 r_19 a0 x_17 0 _ h_21) kwX13_sideOf kVX13_sideOf ⟨by show _ ≤ 12 * (d + 1) + 20; omega, by show _ ≤ 140 * (d + 1) + 400; omega⟩ rfl hl.1 rfl (Nat.le_of_ble_eq_true rfl) dX13_loserTo_54 (fun H locs hH => ?_)
    refine lv_istore (lv' := [(6, .int r_19), (5, .int x_17), (4, .int r_7), (0, .ref (Q 72)), (1, .int a0), (2, .int a1), (3, .int a2)]) hx hb dX13_loserTo_57 hl (by decide) rfl (fun ls hl => ?_)
    refine lv_iload hx hb dX13_loserTo_59 (lv_at hl 0 rfl) ?_
    refine lv_iload hx hb dX13_loserTo_61 (lv_at hl 2 rfl) ?_
    refine lv_icmp_ne (tgt := 77) hx hb dX13_loserTo_63 (by decide) (fun c_22 => ?_) (fun c_22 => ?_)
    · rw [if_neg c_22] at hF
      refine lv_iload hx hb dX13_loserTo_77 (lv_at hl 0 rfl) ?_
      have hF := prt_eq hF
      exact mr_i hC hH hr hF dX13_loserTo_79 hlocks
    · rw [if_pos c_22] at hF
      refine lv_aload_n hx hb dX13_loserTo_66 rfl (lv_at hl 3 rfl) ?_
      refine lv_iload_n hx hb dX13_loserTo_67 rfl (lv_at hl 4 rfl) ?_
      refine lv_iload hx hb dX13_loserTo_68 (lv_at hl 1 rfl) ?_
      refine lv_iconst (v := 1) hx hb dX13_loserTo_70 (by decide) ?_
      obtain ⟨r_23, u_24, h_25, hF⟩ := pcl_some hF
      refine mcV_i (As := [.int a0, .int x_17, .int 1]) (rest := []) hC hH (hr_sideOf u_20 u_24 r_23 a0 x_17 1 _ h_25) kwX13_sideOf kVX13_sideOf ⟨by show _ ≤ 12 * (d + 1) + 20; omega, by show _ ≤ 140 * (d + 1) + 400; omega⟩ rfl hl.1 rfl (Nat.le_of_ble_eq_true rfl) dX13_loserTo_71 (fun H locs hH => ?_)
      refine lv_goto (tgt := 79) hx hb dX13_loserTo_74 (by decide) ?_
      have hF := prt_eq hF
      exact mr_i hC hH hr hF dX13_loserTo_79 hlocks
  · rw [if_pos c_10] at hF
    refine lv_iconst (v := (-1)) hx hb dX13_loserTo_27 (by decide) ?_
    have hF := prt_eq hF
    exact mr_i hC hH hr hF dX13_loserTo_28 hlocks
set_option maxHeartbeats 4000000 in
set_option maxRecDepth 100000 in
theorem bm_winnerOf (l : Launch) (G : gG) (Z : gM) (Q : Nat → Nat) (d : Nat) (F : Nat → Int32 → Int32 → Int32 → Int32 → PG (Int32)) (hr_sideOf : ∀ (u u1 : GS) (r : Int32) (a0 a1 a2 : Int32) (sz : Nat), F 0 a0 a1 a2 0 u = some (r, u1) → Met l yX13_sideOf (Cond.code yX13_sideOf cX13_sideOf 7 (some .int) :: wM) { frames := 12 * d + 20, cells := 0, slots := 0, locals := 140 * d + 400 } (va_Pc [.ref (Q 72), .int a0, .int a1, .int a2] (mPM G Z Q u.1 sz)) (mQi G Q u1.1 r sz) 0 0 (mA Q sz)) (hr_second : ∀ (u u1 : GS) (r : Int32) (a0 a1 a2 a3 : Int32) (sz : Nat), F 1 a0 a1 a2 a3 u = some (r, u1) → Met l yX13_second (Cond.code yX13_second cX13_second 5 (some .int) :: wM) { frames := 12 * d + 20, cells := 0, slots := 0, locals := 140 * d + 400 } (va_Pc [.ref (Q 72), .int a0, .int a1, .int a2, .int a3] (mPM G Z Q u.1 sz)) (mQi G Q u1.1 r sz) 0 0 (mA Q sz)) (hr_loserTo : ∀ (u u1 : GS) (r : Int32) (a0 a1 a2 : Int32) (sz : Nat), F 2 a0 a1 a2 0 u = some (r, u1) → Met l yX13_loserTo (Cond.code yX13_loserTo cX13_loserTo 7 (some .int) :: wM) { frames := 12 * d + 20, cells := 0, slots := 0, locals := 140 * d + 400 } (va_Pc [.ref (Q 72), .int a0, .int a1, .int a2] (mPM G Z Q u.1 sz)) (mQi G Q u1.1 r sz) 0 0 (mA Q sz)) (hr_winnerOf : ∀ (u u1 : GS) (r : Int32) (a0 a1 : Int32) (sz : Nat), F 3 a0 a1 0 0 u = some (r, u1) → Met l yX13_winnerOf (Cond.code yX13_winnerOf cX13_winnerOf 5 (some .int) :: wM) { frames := 12 * d + 20, cells := 0, slots := 0, locals := 140 * d + 400 } (va_Pc [.ref (Q 72), .int a0, .int a1] (mPM G Z Q u.1 sz)) (mQi G Q u1.1 r sz) 0 0 (mA Q sz)) (u u1 : GS) (r : Int32) (a0 : Int32) (a1 : Int32) (sz : Nat) (hF : bd_winnerOf F a0 a1 u = some (r, u1)) : Met l yX13_winnerOf (Cond.code yX13_winnerOf cX13_winnerOf 5 (some .int) :: wM) { frames := 12 * (d + 1) + 20, cells := 0, slots := 0, locals := 140 * (d + 1) + 400 } (va_Pc [.ref (Q 72), .int a0, .int a1] (mPM G Z Q u.1 sz)) (mQi G Q u1.1 r sz) 0 0 (mA Q sz) := by
  refine Met.ofW (cc := cX13_winnerOf) (maxL := 5) (ret := (some .int)) (by decide) rfl ?_
  intro p e s m args below meth c s₁ B hml hv
  obtain ⟨rfl, rfl, hP, hB, hD, hE⟩ := hv
  have hr := B.returns
  have hlocks := B.notSynchronized
  have hts := atoms_spec (ws := Cond.code yX13_winnerOf cX13_winnerOf 5 (some .int) :: wM) B.pre
  have hC : mX p c cX13_winnerOf 5 s m _ G Z Q := ⟨B.exec, B.bytes, hml, findClass_of_methodNamed B.named, fun w h => hts w (List.mem_cons_of_mem _ h), hB, hE⟩
  have hx := hC.1
  have hb := hC.2.1
  have hH : mH G Q u.1 s s.heap [] := ⟨hP, hD, va_S.rf⟩
  have hl := lv_entry ([.ref (Q 72), .int a0, .int a1]) (n := 5) (Nat.le_of_ble_eq_true rfl)
  rw [lg_entry_eq]
  generalize (lg_sl ([.ref (Q 72), .int a0, .int a1]) ++ List.replicate (5 - (lg_sl ([.ref (Q 72), .int a0, .int a1])).length) Slot.unset).toArray = ls at hl ⊢
  have hl : lv_has ls 5 [(0, .ref (Q 72)), (1, .int a0), (2, .int a1)] := hl
  unfold bd_winnerOf at hF
  refine lv_aload_n hx hb dX13_winnerOf_0 rfl (lv_at hl 0 rfl) ?_
  refine mg_15 hC hH dX13_winnerOf_1 ?_
  refine lv_bipush (v := 40) hx hb dX13_winnerOf_4 (by decide) ?_
  refine lv_iload_n hx hb dX13_winnerOf_6 rfl (lv_at hl 1 rfl) ?_
  refine lv_imul hx hb dX13_winnerOf_7 ?_
  refine lv_iload_n hx hb dX13_winnerOf_8 rfl (lv_at hl 2 rfl) ?_
  refine lv_iadd hx hb dX13_winnerOf_9 ?_
  obtain ⟨x_1, g_2, e_3, hF⟩ := prd_some hF
  refine ml_15 hC hH g_2 dX13_winnerOf_10 ?_
  refine gx_ti e_3 ?_
  refine lv_iconst (v := 2) hx hb dX13_winnerOf_11 (by decide) ?_
  refine lv_icmp_ne (tgt := 27) hx hb dX13_winnerOf_12 (by decide) (fun c_4 => ?_) (fun c_4 => ?_)
  · rw [if_neg c_4] at hF
    refine lv_aload_n hx hb dX13_winnerOf_27 rfl (lv_at hl 0 rfl) ?_
    refine lv_iload_n hx hb dX13_winnerOf_28 rfl (lv_at hl 1 rfl) ?_
    refine lv_iload_n hx hb dX13_winnerOf_29 rfl (lv_at hl 2 rfl) ?_
    refine lv_iconst (v := 0) hx hb dX13_winnerOf_30 (by decide) ?_
    obtain ⟨r_5, u_6, h_7, hF⟩ := pcl_some hF
    refine mcV_i (As := [.int a0, .int a1, .int 0]) (rest := []) hC hH (hr_sideOf u u_6 r_5 a0 a1 0 _ h_7) kwX13_sideOf kVX13_sideOf ⟨by show _ ≤ 12 * (d + 1) + 20; omega, by show _ ≤ 140 * (d + 1) + 400; omega⟩ rfl hl.1 rfl (Nat.le_of_ble_eq_true rfl) dX13_winnerOf_31 (fun H locs hH => ?_)
    refine lv_istore_n (lv' := [(3, .int r_5), (0, .ref (Q 72)), (1, .int a0), (2, .int a1)]) hx hb dX13_winnerOf_34 rfl hl (by decide) rfl (fun ls hl => ?_)
    refine lv_aload_n hx hb dX13_winnerOf_35 rfl (lv_at hl 1 rfl) ?_
    refine lv_iload_n hx hb dX13_winnerOf_36 rfl (lv_at hl 2 rfl) ?_
    refine lv_iload_n hx hb dX13_winnerOf_37 rfl (lv_at hl 3 rfl) ?_
    refine lv_iconst (v := 1) hx hb dX13_winnerOf_38 (by decide) ?_
    obtain ⟨r_8, u_9, h_10, hF⟩ := pcl_some hF
    refine mcV_i (As := [.int a0, .int a1, .int 1]) (rest := []) hC hH (hr_sideOf u_6 u_9 r_8 a0 a1 1 _ h_10) kwX13_sideOf kVX13_sideOf ⟨by show _ ≤ 12 * (d + 1) + 20; omega, by show _ ≤ 140 * (d + 1) + 400; omega⟩ rfl hl.1 rfl (Nat.le_of_ble_eq_true rfl) dX13_winnerOf_39 (fun H locs hH => ?_)
    refine lv_istore (lv' := [(4, .int r_8), (3, .int r_5), (0, .ref (Q 72)), (1, .int a0), (2, .int a1)]) hx hb dX13_winnerOf_42 hl (by decide) rfl (fun ls hl => ?_)
    refine lv_iload_n hx hb dX13_winnerOf_44 rfl (lv_at hl 1 rfl) ?_
    refine lv_bipush (v := (-2)) hx hb dX13_winnerOf_45 (by decide) ?_
    refine lv_icmp_ne (tgt := 55) hx hb dX13_winnerOf_47 (by decide) (fun c_11 => ?_) (fun c_11 => ?_)
    · rw [if_neg c_11] at hF
      refine lv_iload hx hb dX13_winnerOf_55 (lv_at hl 0 rfl) ?_
      refine lv_bipush (v := (-2)) hx hb dX13_winnerOf_57 (by decide) ?_
      refine lv_icmp_ne (tgt := 66) hx hb dX13_winnerOf_59 (by decide) (fun c_12 => ?_) (fun c_12 => ?_)
      · rw [if_neg c_12] at hF
        refine lv_iconst (v := (-1)) hx hb dX13_winnerOf_66 (by decide) ?_
        have hF := prt_eq hF
        exact mr_i hC hH hr hF dX13_winnerOf_67 hlocks
      · rw [if_pos c_12] at hF
        refine lv_iload_n hx hb dX13_winnerOf_62 rfl (lv_at hl 1 rfl) ?_
        refine lv_goto (tgt := 67) hx hb dX13_winnerOf_63 (by decide) ?_
        have hF := prt_eq hF
        exact mr_i hC hH hr hF dX13_winnerOf_67 hlocks
    · rw [if_pos c_11] at hF
      refine lv_iload hx hb dX13_winnerOf_50 (lv_at hl 0 rfl) ?_
      refine lv_goto (tgt := 67) hx hb dX13_winnerOf_52 (by decide) ?_
      have hF := prt_eq hF
      exact mr_i hC hH hr hF dX13_winnerOf_67 hlocks
  · rw [if_pos c_4] at hF
    refine lv_aload_n hx hb dX13_winnerOf_15 rfl (lv_at hl 0 rfl) ?_
    refine mg_18 hC hH dX13_winnerOf_16 ?_
    refine lv_bipush (v := 40) hx hb dX13_winnerOf_19 (by decide) ?_
    refine lv_iload_n hx hb dX13_winnerOf_21 rfl (lv_at hl 1 rfl) ?_
    refine lv_imul hx hb dX13_winnerOf_22 ?_
    refine lv_iload_n hx hb dX13_winnerOf_23 rfl (lv_at hl 2 rfl) ?_
    refine lv_iadd hx hb dX13_winnerOf_24 ?_
    obtain ⟨x_13, g_14, e_15, hF⟩ := prd_some hF
    refine ml_18 hC hH g_14 dX13_winnerOf_25 ?_
    refine gx_ti e_15 ?_
    have hF := prt_eq hF
    exact mr_i hC hH hr hF dX13_winnerOf_26 hlocks
def fS : Nat → Nat → Int32 → Int32 → Int32 → Int32 → PG (Int32)
  | 0, _, _, _, _, _ => fun _ => none
  | d + 1, w, a0, a1, a2, a3 => if w = 0 then bd_sideOf (fS d) a0 a1 a2 else if w = 1 then bd_second (fS d) a0 a1 a2 a3 else if w = 2 then bd_loserTo (fS d) a0 a1 a2 else bd_winnerOf (fS d) a0 a1
theorem grpS (l : Launch) (G : gG) (Z : gM) (Q : Nat → Nat) : ∀ d : Nat, (∀ (u u1 : GS) (r : Int32) (a0 a1 a2 : Int32) (sz : Nat), fS d 0 a0 a1 a2 0 u = some (r, u1) → Met l yX13_sideOf (Cond.code yX13_sideOf cX13_sideOf 7 (some .int) :: wM) { frames := 12 * d + 20, cells := 0, slots := 0, locals := 140 * d + 400 } (va_Pc [.ref (Q 72), .int a0, .int a1, .int a2] (mPM G Z Q u.1 sz)) (mQi G Q u1.1 r sz) 0 0 (mA Q sz)) ∧ (∀ (u u1 : GS) (r : Int32) (a0 a1 a2 a3 : Int32) (sz : Nat), fS d 1 a0 a1 a2 a3 u = some (r, u1) → Met l yX13_second (Cond.code yX13_second cX13_second 5 (some .int) :: wM) { frames := 12 * d + 20, cells := 0, slots := 0, locals := 140 * d + 400 } (va_Pc [.ref (Q 72), .int a0, .int a1, .int a2, .int a3] (mPM G Z Q u.1 sz)) (mQi G Q u1.1 r sz) 0 0 (mA Q sz)) ∧ (∀ (u u1 : GS) (r : Int32) (a0 a1 a2 : Int32) (sz : Nat), fS d 2 a0 a1 a2 0 u = some (r, u1) → Met l yX13_loserTo (Cond.code yX13_loserTo cX13_loserTo 7 (some .int) :: wM) { frames := 12 * d + 20, cells := 0, slots := 0, locals := 140 * d + 400 } (va_Pc [.ref (Q 72), .int a0, .int a1, .int a2] (mPM G Z Q u.1 sz)) (mQi G Q u1.1 r sz) 0 0 (mA Q sz)) ∧ (∀ (u u1 : GS) (r : Int32) (a0 a1 : Int32) (sz : Nat), fS d 3 a0 a1 0 0 u = some (r, u1) → Met l yX13_winnerOf (Cond.code yX13_winnerOf cX13_winnerOf 5 (some .int) :: wM) { frames := 12 * d + 20, cells := 0, slots := 0, locals := 140 * d + 400 } (va_Pc [.ref (Q 72), .int a0, .int a1] (mPM G Z Q u.1 sz)) (mQi G Q u1.1 r sz) 0 0 (mA Q sz)) := by
  intro d
  induction d with
  | zero => exact ⟨(fun u u1 r a0 a1 a2 sz hF => by cases hF), (fun u u1 r a0 a1 a2 a3 sz hF => by cases hF), (fun u u1 r a0 a1 a2 sz hF => by cases hF), (fun u u1 r a0 a1 sz hF => by cases hF)⟩
  | succ d ih =>
    obtain ⟨i0, i1, i2, i3⟩ := ih
    exact ⟨(fun u u1 r a0 a1 a2 sz hF => bm_sideOf l G Z Q d (fS d) i0 i1 i2 i3 u u1 r a0 a1 a2 sz hF), (fun u u1 r a0 a1 a2 a3 sz hF => bm_second l G Z Q d (fS d) i0 i1 i2 i3 u u1 r a0 a1 a2 a3 sz hF), (fun u u1 r a0 a1 a2 sz hF => bm_loserTo l G Z Q d (fS d) i0 i1 i2 i3 u u1 r a0 a1 a2 sz hF), (fun u u1 r a0 a1 sz hF => bm_winnerOf l G Z Q d (fS d) i0 i1 i2 i3 u u1 r a0 a1 sz hF)⟩
theorem m_sideOf (l : Launch) (G : gG) (Z : gM) (Q : Nat → Nat) (u u1 : GS) (r : Int32) (a0 a1 a2 : Int32) (sz : Nat) (hF : fS 24 0 a0 a1 a2 0 u = some (r, u1)) : Met l yX13_sideOf (Cond.code yX13_sideOf cX13_sideOf 7 (some .int) :: wM) { frames := 308, cells := 0, slots := 0, locals := 3760 } (va_Pc [.ref (Q 72), .int a0, .int a1, .int a2] (mPM G Z Q u.1 sz)) (mQi G Q u1.1 r sz) 0 0 (mA Q sz) := (grpS l G Z Q 24).1 u u1 r a0 a1 a2 sz hF
theorem m_winnerOf (l : Launch) (G : gG) (Z : gM) (Q : Nat → Nat) (u u1 : GS) (r : Int32) (a0 a1 : Int32) (sz : Nat) (hF : fS 24 3 a0 a1 0 0 u = some (r, u1)) : Met l yX13_winnerOf (Cond.code yX13_winnerOf cX13_winnerOf 5 (some .int) :: wM) { frames := 308, cells := 0, slots := 0, locals := 3760 } (va_Pc [.ref (Q 72), .int a0, .int a1] (mPM G Z Q u.1 sz)) (mQi G Q u1.1 r sz) 0 0 (mA Q sz) := (grpS l G Z Q 24).2.2.2 u u1 r a0 a1 sz hF
end
