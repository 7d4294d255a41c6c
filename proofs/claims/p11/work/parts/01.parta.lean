section
-- ===== PART A: goes FIRST, ahead of the names: the tables' words, and 'selects' of the private methods out of them =====
/-- a private method of a class that the tables say can be made, by its rows of tables_1 -/
def lw_okq (q : MethodName × Nat) : Prop := (q.1.cls ≠ "java/lang/invoke/MethodHandle" ∧ q.1.cls ≠ "java/lang/invoke/VarHandle") ∧ Cond.instantiable q.1.cls q.2 ∈ tables_1 ∧ Cond.privateMethod q.1 ∈ tables_1 ∧ Cond.instanceMethod q.1 ∈ tables_1
theorem lw_p0 : lw_okq (⟨"JudoHall$Book", "lay", "(II)V"⟩, 6) := ⟨⟨by decide +kernel, by decide +kernel⟩, List.mem_of_getElem? (i := 39) (by decide +kernel), List.mem_of_getElem? (i := 62) (by decide +kernel), List.mem_of_getElem? (i := 63) (by decide +kernel)⟩
theorem lw_p1 : lw_okq (⟨"JudoHall$Floor", "on", "(II)I"⟩, 4) := ⟨⟨by decide +kernel, by decide +kernel⟩, List.mem_of_getElem? (i := 282) (by decide +kernel), List.mem_of_getElem? (i := 465) (by decide +kernel), List.mem_of_getElem? (i := 466) (by decide +kernel)⟩
theorem lw_p2 : lw_okq (⟨"JudoHall$Tape", "readWord", "()V"⟩, 6) := ⟨⟨by decide +kernel, by decide +kernel⟩, List.mem_of_getElem? (i := 93) (by decide +kernel), List.mem_of_getElem? (i := 500) (by decide +kernel), List.mem_of_getElem? (i := 501) (by decide +kernel)⟩
theorem lw_p3 : lw_okq (⟨"JudoHall$Tape", "wordKind", "()I"⟩, 6) := ⟨⟨by decide +kernel, by decide +kernel⟩, List.mem_of_getElem? (i := 93) (by decide +kernel), List.mem_of_getElem? (i := 504) (by decide +kernel), List.mem_of_getElem? (i := 505) (by decide +kernel)⟩
theorem lw_p4 : lw_okq (⟨"JudoHall$Tape", "spells", "(Ljava/lang/String;)Z"⟩, 6) := ⟨⟨by decide +kernel, by decide +kernel⟩, List.mem_of_getElem? (i := 93) (by decide +kernel), List.mem_of_getElem? (i := 509) (by decide +kernel), List.mem_of_getElem? (i := 510) (by decide +kernel)⟩
theorem lw_p5 : lw_okq (⟨"JudoHall$Tape", "readNumber", "()V"⟩, 6) := ⟨⟨by decide +kernel, by decide +kernel⟩, List.mem_of_getElem? (i := 93) (by decide +kernel), List.mem_of_getElem? (i := 576) (by decide +kernel), List.mem_of_getElem? (i := 577) (by decide +kernel)⟩
theorem lw_p6 : lw_okq (⟨"JudoHall$Tape", "markOf", "(I)I"⟩, 6) := ⟨⟨by decide +kernel, by decide +kernel⟩, List.mem_of_getElem? (i := 93) (by decide +kernel), List.mem_of_getElem? (i := 580) (by decide +kernel), List.mem_of_getElem? (i := 581) (by decide +kernel)⟩
theorem lw_p7 : lw_okq (⟨"JudoHall$Tape", "takeEqual", "()Z"⟩, 6) := ⟨⟨by decide +kernel, by decide +kernel⟩, List.mem_of_getElem? (i := 93) (by decide +kernel), List.mem_of_getElem? (i := 584) (by decide +kernel), List.mem_of_getElem? (i := 585) (by decide +kernel)⟩
theorem lw_p8 : lw_okq (⟨"JudoHall$Parser", "take", "(I)V"⟩, 14) := ⟨⟨by decide +kernel, by decide +kernel⟩, List.mem_of_getElem? (i := 124) (by decide +kernel), List.mem_of_getElem? (i := 588) (by decide +kernel), List.mem_of_getElem? (i := 589) (by decide +kernel)⟩
theorem lw_p9 : lw_okq (⟨"JudoHall$Parser", "takeHead", "(I)V"⟩, 14) := ⟨⟨by decide +kernel, by decide +kernel⟩, List.mem_of_getElem? (i := 124) (by decide +kernel), List.mem_of_getElem? (i := 594) (by decide +kernel), List.mem_of_getElem? (i := 595) (by decide +kernel)⟩
theorem lw_p10 : lw_okq (⟨"JudoHall$Parser", "goIf", "(ZI)V"⟩, 14) := ⟨⟨by decide +kernel, by decide +kernel⟩, List.mem_of_getElem? (i := 124) (by decide +kernel), List.mem_of_getElem? (i := 598) (by decide +kernel), List.mem_of_getElem? (i := 599) (by decide +kernel)⟩
theorem lw_p11 : lw_okq (⟨"JudoHall$Parser", "fail", "(I)V"⟩, 14) := ⟨⟨by decide +kernel, by decide +kernel⟩, List.mem_of_getElem? (i := 124) (by decide +kernel), List.mem_of_getElem? (i := 602) (by decide +kernel), List.mem_of_getElem? (i := 603) (by decide +kernel)⟩
theorem lw_p12 : lw_okq (⟨"JudoHall$Parser", "endComparison", "()V"⟩, 14) := ⟨⟨by decide +kernel, by decide +kernel⟩, List.mem_of_getElem? (i := 124) (by decide +kernel), List.mem_of_getElem? (i := 606) (by decide +kernel), List.mem_of_getElem? (i := 607) (by decide +kernel)⟩
theorem lw_p13 : lw_okq (⟨"JudoHall$Parser", "closeNots", "()V"⟩, 14) := ⟨⟨by decide +kernel, by decide +kernel⟩, List.mem_of_getElem? (i := 124) (by decide +kernel), List.mem_of_getElem? (i := 615) (by decide +kernel), List.mem_of_getElem? (i := 616) (by decide +kernel)⟩
theorem lw_p14 : lw_okq (⟨"JudoHall$Parser", "takeSignOrLine", "(I)V"⟩, 14) := ⟨⟨by decide +kernel, by decide +kernel⟩, List.mem_of_getElem? (i := 124) (by decide +kernel), List.mem_of_getElem? (i := 620) (by decide +kernel), List.mem_of_getElem? (i := 621) (by decide +kernel)⟩
theorem lw_p15 : lw_okq (⟨"JudoHall$Parser", "goIfRoom", "(ZI)V"⟩, 14) := ⟨⟨by decide +kernel, by decide +kernel⟩, List.mem_of_getElem? (i := 124) (by decide +kernel), List.mem_of_getElem? (i := 624) (by decide +kernel), List.mem_of_getElem? (i := 625) (by decide +kernel)⟩
def lw_privs_1 : List (MethodName × Nat) := [(⟨"JudoHall$Book", "lay", "(II)V"⟩, 6), (⟨"JudoHall$Floor", "on", "(II)I"⟩, 4), (⟨"JudoHall$Tape", "readWord", "()V"⟩, 6), (⟨"JudoHall$Tape", "wordKind", "()I"⟩, 6), (⟨"JudoHall$Tape", "spells", "(Ljava/lang/String;)Z"⟩, 6), (⟨"JudoHall$Tape", "readNumber", "()V"⟩, 6), (⟨"JudoHall$Tape", "markOf", "(I)I"⟩, 6), (⟨"JudoHall$Tape", "takeEqual", "()Z"⟩, 6), (⟨"JudoHall$Parser", "take", "(I)V"⟩, 14), (⟨"JudoHall$Parser", "takeHead", "(I)V"⟩, 14), (⟨"JudoHall$Parser", "goIf", "(ZI)V"⟩, 14), (⟨"JudoHall$Parser", "fail", "(I)V"⟩, 14), (⟨"JudoHall$Parser", "endComparison", "()V"⟩, 14), (⟨"JudoHall$Parser", "closeNots", "()V"⟩, 14), (⟨"JudoHall$Parser", "takeSignOrLine", "(I)V"⟩, 14), (⟨"JudoHall$Parser", "goIfRoom", "(ZI)V"⟩, 14)]
theorem lw_r1 : ∀ q ∈ lw_privs_1, lw_okq q := List.forall_mem_cons.mpr ⟨lw_p0, List.forall_mem_cons.mpr ⟨lw_p1, List.forall_mem_cons.mpr ⟨lw_p2, List.forall_mem_cons.mpr ⟨lw_p3, List.forall_mem_cons.mpr ⟨lw_p4, List.forall_mem_cons.mpr ⟨lw_p5, List.forall_mem_cons.mpr ⟨lw_p6, List.forall_mem_cons.mpr ⟨lw_p7, List.forall_mem_cons.mpr ⟨lw_p8, List.forall_mem_cons.mpr ⟨lw_p9, List.forall_mem_cons.mpr ⟨lw_p10, List.forall_mem_cons.mpr ⟨lw_p11, List.forall_mem_cons.mpr ⟨lw_p12, List.forall_mem_cons.mpr ⟨lw_p13, List.forall_mem_cons.mpr ⟨lw_p14, List.forall_mem_cons.mpr ⟨lw_p15, fun _ h => absurd h List.not_mem_nil⟩⟩⟩⟩⟩⟩⟩⟩⟩⟩⟩⟩⟩⟩⟩⟩
theorem lw_p16 : lw_okq (⟨"JudoHall$Parser", "takeSignName", "(I)V"⟩, 14) := ⟨⟨by decide +kernel, by decide +kernel⟩, List.mem_of_getElem? (i := 124) (by decide +kernel), List.mem_of_getElem? (i := 629) (by decide +kernel), List.mem_of_getElem? (i := 630) (by decide +kernel)⟩
theorem lw_p17 : lw_okq (⟨"JudoHall$Parser", "signOfToken", "()I"⟩, 14) := ⟨⟨by decide +kernel, by decide +kernel⟩, List.mem_of_getElem? (i := 124) (by decide +kernel), List.mem_of_getElem? (i := 633) (by decide +kernel), List.mem_of_getElem? (i := 634) (by decide +kernel)⟩
theorem lw_p18 : lw_okq (⟨"JudoHall$Parser", "takePoints", "(I)V"⟩, 14) := ⟨⟨by decide +kernel, by decide +kernel⟩, List.mem_of_getElem? (i := 124) (by decide +kernel), List.mem_of_getElem? (i := 645) (by decide +kernel), List.mem_of_getElem? (i := 646) (by decide +kernel)⟩
theorem lw_p19 : lw_okq (⟨"JudoHall$Parser", "takeCond", "(I)V"⟩, 14) := ⟨⟨by decide +kernel, by decide +kernel⟩, List.mem_of_getElem? (i := 124) (by decide +kernel), List.mem_of_getElem? (i := 649) (by decide +kernel), List.mem_of_getElem? (i := 650) (by decide +kernel)⟩
theorem lw_p20 : lw_okq (⟨"JudoHall$Parser", "takePart", "(I)V"⟩, 14) := ⟨⟨by decide +kernel, by decide +kernel⟩, List.mem_of_getElem? (i := 124) (by decide +kernel), List.mem_of_getElem? (i := 653) (by decide +kernel), List.mem_of_getElem? (i := 654) (by decide +kernel)⟩
theorem lw_p21 : lw_okq (⟨"JudoHall$Parser", "openThing", "(I)V"⟩, 14) := ⟨⟨by decide +kernel, by decide +kernel⟩, List.mem_of_getElem? (i := 124) (by decide +kernel), List.mem_of_getElem? (i := 657) (by decide +kernel), List.mem_of_getElem? (i := 658) (by decide +kernel)⟩
theorem lw_p22 : lw_okq (⟨"JudoHall$Parser", "hold", "(I)V"⟩, 14) := ⟨⟨by decide +kernel, by decide +kernel⟩, List.mem_of_getElem? (i := 124) (by decide +kernel), List.mem_of_getElem? (i := 661) (by decide +kernel), List.mem_of_getElem? (i := 662) (by decide +kernel)⟩
theorem lw_p23 : lw_okq (⟨"JudoHall$Parser", "takeTerm", "(I)V"⟩, 14) := ⟨⟨by decide +kernel, by decide +kernel⟩, List.mem_of_getElem? (i := 124) (by decide +kernel), List.mem_of_getElem? (i := 665) (by decide +kernel), List.mem_of_getElem? (i := 666) (by decide +kernel)⟩
theorem lw_p24 : lw_okq (⟨"JudoHall$Parser", "emitTerm", "(II)V"⟩, 14) := ⟨⟨by decide +kernel, by decide +kernel⟩, List.mem_of_getElem? (i := 124) (by decide +kernel), List.mem_of_getElem? (i := 669) (by decide +kernel), List.mem_of_getElem? (i := 670) (by decide +kernel)⟩
theorem lw_p25 : lw_okq (⟨"JudoHall$Parser", "takeTermName", "(I)V"⟩, 14) := ⟨⟨by decide +kernel, by decide +kernel⟩, List.mem_of_getElem? (i := 124) (by decide +kernel), List.mem_of_getElem? (i := 673) (by decide +kernel), List.mem_of_getElem? (i := 674) (by decide +kernel)⟩
theorem lw_p26 : lw_okq (⟨"JudoHall$Parser", "takeBehindTerm", "(I)V"⟩, 14) := ⟨⟨by decide +kernel, by decide +kernel⟩, List.mem_of_getElem? (i := 124) (by decide +kernel), List.mem_of_getElem? (i := 677) (by decide +kernel), List.mem_of_getElem? (i := 678) (by decide +kernel)⟩
theorem lw_p27 : lw_okq (⟨"JudoHall$Parser", "takeBehindCond", "(I)V"⟩, 14) := ⟨⟨by decide +kernel, by decide +kernel⟩, List.mem_of_getElem? (i := 124) (by decide +kernel), List.mem_of_getElem? (i := 681) (by decide +kernel), List.mem_of_getElem? (i := 682) (by decide +kernel)⟩
theorem lw_p28 : lw_okq (⟨"JudoHall$Parser", "emitBinders", "(I)V"⟩, 14) := ⟨⟨by decide +kernel, by decide +kernel⟩, List.mem_of_getElem? (i := 124) (by decide +kernel), List.mem_of_getElem? (i := 685) (by decide +kernel), List.mem_of_getElem? (i := 686) (by decide +kernel)⟩
theorem lw_p29 : lw_okq (⟨"JudoHall$Parser", "closeBracket", "()V"⟩, 14) := ⟨⟨by decide +kernel, by decide +kernel⟩, List.mem_of_getElem? (i := 124) (by decide +kernel), List.mem_of_getElem? (i := 689) (by decide +kernel), List.mem_of_getElem? (i := 690) (by decide +kernel)⟩
theorem lw_p30 : lw_okq (⟨"JudoHall", "keepLaws", "(LJudoHall$Laws;)V"⟩, 11) := ⟨⟨by decide +kernel, by decide +kernel⟩, List.mem_of_getElem? (i := 31) (by decide +kernel), List.mem_of_getElem? (i := 710) (by decide +kernel), List.mem_of_getElem? (i := 711) (by decide +kernel)⟩
theorem lw_p31 : lw_okq (⟨"java/util/ArrayList", "add", "(Ljava/lang/Object;[Ljava/lang/Object;I)V"⟩, 3) := ⟨⟨by decide +kernel, by decide +kernel⟩, List.mem_of_getElem? (i := 377) (by decide +kernel), List.mem_of_getElem? (i := 735) (by decide +kernel), List.mem_of_getElem? (i := 736) (by decide +kernel)⟩
def lw_privs_2 : List (MethodName × Nat) := [(⟨"JudoHall$Parser", "takeSignName", "(I)V"⟩, 14), (⟨"JudoHall$Parser", "signOfToken", "()I"⟩, 14), (⟨"JudoHall$Parser", "takePoints", "(I)V"⟩, 14), (⟨"JudoHall$Parser", "takeCond", "(I)V"⟩, 14), (⟨"JudoHall$Parser", "takePart", "(I)V"⟩, 14), (⟨"JudoHall$Parser", "openThing", "(I)V"⟩, 14), (⟨"JudoHall$Parser", "hold", "(I)V"⟩, 14), (⟨"JudoHall$Parser", "takeTerm", "(I)V"⟩, 14), (⟨"JudoHall$Parser", "emitTerm", "(II)V"⟩, 14), (⟨"JudoHall$Parser", "takeTermName", "(I)V"⟩, 14), (⟨"JudoHall$Parser", "takeBehindTerm", "(I)V"⟩, 14), (⟨"JudoHall$Parser", "takeBehindCond", "(I)V"⟩, 14), (⟨"JudoHall$Parser", "emitBinders", "(I)V"⟩, 14), (⟨"JudoHall$Parser", "closeBracket", "()V"⟩, 14), (⟨"JudoHall", "keepLaws", "(LJudoHall$Laws;)V"⟩, 11), (⟨"java/util/ArrayList", "add", "(Ljava/lang/Object;[Ljava/lang/Object;I)V"⟩, 3)]
theorem lw_r2 : ∀ q ∈ lw_privs_2, lw_okq q := List.forall_mem_cons.mpr ⟨lw_p16, List.forall_mem_cons.mpr ⟨lw_p17, List.forall_mem_cons.mpr ⟨lw_p18, List.forall_mem_cons.mpr ⟨lw_p19, List.forall_mem_cons.mpr ⟨lw_p20, List.forall_mem_cons.mpr ⟨lw_p21, List.forall_mem_cons.mpr ⟨lw_p22, List.forall_mem_cons.mpr ⟨lw_p23, List.forall_mem_cons.mpr ⟨lw_p24, List.forall_mem_cons.mpr ⟨lw_p25, List.forall_mem_cons.mpr ⟨lw_p26, List.forall_mem_cons.mpr ⟨lw_p27, List.forall_mem_cons.mpr ⟨lw_p28, List.forall_mem_cons.mpr ⟨lw_p29, List.forall_mem_cons.mpr ⟨lw_p30, List.forall_mem_cons.mpr ⟨lw_p31, fun _ h => absurd h List.not_mem_nil⟩⟩⟩⟩⟩⟩⟩⟩⟩⟩⟩⟩⟩⟩⟩⟩
theorem lw_p32 : lw_okq (⟨"java/util/ArrayList", "grow", "()[Ljava/lang/Object;"⟩, 3) := ⟨⟨by decide +kernel, by decide +kernel⟩, List.mem_of_getElem? (i := 377) (by decide +kernel), List.mem_of_getElem? (i := 739) (by decide +kernel), List.mem_of_getElem? (i := 740) (by decide +kernel)⟩
theorem lw_p33 : lw_okq (⟨"java/util/ArrayList", "grow", "(I)[Ljava/lang/Object;"⟩, 3) := ⟨⟨by decide +kernel, by decide +kernel⟩, List.mem_of_getElem? (i := 377) (by decide +kernel), List.mem_of_getElem? (i := 743) (by decide +kernel), List.mem_of_getElem? (i := 744) (by decide +kernel)⟩
theorem lw_p34 : lw_okq (⟨"JudoHall", "lawsNow", "()LJudoHall$Laws;"⟩, 11) := ⟨⟨by decide +kernel, by decide +kernel⟩, List.mem_of_getElem? (i := 31) (by decide +kernel), List.mem_of_getElem? (i := 810) (by decide +kernel), List.mem_of_getElem? (i := 811) (by decide +kernel)⟩
theorem lw_p35 : lw_okq (⟨"JudoHall$Drawer", "placePool", "(I)V"⟩, 3) := ⟨⟨by decide +kernel, by decide +kernel⟩, List.mem_of_getElem? (i := 237) (by decide +kernel), List.mem_of_getElem? (i := 914) (by decide +kernel), List.mem_of_getElem? (i := 915) (by decide +kernel)⟩
theorem lw_p36 : lw_okq (⟨"JudoHall$Drawer", "placeOne", "(III)V"⟩, 3) := ⟨⟨by decide +kernel, by decide +kernel⟩, List.mem_of_getElem? (i := 237) (by decide +kernel), List.mem_of_getElem? (i := 920) (by decide +kernel), List.mem_of_getElem? (i := 921) (by decide +kernel)⟩
theorem lw_p37 : lw_okq (⟨"JudoHall$Drawer", "makeRow", "(I)V"⟩, 3) := ⟨⟨by decide +kernel, by decide +kernel⟩, List.mem_of_getElem? (i := 237) (by decide +kernel), List.mem_of_getElem? (i := 925) (by decide +kernel), List.mem_of_getElem? (i := 926) (by decide +kernel)⟩
theorem lw_p38 : lw_okq (⟨"JudoHall$Drawer", "placeSeeds", "(I)V"⟩, 3) := ⟨⟨by decide +kernel, by decide +kernel⟩, List.mem_of_getElem? (i := 237) (by decide +kernel), List.mem_of_getElem? (i := 931) (by decide +kernel), List.mem_of_getElem? (i := 932) (by decide +kernel)⟩
theorem lw_p39 : lw_okq (⟨"JudoHall$Drawer", "placeOthers", "(II)V"⟩, 3) := ⟨⟨by decide +kernel, by decide +kernel⟩, List.mem_of_getElem? (i := 237) (by decide +kernel), List.mem_of_getElem? (i := 935) (by decide +kernel), List.mem_of_getElem? (i := 936) (by decide +kernel)⟩
theorem lw_p40 : lw_okq (⟨"JudoHall$Drawer", "isSeed", "(I)Z"⟩, 3) := ⟨⟨by decide +kernel, by decide +kernel⟩, List.mem_of_getElem? (i := 237) (by decide +kernel), List.mem_of_getElem? (i := 943) (by decide +kernel), List.mem_of_getElem? (i := 944) (by decide +kernel)⟩
theorem lw_p41 : lw_okq (⟨"JudoHall$Drawer", "largestClub", "()I"⟩, 3) := ⟨⟨by decide +kernel, by decide +kernel⟩, List.mem_of_getElem? (i := 237) (by decide +kernel), List.mem_of_getElem? (i := 947) (by decide +kernel), List.mem_of_getElem? (i := 948) (by decide +kernel)⟩
theorem lw_p42 : lw_okq (⟨"JudoHall$Drawer", "placeClub", "(III)V"⟩, 3) := ⟨⟨by decide +kernel, by decide +kernel⟩, List.mem_of_getElem? (i := 237) (by decide +kernel), List.mem_of_getElem? (i := 951) (by decide +kernel), List.mem_of_getElem? (i := 952) (by decide +kernel)⟩
theorem lw_p43 : lw_okq (⟨"JudoHall$Drawer", "bestPlace", "(III)I"⟩, 3) := ⟨⟨by decide +kernel, by decide +kernel⟩, List.mem_of_getElem? (i := 237) (by decide +kernel), List.mem_of_getElem? (i := 955) (by decide +kernel), List.mem_of_getElem? (i := 956) (by decide +kernel)⟩
theorem lw_p44 : lw_okq (⟨"JudoHall$Drawer", "firstMeeting", "(III)I"⟩, 3) := ⟨⟨by decide +kernel, by decide +kernel⟩, List.mem_of_getElem? (i := 237) (by decide +kernel), List.mem_of_getElem? (i := 959) (by decide +kernel), List.mem_of_getElem? (i := 960) (by decide +kernel)⟩
theorem lw_p45 : lw_okq (⟨"JudoHall$Board", "settlePool", "(II)V"⟩, 6) := ⟨⟨by decide +kernel, by decide +kernel⟩, List.mem_of_getElem? (i := 255) (by decide +kernel), List.mem_of_getElem? (i := 975) (by decide +kernel), List.mem_of_getElem? (i := 976) (by decide +kernel)⟩
theorem lw_p46 : lw_okq (⟨"JudoHall$Board", "settleFight", "(IIII)V"⟩, 6) := ⟨⟨by decide +kernel, by decide +kernel⟩, List.mem_of_getElem? (i := 255) (by decide +kernel), List.mem_of_getElem? (i := 979) (by decide +kernel), List.mem_of_getElem? (i := 980) (by decide +kernel)⟩
theorem lw_p47 : lw_okq (⟨"JudoHall$Board", "settleTree", "(II)V"⟩, 6) := ⟨⟨by decide +kernel, by decide +kernel⟩, List.mem_of_getElem? (i := 255) (by decide +kernel), List.mem_of_getElem? (i := 991) (by decide +kernel), List.mem_of_getElem? (i := 992) (by decide +kernel)⟩
def lw_privs_3 : List (MethodName × Nat) := [(⟨"java/util/ArrayList", "grow", "()[Ljava/lang/Object;"⟩, 3), (⟨"java/util/ArrayList", "grow", "(I)[Ljava/lang/Object;"⟩, 3), (⟨"JudoHall", "lawsNow", "()LJudoHall$Laws;"⟩, 11), (⟨"JudoHall$Drawer", "placePool", "(I)V"⟩, 3), (⟨"JudoHall$Drawer", "placeOne", "(III)V"⟩, 3), (⟨"JudoHall$Drawer", "makeRow", "(I)V"⟩, 3), (⟨"JudoHall$Drawer", "placeSeeds", "(I)V"⟩, 3), (⟨"JudoHall$Drawer", "placeOthers", "(II)V"⟩, 3), (⟨"JudoHall$Drawer", "isSeed", "(I)Z"⟩, 3), (⟨"JudoHall$Drawer", "largestClub", "()I"⟩, 3), (⟨"JudoHall$Drawer", "placeClub", "(III)V"⟩, 3), (⟨"JudoHall$Drawer", "bestPlace", "(III)I"⟩, 3), (⟨"JudoHall$Drawer", "firstMeeting", "(III)I"⟩, 3), (⟨"JudoHall$Board", "settlePool", "(II)V"⟩, 6), (⟨"JudoHall$Board", "settleFight", "(IIII)V"⟩, 6), (⟨"JudoHall$Board", "settleTree", "(II)V"⟩, 6)]
theorem lw_r3 : ∀ q ∈ lw_privs_3, lw_okq q := List.forall_mem_cons.mpr ⟨lw_p32, List.forall_mem_cons.mpr ⟨lw_p33, List.forall_mem_cons.mpr ⟨lw_p34, List.forall_mem_cons.mpr ⟨lw_p35, List.forall_mem_cons.mpr ⟨lw_p36, List.forall_mem_cons.mpr ⟨lw_p37, List.forall_mem_cons.mpr ⟨lw_p38, List.forall_mem_cons.mpr ⟨lw_p39, List.forall_mem_cons.mpr ⟨lw_p40, List.forall_mem_cons.mpr ⟨lw_p41, List.forall_mem_cons.mpr ⟨lw_p42, List.forall_mem_cons.mpr ⟨lw_p43, List.forall_mem_cons.mpr ⟨lw_p44, List.forall_mem_cons.mpr ⟨lw_p45, List.forall_mem_cons.mpr ⟨lw_p46, List.forall_mem_cons.mpr ⟨lw_p47, fun _ h => absurd h List.not_mem_nil⟩⟩⟩⟩⟩⟩⟩⟩⟩⟩⟩⟩⟩⟩⟩⟩
theorem lw_p48 : lw_okq (⟨"JudoHall$Board", "settleWalk", "(IIII)V"⟩, 6) := ⟨⟨by decide +kernel, by decide +kernel⟩, List.mem_of_getElem? (i := 255) (by decide +kernel), List.mem_of_getElem? (i := 995) (by decide +kernel), List.mem_of_getElem? (i := 996) (by decide +kernel)⟩
theorem lw_p49 : lw_okq (⟨"JudoHall$Board", "settleLives", "(III)V"⟩, 6) := ⟨⟨by decide +kernel, by decide +kernel⟩, List.mem_of_getElem? (i := 255) (by decide +kernel), List.mem_of_getElem? (i := 1007) (by decide +kernel), List.mem_of_getElem? (i := 1008) (by decide +kernel)⟩
theorem lw_p50 : lw_okq (⟨"JudoHall$Board", "findLosersTo", "(IIII)V"⟩, 6) := ⟨⟨by decide +kernel, by decide +kernel⟩, List.mem_of_getElem? (i := 255) (by decide +kernel), List.mem_of_getElem? (i := 1014) (by decide +kernel), List.mem_of_getElem? (i := 1015) (by decide +kernel)⟩
theorem lw_p51 : lw_okq (⟨"JudoHall$Floor", "fighterOn", "(II)I"⟩, 4) := ⟨⟨by decide +kernel, by decide +kernel⟩, List.mem_of_getElem? (i := 282) (by decide +kernel), List.mem_of_getElem? (i := 1092) (by decide +kernel), List.mem_of_getElem? (i := 1093) (by decide +kernel)⟩
theorem lw_p52 : lw_okq (⟨"JudoHall$Floor", "holds", "(LJudoHall$Laws;III)Z"⟩, 4) := ⟨⟨by decide +kernel, by decide +kernel⟩, List.mem_of_getElem? (i := 282) (by decide +kernel), List.mem_of_getElem? (i := 1133) (by decide +kernel), List.mem_of_getElem? (i := 1134) (by decide +kernel)⟩
theorem lw_p53 : lw_okq (⟨"JudoHall$Floor", "pop", "()I"⟩, 4) := ⟨⟨by decide +kernel, by decide +kernel⟩, List.mem_of_getElem? (i := 282) (by decide +kernel), List.mem_of_getElem? (i := 1147) (by decide +kernel), List.mem_of_getElem? (i := 1148) (by decide +kernel)⟩
theorem lw_p54 : lw_okq (⟨"JudoHall$Floor", "push", "(I)V"⟩, 4) := ⟨⟨by decide +kernel, by decide +kernel⟩, List.mem_of_getElem? (i := 282) (by decide +kernel), List.mem_of_getElem? (i := 1152) (by decide +kernel), List.mem_of_getElem? (i := 1153) (by decide +kernel)⟩
theorem lw_p55 : lw_okq (⟨"JudoHall$Floor", "valueOf", "(IIII)I"⟩, 4) := ⟨⟨by decide +kernel, by decide +kernel⟩, List.mem_of_getElem? (i := 282) (by decide +kernel), List.mem_of_getElem? (i := 1164) (by decide +kernel), List.mem_of_getElem? (i := 1165) (by decide +kernel)⟩
theorem lw_p56 : lw_okq (⟨"JudoHall$Floor", "leave", "(I)V"⟩, 4) := ⟨⟨by decide +kernel, by decide +kernel⟩, List.mem_of_getElem? (i := 282) (by decide +kernel), List.mem_of_getElem? (i := 1172) (by decide +kernel), List.mem_of_getElem? (i := 1173) (by decide +kernel)⟩
theorem lw_p57 : lw_okq (⟨"JudoHall", "signsOn", "(II)I"⟩, 11) := ⟨⟨by decide +kernel, by decide +kernel⟩, List.mem_of_getElem? (i := 31) (by decide +kernel), List.mem_of_getElem? (i := 1202) (by decide +kernel), List.mem_of_getElem? (i := 1203) (by decide +kernel)⟩
theorem lw_p58 : lw_okq (⟨"JudoHall$Floor", "drop", "(II)V"⟩, 4) := ⟨⟨by decide +kernel, by decide +kernel⟩, List.mem_of_getElem? (i := 282) (by decide +kernel), List.mem_of_getElem? (i := 1215) (by decide +kernel), List.mem_of_getElem? (i := 1216) (by decide +kernel)⟩
theorem lw_p59 : lw_okq (⟨"JudoHall$Podium", "addUp", "(I)V"⟩, 4) := ⟨⟨by decide +kernel, by decide +kernel⟩, List.mem_of_getElem? (i := 303) (by decide +kernel), List.mem_of_getElem? (i := 1234) (by decide +kernel), List.mem_of_getElem? (i := 1235) (by decide +kernel)⟩
theorem lw_p60 : lw_okq (⟨"JudoHall$Podium", "member", "(II)I"⟩, 4) := ⟨⟨by decide +kernel, by decide +kernel⟩, List.mem_of_getElem? (i := 303) (by decide +kernel), List.mem_of_getElem? (i := 1245) (by decide +kernel), List.mem_of_getElem? (i := 1246) (by decide +kernel)⟩
theorem lw_p61 : lw_okq (⟨"JudoHall$Podium", "aheadOf", "(II)I"⟩, 4) := ⟨⟨by decide +kernel, by decide +kernel⟩, List.mem_of_getElem? (i := 303) (by decide +kernel), List.mem_of_getElem? (i := 1250) (by decide +kernel), List.mem_of_getElem? (i := 1251) (by decide +kernel)⟩
theorem lw_p62 : lw_okq (⟨"JudoHall$Podium", "areAlike", "(II)Z"⟩, 4) := ⟨⟨by decide +kernel, by decide +kernel⟩, List.mem_of_getElem? (i := 303) (by decide +kernel), List.mem_of_getElem? (i := 1254) (by decide +kernel), List.mem_of_getElem? (i := 1255) (by decide +kernel)⟩
theorem lw_p63 : lw_okq (⟨"JudoHall$Podium", "breaksTie", "(IIII)Z"⟩, 4) := ⟨⟨by decide +kernel, by decide +kernel⟩, List.mem_of_getElem? (i := 303) (by decide +kernel), List.mem_of_getElem? (i := 1258) (by decide +kernel), List.mem_of_getElem? (i := 1259) (by decide +kernel)⟩
def lw_privs_4 : List (MethodName × Nat) := [(⟨"JudoHall$Board", "settleWalk", "(IIII)V"⟩, 6), (⟨"JudoHall$Board", "settleLives", "(III)V"⟩, 6), (⟨"JudoHall$Board", "findLosersTo", "(IIII)V"⟩, 6), (⟨"JudoHall$Floor", "fighterOn", "(II)I"⟩, 4), (⟨"JudoHall$Floor", "holds", "(LJudoHall$Laws;III)Z"⟩, 4), (⟨"JudoHall$Floor", "pop", "()I"⟩, 4), (⟨"JudoHall$Floor", "push", "(I)V"⟩, 4), (⟨"JudoHall$Floor", "valueOf", "(IIII)I"⟩, 4), (⟨"JudoHall$Floor", "leave", "(I)V"⟩, 4), (⟨"JudoHall", "signsOn", "(II)I"⟩, 11), (⟨"JudoHall$Floor", "drop", "(II)V"⟩, 4), (⟨"JudoHall$Podium", "addUp", "(I)V"⟩, 4), (⟨"JudoHall$Podium", "member", "(II)I"⟩, 4), (⟨"JudoHall$Podium", "aheadOf", "(II)I"⟩, 4), (⟨"JudoHall$Podium", "areAlike", "(II)Z"⟩, 4), (⟨"JudoHall$Podium", "breaksTie", "(IIII)Z"⟩, 4)]
theorem lw_r4 : ∀ q ∈ lw_privs_4, lw_okq q := List.forall_mem_cons.mpr ⟨lw_p48, List.forall_mem_cons.mpr ⟨lw_p49, List.forall_mem_cons.mpr ⟨lw_p50, List.forall_mem_cons.mpr ⟨lw_p51, List.forall_mem_cons.mpr ⟨lw_p52, List.forall_mem_cons.mpr ⟨lw_p53, List.forall_mem_cons.mpr ⟨lw_p54, List.forall_mem_cons.mpr ⟨lw_p55, List.forall_mem_cons.mpr ⟨lw_p56, List.forall_mem_cons.mpr ⟨lw_p57, List.forall_mem_cons.mpr ⟨lw_p58, List.forall_mem_cons.mpr ⟨lw_p59, List.forall_mem_cons.mpr ⟨lw_p60, List.forall_mem_cons.mpr ⟨lw_p61, List.forall_mem_cons.mpr ⟨lw_p62, List.forall_mem_cons.mpr ⟨lw_p63, fun _ h => absurd h List.not_mem_nil⟩⟩⟩⟩⟩⟩⟩⟩⟩⟩⟩⟩⟩⟩⟩⟩
theorem lw_p64 : lw_okq (⟨"JudoHall$Podium", "beat", "(III)Z"⟩, 4) := ⟨⟨by decide +kernel, by decide +kernel⟩, List.mem_of_getElem? (i := 303) (by decide +kernel), List.mem_of_getElem? (i := 1262) (by decide +kernel), List.mem_of_getElem? (i := 1263) (by decide +kernel)⟩
theorem lw_p65 : lw_okq (⟨"JudoHall$Podium", "hasMore", "(II)Z"⟩, 4) := ⟨⟨by decide +kernel, by decide +kernel⟩, List.mem_of_getElem? (i := 303) (by decide +kernel), List.mem_of_getElem? (i := 1271) (by decide +kernel), List.mem_of_getElem? (i := 1272) (by decide +kernel)⟩
theorem lw_p66 : lw_okq (⟨"JudoHall$Planner", "clear", "()V"⟩, 14) := ⟨⟨by decide +kernel, by decide +kernel⟩, List.mem_of_getElem? (i := 324) (by decide +kernel), List.mem_of_getElem? (i := 1287) (by decide +kernel), List.mem_of_getElem? (i := 1288) (by decide +kernel)⟩
theorem lw_p67 : lw_okq (⟨"JudoHall$Planner", "putOpenOnes", "()V"⟩, 14) := ⟨⟨by decide +kernel, by decide +kernel⟩, List.mem_of_getElem? (i := 324) (by decide +kernel), List.mem_of_getElem? (i := 1295) (by decide +kernel), List.mem_of_getElem? (i := 1296) (by decide +kernel)⟩
theorem lw_p68 : lw_okq (⟨"JudoHall$Planner", "put", "(IIII)V"⟩, 14) := ⟨⟨by decide +kernel, by decide +kernel⟩, List.mem_of_getElem? (i := 324) (by decide +kernel), List.mem_of_getElem? (i := 1300) (by decide +kernel), List.mem_of_getElem? (i := 1301) (by decide +kernel)⟩
theorem lw_p69 : lw_okq (⟨"JudoHall$Planner", "holdTill", "(II)V"⟩, 14) := ⟨⟨by decide +kernel, by decide +kernel⟩, List.mem_of_getElem? (i := 324) (by decide +kernel), List.mem_of_getElem? (i := 1306) (by decide +kernel), List.mem_of_getElem? (i := 1307) (by decide +kernel)⟩
theorem lw_p70 : lw_okq (⟨"JudoHall$Planner", "putInOrder", "()V"⟩, 14) := ⟨⟨by decide +kernel, by decide +kernel⟩, List.mem_of_getElem? (i := 324) (by decide +kernel), List.mem_of_getElem? (i := 1313) (by decide +kernel), List.mem_of_getElem? (i := 1314) (by decide +kernel)⟩
theorem lw_p71 : lw_okq (⟨"JudoHall$Planner", "putStageInOrder", "(II)V"⟩, 14) := ⟨⟨by decide +kernel, by decide +kernel⟩, List.mem_of_getElem? (i := 324) (by decide +kernel), List.mem_of_getElem? (i := 1317) (by decide +kernel), List.mem_of_getElem? (i := 1318) (by decide +kernel)⟩
theorem lw_p72 : lw_okq (⟨"JudoHall$Planner", "findEarliest", "(I)V"⟩, 14) := ⟨⟨by decide +kernel, by decide +kernel⟩, List.mem_of_getElem? (i := 324) (by decide +kernel), List.mem_of_getElem? (i := 1330) (by decide +kernel), List.mem_of_getElem? (i := 1331) (by decide +kernel)⟩
theorem lw_p73 : lw_okq (⟨"JudoHall$Planner", "freeFrom", "(I)I"⟩, 14) := ⟨⟨by decide +kernel, by decide +kernel⟩, List.mem_of_getElem? (i := 324) (by decide +kernel), List.mem_of_getElem? (i := 1334) (by decide +kernel), List.mem_of_getElem? (i := 1335) (by decide +kernel)⟩
theorem lw_p74 : lw_okq (⟨"JudoHall$Planner", "behindFight", "(II)I"⟩, 14) := ⟨⟨by decide +kernel, by decide +kernel⟩, List.mem_of_getElem? (i := 324) (by decide +kernel), List.mem_of_getElem? (i := 1342) (by decide +kernel), List.mem_of_getElem? (i := 1343) (by decide +kernel)⟩
theorem lw_p75 : lw_okq (⟨"JudoHall$Planner", "putFrom", "(II)V"⟩, 14) := ⟨⟨by decide +kernel, by decide +kernel⟩, List.mem_of_getElem? (i := 324) (by decide +kernel), List.mem_of_getElem? (i := 1347) (by decide +kernel), List.mem_of_getElem? (i := 1348) (by decide +kernel)⟩
theorem lw_p76 : lw_okq (⟨"JudoHall$Planner", "firstThatMay", "(I)I"⟩, 14) := ⟨⟨by decide +kernel, by decide +kernel⟩, List.mem_of_getElem? (i := 324) (by decide +kernel), List.mem_of_getElem? (i := 1351) (by decide +kernel), List.mem_of_getElem? (i := 1352) (by decide +kernel)⟩
theorem lw_p77 : lw_okq (⟨"JudoHall$Planner", "takeOutOfOrder", "(I)V"⟩, 14) := ⟨⟨by decide +kernel, by decide +kernel⟩, List.mem_of_getElem? (i := 324) (by decide +kernel), List.mem_of_getElem? (i := 1355) (by decide +kernel), List.mem_of_getElem? (i := 1356) (by decide +kernel)⟩
theorem lw_p78 : lw_okq (⟨"JudoHall$Planner", "soonestMat", "(I)I"⟩, 14) := ⟨⟨by decide +kernel, by decide +kernel⟩, List.mem_of_getElem? (i := 324) (by decide +kernel), List.mem_of_getElem? (i := 1359) (by decide +kernel), List.mem_of_getElem? (i := 1360) (by decide +kernel)⟩
theorem lw_p79 : lw_okq (⟨"JudoHall$Planner", "soonestFight", "()I"⟩, 14) := ⟨⟨by decide +kernel, by decide +kernel⟩, List.mem_of_getElem? (i := 324) (by decide +kernel), List.mem_of_getElem? (i := 1364) (by decide +kernel), List.mem_of_getElem? (i := 1365) (by decide +kernel)⟩
def lw_privs_5 : List (MethodName × Nat) := [(⟨"JudoHall$Podium", "beat", "(III)Z"⟩, 4), (⟨"JudoHall$Podium", "hasMore", "(II)Z"⟩, 4), (⟨"JudoHall$Planner", "clear", "()V"⟩, 14), (⟨"JudoHall$Planner", "putOpenOnes", "()V"⟩, 14), (⟨"JudoHall$Planner", "put", "(IIII)V"⟩, 14), (⟨"JudoHall$Planner", "holdTill", "(II)V"⟩, 14), (⟨"JudoHall$Planner", "putInOrder", "()V"⟩, 14), (⟨"JudoHall$Planner", "putStageInOrder", "(II)V"⟩, 14), (⟨"JudoHall$Planner", "findEarliest", "(I)V"⟩, 14), (⟨"JudoHall$Planner", "freeFrom", "(I)I"⟩, 14), (⟨"JudoHall$Planner", "behindFight", "(II)I"⟩, 14), (⟨"JudoHall$Planner", "putFrom", "(II)V"⟩, 14), (⟨"JudoHall$Planner", "firstThatMay", "(I)I"⟩, 14), (⟨"JudoHall$Planner", "takeOutOfOrder", "(I)V"⟩, 14), (⟨"JudoHall$Planner", "soonestMat", "(I)I"⟩, 14), (⟨"JudoHall$Planner", "soonestFight", "()I"⟩, 14)]
theorem lw_r5 : ∀ q ∈ lw_privs_5, lw_okq q := List.forall_mem_cons.mpr ⟨lw_p64, List.forall_mem_cons.mpr ⟨lw_p65, List.forall_mem_cons.mpr ⟨lw_p66, List.forall_mem_cons.mpr ⟨lw_p67, List.forall_mem_cons.mpr ⟨lw_p68, List.forall_mem_cons.mpr ⟨lw_p69, List.forall_mem_cons.mpr ⟨lw_p70, List.forall_mem_cons.mpr ⟨lw_p71, List.forall_mem_cons.mpr ⟨lw_p72, List.forall_mem_cons.mpr ⟨lw_p73, List.forall_mem_cons.mpr ⟨lw_p74, List.forall_mem_cons.mpr ⟨lw_p75, List.forall_mem_cons.mpr ⟨lw_p76, List.forall_mem_cons.mpr ⟨lw_p77, List.forall_mem_cons.mpr ⟨lw_p78, List.forall_mem_cons.mpr ⟨lw_p79, fun _ h => absurd h List.not_mem_nil⟩⟩⟩⟩⟩⟩⟩⟩⟩⟩⟩⟩⟩⟩⟩⟩
theorem lw_p80 : lw_okq (⟨"JudoHall$Planner", "keep", "()V"⟩, 14) := ⟨⟨by decide +kernel, by decide +kernel⟩, List.mem_of_getElem? (i := 324) (by decide +kernel), List.mem_of_getElem? (i := 1369) (by decide +kernel), List.mem_of_getElem? (i := 1370) (by decide +kernel)⟩
theorem lw_p81 : lw_okq (⟨"java/lang/Throwable", "fillInStackTrace", "(I)Ljava/lang/Throwable;"⟩, 6) := ⟨⟨by decide +kernel, by decide +kernel⟩, List.mem_of_getElem? (i := 1435) (by decide +kernel), List.mem_of_getElem? (i := 1433) (by decide +kernel), List.mem_of_getElem? (i := 1434) (by decide +kernel)⟩
theorem lw_p82 : lw_okq (⟨"JudoHallModel", "anew", "()V"⟩, 72) := ⟨⟨by decide +kernel, by decide +kernel⟩, List.mem_of_getElem? (i := 1395) (by decide +kernel), List.mem_of_getElem? (i := 1461) (by decide +kernel), List.mem_of_getElem? (i := 1462) (by decide +kernel)⟩
theorem lw_p83 : lw_okq (⟨"JudoHallModel", "does", "(IIII)I"⟩, 72) := ⟨⟨by decide +kernel, by decide +kernel⟩, List.mem_of_getElem? (i := 1395) (by decide +kernel), List.mem_of_getElem? (i := 1687) (by decide +kernel), List.mem_of_getElem? (i := 1688) (by decide +kernel)⟩
theorem lw_p84 : lw_okq (⟨"JudoHallModel", "takeLaws", "(II)I"⟩, 72) := ⟨⟨by decide +kernel, by decide +kernel⟩, List.mem_of_getElem? (i := 1395) (by decide +kernel), List.mem_of_getElem? (i := 1691) (by decide +kernel), List.mem_of_getElem? (i := 1692) (by decide +kernel)⟩
theorem lw_p85 : lw_okq (⟨"JudoHallModel", "readLaws", "()V"⟩, 72) := ⟨⟨by decide +kernel, by decide +kernel⟩, List.mem_of_getElem? (i := 1395) (by decide +kernel), List.mem_of_getElem? (i := 1695) (by decide +kernel), List.mem_of_getElem? (i := 1696) (by decide +kernel)⟩
theorem lw_p86 : lw_okq (⟨"JudoHallModel", "scan", "()V"⟩, 72) := ⟨⟨by decide +kernel, by decide +kernel⟩, List.mem_of_getElem? (i := 1395) (by decide +kernel), List.mem_of_getElem? (i := 1699) (by decide +kernel), List.mem_of_getElem? (i := 1700) (by decide +kernel)⟩
theorem lw_p87 : lw_okq (⟨"JudoHallModel", "byteAt", "(I)I"⟩, 72) := ⟨⟨by decide +kernel, by decide +kernel⟩, List.mem_of_getElem? (i := 1395) (by decide +kernel), List.mem_of_getElem? (i := 1703) (by decide +kernel), List.mem_of_getElem? (i := 1704) (by decide +kernel)⟩
theorem lw_p88 : lw_okq (⟨"JudoHallModel", "need", "(Ljava/lang/String;)V"⟩, 72) := ⟨⟨by decide +kernel, by decide +kernel⟩, List.mem_of_getElem? (i := 1395) (by decide +kernel), List.mem_of_getElem? (i := 1770) (by decide +kernel), List.mem_of_getElem? (i := 1771) (by decide +kernel)⟩
theorem lw_p89 : lw_okq (⟨"JudoHallModel", "is", "(Ljava/lang/String;)Z"⟩, 72) := ⟨⟨by decide +kernel, by decide +kernel⟩, List.mem_of_getElem? (i := 1395) (by decide +kernel), List.mem_of_getElem? (i := 1774) (by decide +kernel), List.mem_of_getElem? (i := 1775) (by decide +kernel)⟩
theorem lw_p90 : lw_okq (⟨"JudoHallModel", "isText", "(Ljava/lang/String;)Z"⟩, 72) := ⟨⟨by decide +kernel, by decide +kernel⟩, List.mem_of_getElem? (i := 1395) (by decide +kernel), List.mem_of_getElem? (i := 1778) (by decide +kernel), List.mem_of_getElem? (i := 1779) (by decide +kernel)⟩
theorem lw_p91 : lw_okq (⟨"JudoHallModel", "wrong", "(II)LJudoHallModel$Stop;"⟩, 72) := ⟨⟨by decide +kernel, by decide +kernel⟩, List.mem_of_getElem? (i := 1395) (by decide +kernel), List.mem_of_getElem? (i := 1784) (by decide +kernel), List.mem_of_getElem? (i := 1785) (by decide +kernel)⟩
theorem lw_p92 : lw_okq (⟨"JudoHallModel", "number", "()I"⟩, 72) := ⟨⟨by decide +kernel, by decide +kernel⟩, List.mem_of_getElem? (i := 1395) (by decide +kernel), List.mem_of_getElem? (i := 1788) (by decide +kernel), List.mem_of_getElem? (i := 1789) (by decide +kernel)⟩
theorem lw_p93 : lw_okq (⟨"JudoHallModel", "name", "()V"⟩, 72) := ⟨⟨by decide +kernel, by decide +kernel⟩, List.mem_of_getElem? (i := 1395) (by decide +kernel), List.mem_of_getElem? (i := 1795) (by decide +kernel), List.mem_of_getElem? (i := 1796) (by decide +kernel)⟩
theorem lw_p94 : lw_okq (⟨"JudoHallModel", "isQuoted", "()Z"⟩, 72) := ⟨⟨by decide +kernel, by decide +kernel⟩, List.mem_of_getElem? (i := 1395) (by decide +kernel), List.mem_of_getElem? (i := 1799) (by decide +kernel), List.mem_of_getElem? (i := 1800) (by decide +kernel)⟩
theorem lw_p95 : lw_okq (⟨"JudoHallModel", "findSign", "()I"⟩, 72) := ⟨⟨by decide +kernel, by decide +kernel⟩, List.mem_of_getElem? (i := 1395) (by decide +kernel), List.mem_of_getElem? (i := 1813) (by decide +kernel), List.mem_of_getElem? (i := 1814) (by decide +kernel)⟩
def lw_privs_6 : List (MethodName × Nat) := [(⟨"JudoHall$Planner", "keep", "()V"⟩, 14), (⟨"java/lang/Throwable", "fillInStackTrace", "(I)Ljava/lang/Throwable;"⟩, 6), (⟨"JudoHallModel", "anew", "()V"⟩, 72), (⟨"JudoHallModel", "does", "(IIII)I"⟩, 72), (⟨"JudoHallModel", "takeLaws", "(II)I"⟩, 72), (⟨"JudoHallModel", "readLaws", "()V"⟩, 72), (⟨"JudoHallModel", "scan", "()V"⟩, 72), (⟨"JudoHallModel", "byteAt", "(I)I"⟩, 72), (⟨"JudoHallModel", "need", "(Ljava/lang/String;)V"⟩, 72), (⟨"JudoHallModel", "is", "(Ljava/lang/String;)Z"⟩, 72), (⟨"JudoHallModel", "isText", "(Ljava/lang/String;)Z"⟩, 72), (⟨"JudoHallModel", "wrong", "(II)LJudoHallModel$Stop;"⟩, 72), (⟨"JudoHallModel", "number", "()I"⟩, 72), (⟨"JudoHallModel", "name", "()V"⟩, 72), (⟨"JudoHallModel", "isQuoted", "()Z"⟩, 72), (⟨"JudoHallModel", "findSign", "()I"⟩, 72)]
theorem lw_r6 : ∀ q ∈ lw_privs_6, lw_okq q := List.forall_mem_cons.mpr ⟨lw_p80, List.forall_mem_cons.mpr ⟨lw_p81, List.forall_mem_cons.mpr ⟨lw_p82, List.forall_mem_cons.mpr ⟨lw_p83, List.forall_mem_cons.mpr ⟨lw_p84, List.forall_mem_cons.mpr ⟨lw_p85, List.forall_mem_cons.mpr ⟨lw_p86, List.forall_mem_cons.mpr ⟨lw_p87, List.forall_mem_cons.mpr ⟨lw_p88, List.forall_mem_cons.mpr ⟨lw_p89, List.forall_mem_cons.mpr ⟨lw_p90, List.forall_mem_cons.mpr ⟨lw_p91, List.forall_mem_cons.mpr ⟨lw_p92, List.forall_mem_cons.mpr ⟨lw_p93, List.forall_mem_cons.mpr ⟨lw_p94, List.forall_mem_cons.mpr ⟨lw_p95, fun _ h => absurd h List.not_mem_nil⟩⟩⟩⟩⟩⟩⟩⟩⟩⟩⟩⟩⟩⟩⟩⟩
theorem lw_p96 : lw_okq (⟨"JudoHallModel", "readOr", "()V"⟩, 72) := ⟨⟨by decide +kernel, by decide +kernel⟩, List.mem_of_getElem? (i := 1395) (by decide +kernel), List.mem_of_getElem? (i := 1817) (by decide +kernel), List.mem_of_getElem? (i := 1818) (by decide +kernel)⟩
theorem lw_p97 : lw_okq (⟨"JudoHallModel", "readAnd", "()V"⟩, 72) := ⟨⟨by decide +kernel, by decide +kernel⟩, List.mem_of_getElem? (i := 1395) (by decide +kernel), List.mem_of_getElem? (i := 1821) (by decide +kernel), List.mem_of_getElem? (i := 1822) (by decide +kernel)⟩
theorem lw_p98 : lw_okq (⟨"JudoHallModel", "readNot", "()V"⟩, 72) := ⟨⟨by decide +kernel, by decide +kernel⟩, List.mem_of_getElem? (i := 1395) (by decide +kernel), List.mem_of_getElem? (i := 1825) (by decide +kernel), List.mem_of_getElem? (i := 1826) (by decide +kernel)⟩
theorem lw_p99 : lw_okq (⟨"JudoHallModel", "counts", "()V"⟩, 72) := ⟨⟨by decide +kernel, by decide +kernel⟩, List.mem_of_getElem? (i := 1395) (by decide +kernel), List.mem_of_getElem? (i := 1829) (by decide +kernel), List.mem_of_getElem? (i := 1830) (by decide +kernel)⟩
theorem lw_p100 : lw_okq (⟨"JudoHallModel", "opens", "()V"⟩, 72) := ⟨⟨by decide +kernel, by decide +kernel⟩, List.mem_of_getElem? (i := 1395) (by decide +kernel), List.mem_of_getElem? (i := 1833) (by decide +kernel), List.mem_of_getElem? (i := 1834) (by decide +kernel)⟩
theorem lw_p101 : lw_okq (⟨"JudoHallModel", "release", "(I)V"⟩, 72) := ⟨⟨by decide +kernel, by decide +kernel⟩, List.mem_of_getElem? (i := 1395) (by decide +kernel), List.mem_of_getElem? (i := 1837) (by decide +kernel), List.mem_of_getElem? (i := 1838) (by decide +kernel)⟩
theorem lw_p102 : lw_okq (⟨"JudoHallModel", "put", "(II)V"⟩, 72) := ⟨⟨by decide +kernel, by decide +kernel⟩, List.mem_of_getElem? (i := 1395) (by decide +kernel), List.mem_of_getElem? (i := 1841) (by decide +kernel), List.mem_of_getElem? (i := 1842) (by decide +kernel)⟩
theorem lw_p103 : lw_okq (⟨"JudoHallModel", "readSum", "()V"⟩, 72) := ⟨⟨by decide +kernel, by decide +kernel⟩, List.mem_of_getElem? (i := 1395) (by decide +kernel), List.mem_of_getElem? (i := 1847) (by decide +kernel), List.mem_of_getElem? (i := 1848) (by decide +kernel)⟩
theorem lw_p104 : lw_okq (⟨"JudoHallModel", "readTerm", "()V"⟩, 72) := ⟨⟨by decide +kernel, by decide +kernel⟩, List.mem_of_getElem? (i := 1395) (by decide +kernel), List.mem_of_getElem? (i := 1851) (by decide +kernel), List.mem_of_getElem? (i := 1852) (by decide +kernel)⟩
theorem lw_p105 : lw_okq (⟨"JudoHallModel", "hold", "()V"⟩, 72) := ⟨⟨by decide +kernel, by decide +kernel⟩, List.mem_of_getElem? (i := 1395) (by decide +kernel), List.mem_of_getElem? (i := 1857) (by decide +kernel), List.mem_of_getElem? (i := 1858) (by decide +kernel)⟩
theorem lw_p106 : lw_okq (⟨"JudoHallModel", "comes", "(II)I"⟩, 72) := ⟨⟨by decide +kernel, by decide +kernel⟩, List.mem_of_getElem? (i := 1395) (by decide +kernel), List.mem_of_getElem? (i := 1867) (by decide +kernel), List.mem_of_getElem? (i := 1868) (by decide +kernel)⟩
theorem lw_p107 : lw_okq (⟨"JudoHallModel", "draws", "(I)I"⟩, 72) := ⟨⟨by decide +kernel, by decide +kernel⟩, List.mem_of_getElem? (i := 1395) (by decide +kernel), List.mem_of_getElem? (i := 1874) (by decide +kernel), List.mem_of_getElem? (i := 1875) (by decide +kernel)⟩
theorem lw_p108 : lw_okq (⟨"JudoHallModel", "weighed", "(I)I"⟩, 72) := ⟨⟨by decide +kernel, by decide +kernel⟩, List.mem_of_getElem? (i := 1395) (by decide +kernel), List.mem_of_getElem? (i := 1878) (by decide +kernel), List.mem_of_getElem? (i := 1879) (by decide +kernel)⟩
theorem lw_p109 : lw_okq (⟨"JudoHallModel", "fights", "(I)I"⟩, 72) := ⟨⟨by decide +kernel, by decide +kernel⟩, List.mem_of_getElem? (i := 1395) (by decide +kernel), List.mem_of_getElem? (i := 1882) (by decide +kernel), List.mem_of_getElem? (i := 1883) (by decide +kernel)⟩
theorem lw_p110 : lw_okq (⟨"JudoHallModel", "rounds", "(I)I"⟩, 72) := ⟨⟨by decide +kernel, by decide +kernel⟩, List.mem_of_getElem? (i := 1395) (by decide +kernel), List.mem_of_getElem? (i := 1886) (by decide +kernel), List.mem_of_getElem? (i := 1887) (by decide +kernel)⟩
theorem lw_p111 : lw_okq (⟨"JudoHallModel", "halving", "(I)I"⟩, 72) := ⟨⟨by decide +kernel, by decide +kernel⟩, List.mem_of_getElem? (i := 1395) (by decide +kernel), List.mem_of_getElem? (i := 1890) (by decide +kernel), List.mem_of_getElem? (i := 1891) (by decide +kernel)⟩
def lw_privs_7 : List (MethodName × Nat) := [(⟨"JudoHallModel", "readOr", "()V"⟩, 72), (⟨"JudoHallModel", "readAnd", "()V"⟩, 72), (⟨"JudoHallModel", "readNot", "()V"⟩, 72), (⟨"JudoHallModel", "counts", "()V"⟩, 72), (⟨"JudoHallModel", "opens", "()V"⟩, 72), (⟨"JudoHallModel", "release", "(I)V"⟩, 72), (⟨"JudoHallModel", "put", "(II)V"⟩, 72), (⟨"JudoHallModel", "readSum", "()V"⟩, 72), (⟨"JudoHallModel", "readTerm", "()V"⟩, 72), (⟨"JudoHallModel", "hold", "()V"⟩, 72), (⟨"JudoHallModel", "comes", "(II)I"⟩, 72), (⟨"JudoHallModel", "draws", "(I)I"⟩, 72), (⟨"JudoHallModel", "weighed", "(I)I"⟩, 72), (⟨"JudoHallModel", "fights", "(I)I"⟩, 72), (⟨"JudoHallModel", "rounds", "(I)I"⟩, 72), (⟨"JudoHallModel", "halving", "(I)I"⟩, 72)]
theorem lw_r7 : ∀ q ∈ lw_privs_7, lw_okq q := List.forall_mem_cons.mpr ⟨lw_p96, List.forall_mem_cons.mpr ⟨lw_p97, List.forall_mem_cons.mpr ⟨lw_p98, List.forall_mem_cons.mpr ⟨lw_p99, List.forall_mem_cons.mpr ⟨lw_p100, List.forall_mem_cons.mpr ⟨lw_p101, List.forall_mem_cons.mpr ⟨lw_p102, List.forall_mem_cons.mpr ⟨lw_p103, List.forall_mem_cons.mpr ⟨lw_p104, List.forall_mem_cons.mpr ⟨lw_p105, List.forall_mem_cons.mpr ⟨lw_p106, List.forall_mem_cons.mpr ⟨lw_p107, List.forall_mem_cons.mpr ⟨lw_p108, List.forall_mem_cons.mpr ⟨lw_p109, List.forall_mem_cons.mpr ⟨lw_p110, List.forall_mem_cons.mpr ⟨lw_p111, fun _ h => absurd h List.not_mem_nil⟩⟩⟩⟩⟩⟩⟩⟩⟩⟩⟩⟩⟩⟩⟩⟩
theorem lw_p112 : lw_okq (⟨"JudoHallModel", "makeRow", "(I)V"⟩, 72) := ⟨⟨by decide +kernel, by decide +kernel⟩, List.mem_of_getElem? (i := 1395) (by decide +kernel), List.mem_of_getElem? (i := 1894) (by decide +kernel), List.mem_of_getElem? (i := 1895) (by decide +kernel)⟩
theorem lw_p113 : lw_okq (⟨"JudoHallModel", "settle", "(III)V"⟩, 72) := ⟨⟨by decide +kernel, by decide +kernel⟩, List.mem_of_getElem? (i := 1395) (by decide +kernel), List.mem_of_getElem? (i := 1898) (by decide +kernel), List.mem_of_getElem? (i := 1899) (by decide +kernel)⟩
theorem lw_p114 : lw_okq (⟨"JudoHallModel", "isOther", "(II)Z"⟩, 72) := ⟨⟨by decide +kernel, by decide +kernel⟩, List.mem_of_getElem? (i := 1395) (by decide +kernel), List.mem_of_getElem? (i := 1902) (by decide +kernel), List.mem_of_getElem? (i := 1903) (by decide +kernel)⟩
theorem lw_p115 : lw_okq (⟨"JudoHallModel", "bestPlace", "(III)I"⟩, 72) := ⟨⟨by decide +kernel, by decide +kernel⟩, List.mem_of_getElem? (i := 1395) (by decide +kernel), List.mem_of_getElem? (i := 1906) (by decide +kernel), List.mem_of_getElem? (i := 1907) (by decide +kernel)⟩
theorem lw_p116 : lw_okq (⟨"JudoHallModel", "begins", "(III)I"⟩, 72) := ⟨⟨by decide +kernel, by decide +kernel⟩, List.mem_of_getElem? (i := 1395) (by decide +kernel), List.mem_of_getElem? (i := 1911) (by decide +kernel), List.mem_of_getElem? (i := 1912) (by decide +kernel)⟩
theorem lw_p117 : lw_okq (⟨"JudoHallModel", "sideOf", "(III)I"⟩, 72) := ⟨⟨by decide +kernel, by decide +kernel⟩, List.mem_of_getElem? (i := 1395) (by decide +kernel), List.mem_of_getElem? (i := 1915) (by decide +kernel), List.mem_of_getElem? (i := 1916) (by decide +kernel)⟩
theorem lw_p118 : lw_okq (⟨"JudoHallModel", "pair", "(III)I"⟩, 72) := ⟨⟨by decide +kernel, by decide +kernel⟩, List.mem_of_getElem? (i := 1395) (by decide +kernel), List.mem_of_getElem? (i := 1919) (by decide +kernel), List.mem_of_getElem? (i := 1920) (by decide +kernel)⟩
theorem lw_p119 : lw_okq (⟨"JudoHallModel", "isSecond", "(II)Z"⟩, 72) := ⟨⟨by decide +kernel, by decide +kernel⟩, List.mem_of_getElem? (i := 1395) (by decide +kernel), List.mem_of_getElem? (i := 1923) (by decide +kernel), List.mem_of_getElem? (i := 1924) (by decide +kernel)⟩
theorem lw_p120 : lw_okq (⟨"JudoHallModel", "halfOf", "(II)I"⟩, 72) := ⟨⟨by decide +kernel, by decide +kernel⟩, List.mem_of_getElem? (i := 1395) (by decide +kernel), List.mem_of_getElem? (i := 1927) (by decide +kernel), List.mem_of_getElem? (i := 1928) (by decide +kernel)⟩
theorem lw_p121 : lw_okq (⟨"JudoHallModel", "stepOf", "(II)I"⟩, 72) := ⟨⟨by decide +kernel, by decide +kernel⟩, List.mem_of_getElem? (i := 1395) (by decide +kernel), List.mem_of_getElem? (i := 1931) (by decide +kernel), List.mem_of_getElem? (i := 1932) (by decide +kernel)⟩
theorem lw_p122 : lw_okq (⟨"JudoHallModel", "second", "(IIII)I"⟩, 72) := ⟨⟨by decide +kernel, by decide +kernel⟩, List.mem_of_getElem? (i := 1395) (by decide +kernel), List.mem_of_getElem? (i := 1935) (by decide +kernel), List.mem_of_getElem? (i := 1936) (by decide +kernel)⟩
theorem lw_p123 : lw_okq (⟨"JudoHallModel", "loserTo", "(III)I"⟩, 72) := ⟨⟨by decide +kernel, by decide +kernel⟩, List.mem_of_getElem? (i := 1395) (by decide +kernel), List.mem_of_getElem? (i := 1939) (by decide +kernel), List.mem_of_getElem? (i := 1940) (by decide +kernel)⟩
theorem lw_p124 : lw_okq (⟨"JudoHallModel", "base", "(II)I"⟩, 72) := ⟨⟨by decide +kernel, by decide +kernel⟩, List.mem_of_getElem? (i := 1395) (by decide +kernel), List.mem_of_getElem? (i := 1943) (by decide +kernel), List.mem_of_getElem? (i := 1944) (by decide +kernel)⟩
theorem lw_p125 : lw_okq (⟨"JudoHallModel", "winnerOf", "(II)I"⟩, 72) := ⟨⟨by decide +kernel, by decide +kernel⟩, List.mem_of_getElem? (i := 1395) (by decide +kernel), List.mem_of_getElem? (i := 1947) (by decide +kernel), List.mem_of_getElem? (i := 1948) (by decide +kernel)⟩
theorem lw_p126 : lw_okq (⟨"JudoHallModel", "roundOf", "(II)I"⟩, 72) := ⟨⟨by decide +kernel, by decide +kernel⟩, List.mem_of_getElem? (i := 1395) (by decide +kernel), List.mem_of_getElem? (i := 1951) (by decide +kernel), List.mem_of_getElem? (i := 1952) (by decide +kernel)⟩
theorem lw_p127 : lw_okq (⟨"JudoHallModel", "goesOver", "(I)V"⟩, 72) := ⟨⟨by decide +kernel, by decide +kernel⟩, List.mem_of_getElem? (i := 1395) (by decide +kernel), List.mem_of_getElem? (i := 1955) (by decide +kernel), List.mem_of_getElem? (i := 1956) (by decide +kernel)⟩
def lw_privs_8 : List (MethodName × Nat) := [(⟨"JudoHallModel", "makeRow", "(I)V"⟩, 72), (⟨"JudoHallModel", "settle", "(III)V"⟩, 72), (⟨"JudoHallModel", "isOther", "(II)Z"⟩, 72), (⟨"JudoHallModel", "bestPlace", "(III)I"⟩, 72), (⟨"JudoHallModel", "begins", "(III)I"⟩, 72), (⟨"JudoHallModel", "sideOf", "(III)I"⟩, 72), (⟨"JudoHallModel", "pair", "(III)I"⟩, 72), (⟨"JudoHallModel", "isSecond", "(II)Z"⟩, 72), (⟨"JudoHallModel", "halfOf", "(II)I"⟩, 72), (⟨"JudoHallModel", "stepOf", "(II)I"⟩, 72), (⟨"JudoHallModel", "second", "(IIII)I"⟩, 72), (⟨"JudoHallModel", "loserTo", "(III)I"⟩, 72), (⟨"JudoHallModel", "base", "(II)I"⟩, 72), (⟨"JudoHallModel", "winnerOf", "(II)I"⟩, 72), (⟨"JudoHallModel", "roundOf", "(II)I"⟩, 72), (⟨"JudoHallModel", "goesOver", "(I)V"⟩, 72)]
theorem lw_r8 : ∀ q ∈ lw_privs_8, lw_okq q := List.forall_mem_cons.mpr ⟨lw_p112, List.forall_mem_cons.mpr ⟨lw_p113, List.forall_mem_cons.mpr ⟨lw_p114, List.forall_mem_cons.mpr ⟨lw_p115, List.forall_mem_cons.mpr ⟨lw_p116, List.forall_mem_cons.mpr ⟨lw_p117, List.forall_mem_cons.mpr ⟨lw_p118, List.forall_mem_cons.mpr ⟨lw_p119, List.forall_mem_cons.mpr ⟨lw_p120, List.forall_mem_cons.mpr ⟨lw_p121, List.forall_mem_cons.mpr ⟨lw_p122, List.forall_mem_cons.mpr ⟨lw_p123, List.forall_mem_cons.mpr ⟨lw_p124, List.forall_mem_cons.mpr ⟨lw_p125, List.forall_mem_cons.mpr ⟨lw_p126, List.forall_mem_cons.mpr ⟨lw_p127, fun _ h => absurd h List.not_mem_nil⟩⟩⟩⟩⟩⟩⟩⟩⟩⟩⟩⟩⟩⟩⟩⟩
theorem lw_p128 : lw_okq (⟨"JudoHallModel", "asked", "(IZ)I"⟩, 72) := ⟨⟨by decide +kernel, by decide +kernel⟩, List.mem_of_getElem? (i := 1395) (by decide +kernel), List.mem_of_getElem? (i := 1959) (by decide +kernel), List.mem_of_getElem? (i := 1960) (by decide +kernel)⟩
theorem lw_p129 : lw_okq (⟨"JudoHallModel", "holds", "(IIIZ)Z"⟩, 72) := ⟨⟨by decide +kernel, by decide +kernel⟩, List.mem_of_getElem? (i := 1395) (by decide +kernel), List.mem_of_getElem? (i := 1963) (by decide +kernel), List.mem_of_getElem? (i := 1964) (by decide +kernel)⟩
theorem lw_p130 : lw_okq (⟨"JudoHallModel", "termOf", "(IIIZ)I"⟩, 72) := ⟨⟨by decide +kernel, by decide +kernel⟩, List.mem_of_getElem? (i := 1395) (by decide +kernel), List.mem_of_getElem? (i := 1967) (by decide +kernel), List.mem_of_getElem? (i := 1968) (by decide +kernel)⟩
theorem lw_p131 : lw_okq (⟨"JudoHallModel", "ends", "(IIII)I"⟩, 72) := ⟨⟨by decide +kernel, by decide +kernel⟩, List.mem_of_getElem? (i := 1395) (by decide +kernel), List.mem_of_getElem? (i := 1974) (by decide +kernel), List.mem_of_getElem? (i := 1975) (by decide +kernel)⟩
theorem lw_p132 : lw_okq (⟨"JudoHallModel", "passes", "(II)I"⟩, 72) := ⟨⟨by decide +kernel, by decide +kernel⟩, List.mem_of_getElem? (i := 1395) (by decide +kernel), List.mem_of_getElem? (i := 1978) (by decide +kernel), List.mem_of_getElem? (i := 1979) (by decide +kernel)⟩
theorem lw_p133 : lw_okq (⟨"JudoHallModel", "struck", "(II)I"⟩, 72) := ⟨⟨by decide +kernel, by decide +kernel⟩, List.mem_of_getElem? (i := 1395) (by decide +kernel), List.mem_of_getElem? (i := 1982) (by decide +kernel), List.mem_of_getElem? (i := 1983) (by decide +kernel)⟩
theorem lw_p134 : lw_okq (⟨"JudoHallModel", "matOf", "(II)I"⟩, 72) := ⟨⟨by decide +kernel, by decide +kernel⟩, List.mem_of_getElem? (i := 1395) (by decide +kernel), List.mem_of_getElem? (i := 1986) (by decide +kernel), List.mem_of_getElem? (i := 1987) (by decide +kernel)⟩
theorem lw_p135 : lw_okq (⟨"JudoHallModel", "lawsAgain", "()V"⟩, 72) := ⟨⟨by decide +kernel, by decide +kernel⟩, List.mem_of_getElem? (i := 1395) (by decide +kernel), List.mem_of_getElem? (i := 1994) (by decide +kernel), List.mem_of_getElem? (i := 1995) (by decide +kernel)⟩
theorem lw_p136 : lw_okq (⟨"JudoHallModel", "act", "(IIII)I"⟩, 72) := ⟨⟨by decide +kernel, by decide +kernel⟩, List.mem_of_getElem? (i := 1395) (by decide +kernel), List.mem_of_getElem? (i := 1998) (by decide +kernel), List.mem_of_getElem? (i := 1999) (by decide +kernel)⟩
theorem lw_p137 : lw_okq (⟨"JudoHallModel", "lay", "(I)V"⟩, 72) := ⟨⟨by decide +kernel, by decide +kernel⟩, List.mem_of_getElem? (i := 1395) (by decide +kernel), List.mem_of_getElem? (i := 2006) (by decide +kernel), List.mem_of_getElem? (i := 2007) (by decide +kernel)⟩
theorem lw_p138 : lw_okq (⟨"JudoHallModel", "isFighter", "(I)Z"⟩, 72) := ⟨⟨by decide +kernel, by decide +kernel⟩, List.mem_of_getElem? (i := 1395) (by decide +kernel), List.mem_of_getElem? (i := 2036) (by decide +kernel), List.mem_of_getElem? (i := 2037) (by decide +kernel)⟩
theorem lw_p139 : lw_okq (⟨"JudoHallModel", "isWalk", "(II)Z"⟩, 72) := ⟨⟨by decide +kernel, by decide +kernel⟩, List.mem_of_getElem? (i := 1395) (by decide +kernel), List.mem_of_getElem? (i := 2061) (by decide +kernel), List.mem_of_getElem? (i := 2062) (by decide +kernel)⟩
theorem lw_p140 : lw_okq (⟨"JudoHallModel", "isFight", "(II)Z"⟩, 72) := ⟨⟨by decide +kernel, by decide +kernel⟩, List.mem_of_getElem? (i := 1395) (by decide +kernel), List.mem_of_getElem? (i := 2069) (by decide +kernel), List.mem_of_getElem? (i := 2070) (by decide +kernel)⟩
theorem lw_p141 : lw_okq (⟨"JudoHallModel", "isReady", "(II)Z"⟩, 72) := ⟨⟨by decide +kernel, by decide +kernel⟩, List.mem_of_getElem? (i := 1395) (by decide +kernel), List.mem_of_getElem? (i := 2074) (by decide +kernel), List.mem_of_getElem? (i := 2075) (by decide +kernel)⟩
theorem lw_p142 : lw_okq (⟨"JudoHallModel", "rests", "(I)Z"⟩, 72) := ⟨⟨by decide +kernel, by decide +kernel⟩, List.mem_of_getElem? (i := 1395) (by decide +kernel), List.mem_of_getElem? (i := 2095) (by decide +kernel), List.mem_of_getElem? (i := 2096) (by decide +kernel)⟩
theorem lw_p143 : lw_okq (⟨"JudoHallModel", "ordered", "(II)I"⟩, 72) := ⟨⟨by decide +kernel, by decide +kernel⟩, List.mem_of_getElem? (i := 1395) (by decide +kernel), List.mem_of_getElem? (i := 2129) (by decide +kernel), List.mem_of_getElem? (i := 2130) (by decide +kernel)⟩
def lw_privs_9 : List (MethodName × Nat) := [(⟨"JudoHallModel", "asked", "(IZ)I"⟩, 72), (⟨"JudoHallModel", "holds", "(IIIZ)Z"⟩, 72), (⟨"JudoHallModel", "termOf", "(IIIZ)I"⟩, 72), (⟨"JudoHallModel", "ends", "(IIII)I"⟩, 72), (⟨"JudoHallModel", "passes", "(II)I"⟩, 72), (⟨"JudoHallModel", "struck", "(II)I"⟩, 72), (⟨"JudoHallModel", "matOf", "(II)I"⟩, 72), (⟨"JudoHallModel", "lawsAgain", "()V"⟩, 72), (⟨"JudoHallModel", "act", "(IIII)I"⟩, 72), (⟨"JudoHallModel", "lay", "(I)V"⟩, 72), (⟨"JudoHallModel", "isFighter", "(I)Z"⟩, 72), (⟨"JudoHallModel", "isWalk", "(II)Z"⟩, 72), (⟨"JudoHallModel", "isFight", "(II)Z"⟩, 72), (⟨"JudoHallModel", "isReady", "(II)Z"⟩, 72), (⟨"JudoHallModel", "rests", "(I)Z"⟩, 72), (⟨"JudoHallModel", "ordered", "(II)I"⟩, 72)]
theorem lw_r9 : ∀ q ∈ lw_privs_9, lw_okq q := List.forall_mem_cons.mpr ⟨lw_p128, List.forall_mem_cons.mpr ⟨lw_p129, List.forall_mem_cons.mpr ⟨lw_p130, List.forall_mem_cons.mpr ⟨lw_p131, List.forall_mem_cons.mpr ⟨lw_p132, List.forall_mem_cons.mpr ⟨lw_p133, List.forall_mem_cons.mpr ⟨lw_p134, List.forall_mem_cons.mpr ⟨lw_p135, List.forall_mem_cons.mpr ⟨lw_p136, List.forall_mem_cons.mpr ⟨lw_p137, List.forall_mem_cons.mpr ⟨lw_p138, List.forall_mem_cons.mpr ⟨lw_p139, List.forall_mem_cons.mpr ⟨lw_p140, List.forall_mem_cons.mpr ⟨lw_p141, List.forall_mem_cons.mpr ⟨lw_p142, List.forall_mem_cons.mpr ⟨lw_p143, fun _ h => absurd h List.not_mem_nil⟩⟩⟩⟩⟩⟩⟩⟩⟩⟩⟩⟩⟩⟩⟩⟩
theorem lw_p144 : lw_okq (⟨"JudoHallModel", "isAhead", "(III)Z"⟩, 72) := ⟨⟨by decide +kernel, by decide +kernel⟩, List.mem_of_getElem? (i := 1395) (by decide +kernel), List.mem_of_getElem? (i := 2133) (by decide +kernel), List.mem_of_getElem? (i := 2134) (by decide +kernel)⟩
theorem lw_p145 : lw_okq (⟨"JudoHallModel", "won", "(II)I"⟩, 72) := ⟨⟨by decide +kernel, by decide +kernel⟩, List.mem_of_getElem? (i := 1395) (by decide +kernel), List.mem_of_getElem? (i := 2137) (by decide +kernel), List.mem_of_getElem? (i := 2138) (by decide +kernel)⟩
theorem lw_p146 : lw_okq (⟨"JudoHallModel", "sum", "(II)I"⟩, 72) := ⟨⟨by decide +kernel, by decide +kernel⟩, List.mem_of_getElem? (i := 1395) (by decide +kernel), List.mem_of_getElem? (i := 2141) (by decide +kernel), List.mem_of_getElem? (i := 2142) (by decide +kernel)⟩
theorem lw_p147 : lw_okq (⟨"JudoHallModel", "alike", "(II)I"⟩, 72) := ⟨⟨by decide +kernel, by decide +kernel⟩, List.mem_of_getElem? (i := 1395) (by decide +kernel), List.mem_of_getElem? (i := 2145) (by decide +kernel), List.mem_of_getElem? (i := 2146) (by decide +kernel)⟩
theorem lw_p148 : lw_okq (⟨"JudoHallModel", "finalOf", "(I)I"⟩, 72) := ⟨⟨by decide +kernel, by decide +kernel⟩, List.mem_of_getElem? (i := 1395) (by decide +kernel), List.mem_of_getElem? (i := 2149) (by decide +kernel), List.mem_of_getElem? (i := 2150) (by decide +kernel)⟩
theorem lw_p149 : lw_okq (⟨"JudoHallModel", "tires", "(II)V"⟩, 72) := ⟨⟨by decide +kernel, by decide +kernel⟩, List.mem_of_getElem? (i := 1395) (by decide +kernel), List.mem_of_getElem? (i := 2159) (by decide +kernel), List.mem_of_getElem? (i := 2160) (by decide +kernel)⟩
theorem lw_p150 : lw_okq (⟨"JudoHallModel", "stage", "(I)I"⟩, 72) := ⟨⟨by decide +kernel, by decide +kernel⟩, List.mem_of_getElem? (i := 1395) (by decide +kernel), List.mem_of_getElem? (i := 2163) (by decide +kernel), List.mem_of_getElem? (i := 2164) (by decide +kernel)⟩
theorem lw_p151 : lw_okq (⟨"JudoHallModel", "mayBegin", "(III)Z"⟩, 72) := ⟨⟨by decide +kernel, by decide +kernel⟩, List.mem_of_getElem? (i := 1395) (by decide +kernel), List.mem_of_getElem? (i := 2167) (by decide +kernel), List.mem_of_getElem? (i := 2168) (by decide +kernel)⟩
theorem lw_p152 : lw_okq (⟨"JudoHallModel", "isOver", "(IIII)Z"⟩, 72) := ⟨⟨by decide +kernel, by decide +kernel⟩, List.mem_of_getElem? (i := 1395) (by decide +kernel), List.mem_of_getElem? (i := 2171) (by decide +kernel), List.mem_of_getElem? (i := 2172) (by decide +kernel)⟩
def lw_privs_10 : List (MethodName × Nat) := [(⟨"JudoHallModel", "isAhead", "(III)Z"⟩, 72), (⟨"JudoHallModel", "won", "(II)I"⟩, 72), (⟨"JudoHallModel", "sum", "(II)I"⟩, 72), (⟨"JudoHallModel", "alike", "(II)I"⟩, 72), (⟨"JudoHallModel", "finalOf", "(I)I"⟩, 72), (⟨"JudoHallModel", "tires", "(II)V"⟩, 72), (⟨"JudoHallModel", "stage", "(I)I"⟩, 72), (⟨"JudoHallModel", "mayBegin", "(III)Z"⟩, 72), (⟨"JudoHallModel", "isOver", "(IIII)Z"⟩, 72)]
theorem lw_r10 : ∀ q ∈ lw_privs_10, lw_okq q := List.forall_mem_cons.mpr ⟨lw_p144, List.forall_mem_cons.mpr ⟨lw_p145, List.forall_mem_cons.mpr ⟨lw_p146, List.forall_mem_cons.mpr ⟨lw_p147, List.forall_mem_cons.mpr ⟨lw_p148, List.forall_mem_cons.mpr ⟨lw_p149, List.forall_mem_cons.mpr ⟨lw_p150, List.forall_mem_cons.mpr ⟨lw_p151, List.forall_mem_cons.mpr ⟨lw_p152, fun _ h => absurd h List.not_mem_nil⟩⟩⟩⟩⟩⟩⟩⟩⟩
def lw_privs : List (MethodName × Nat) := lw_privs_1 ++ (lw_privs_2 ++ (lw_privs_3 ++ (lw_privs_4 ++ (lw_privs_5 ++ (lw_privs_6 ++ (lw_privs_7 ++ (lw_privs_8 ++ (lw_privs_9 ++ (lw_privs_10)))))))))
def lw_tbl : List Cond := k2_sels lw_privs ++ tables_1
theorem lw_privs_ok : ∀ q ∈ lw_privs, lw_okq q := by
  show ∀ q ∈ lw_privs_1 ++ (lw_privs_2 ++ (lw_privs_3 ++ (lw_privs_4 ++ (lw_privs_5 ++ (lw_privs_6 ++ (lw_privs_7 ++ (lw_privs_8 ++ (lw_privs_9 ++ (lw_privs_10))))))))), lw_okq q
  exact List.forall_mem_append.mpr ⟨lw_r1, List.forall_mem_append.mpr ⟨lw_r2, List.forall_mem_append.mpr ⟨lw_r3, List.forall_mem_append.mpr ⟨lw_r4, List.forall_mem_append.mpr ⟨lw_r5, List.forall_mem_append.mpr ⟨lw_r6, List.forall_mem_append.mpr ⟨lw_r7, List.forall_mem_append.mpr ⟨lw_r8, List.forall_mem_append.mpr ⟨lw_r9, lw_r10⟩⟩⟩⟩⟩⟩⟩⟩⟩
-- ===== end of PART A; then your names; then what follows =====
end
section
def lw_c0 : List Cond := k2_sels lw_privs
def lw_t2 : List (List Cond) := [lw_c0, tables_1_1, tables_1_2, tables_1_3, tables_1_4, tables_1_5, tables_1_6, tables_1_7, tables_1_8, tables_1_9, tables_1_10]
theorem t2_sub : ∀ l ∈ lw_t2, ∀ w ∈ l, w ∈ lw_tbl := List.forall_mem_cons.mpr ⟨fun w hw => List.mem_append_left _ hw, List.forall_mem_cons.mpr ⟨fun w hw => List.mem_append_right _ (List.mem_append_left _ hw), List.forall_mem_cons.mpr ⟨fun w hw => List.mem_append_right _ (List.mem_append_right _ (List.mem_append_left _ hw)), List.forall_mem_cons.mpr ⟨fun w hw => List.mem_append_right _ (List.mem_append_right _ (List.mem_append_right _ (List.mem_append_left _ hw))), List.forall_mem_cons.mpr ⟨fun w hw => List.mem_append_right _ (List.mem_append_right _ (List.mem_append_right _ (List.mem_append_right _ (List.mem_append_left _ hw)))), List.forall_mem_cons.mpr ⟨fun w hw => List.mem_append_right _ (List.mem_append_right _ (List.mem_append_right _ (List.mem_append_right _ (List.mem_append_right _ (List.mem_append_left _ hw))))), List.forall_mem_cons.mpr ⟨fun w hw => List.mem_append_right _ (List.mem_append_right _ (List.mem_append_right _ (List.mem_append_right _ (List.mem_append_right _ (List.mem_append_right _ (List.mem_append_left _ hw)))))), List.forall_mem_cons.mpr ⟨fun w hw => List.mem_append_right _ (List.mem_append_right _ (List.mem_append_right _ (List.mem_append_right _ (List.mem_append_right _ (List.mem_append_right _ (List.mem_append_right _ (List.mem_append_left _ hw))))))), List.forall_mem_cons.mpr ⟨fun w hw => List.mem_append_right _ (List.mem_append_right _ (List.mem_append_right _ (List.mem_append_right _ (List.mem_append_right _ (List.mem_append_right _ (List.mem_append_right _ (List.mem_append_right _ (List.mem_append_left _ hw)))))))), List.forall_mem_cons.mpr ⟨fun w hw => List.mem_append_right _ (List.mem_append_right _ (List.mem_append_right _ (List.mem_append_right _ (List.mem_append_right _ (List.mem_append_right _ (List.mem_append_right _ (List.mem_append_right _ (List.mem_append_right _ (List.mem_append_left _ hw))))))))), List.forall_mem_cons.mpr ⟨fun w hw => List.mem_append_right _ (List.mem_append_right _ (List.mem_append_right _ (List.mem_append_right _ (List.mem_append_right _ (List.mem_append_right _ (List.mem_append_right _ (List.mem_append_right _ (List.mem_append_right _ (List.mem_append_right _ (hw)))))))))), (fun _ h => absurd h List.not_mem_nil)⟩⟩⟩⟩⟩⟩⟩⟩⟩⟩⟩
theorem t2_at {i j : Nat} {w : Cond} (h : (lw_t2[i]?).bind (fun l => l[j]?) = some w) : w ∈ lw_tbl := by
  cases e : lw_t2[i]? with
  | none => rw [e] at h; cases h
  | some l => rw [e] at h; exact t2_sub l (List.mem_of_getElem? e) w (List.mem_of_getElem? h)
theorem inT2 (ws : List Cond) (ps : List (Nat × Nat)) (hp : ws = ps.filterMap (fun q => (lw_t2[q.1]?).bind (fun l => l[q.2]?))) : ∀ w ∈ ws, w ∈ lw_tbl := by
  intro w hw
  rw [hp] at hw
  obtain ⟨q, _, h⟩ := List.mem_filterMap.mp hw
  exact t2_at h
end
section
/-! ===== BEGIN words of one list among another's, by their places ===== -/
/-! ===== END ===== -/
/-! ===== BEGIN printed: names, fields, word lists, decode rows ===== -/
def RX0 : String := "JudoHall$Board"
def TX0 : u_T := fun k => match k with
  | 0 => ("JudoHall$Board", "book", "LJudoHall$Book;", true)
  | 1 => ("JudoHall$Board", "white", "LJudoHall$Row;", true)
  | 2 => ("JudoHall$Board", "blue", "LJudoHall$Row;", true)
  | 3 => ("JudoHall$Board", "winner", "LJudoHall$Row;", true)
  | 4 => ("JudoHall$Board", "state", "LJudoHall$Row;", true)
  | _ => ("JudoHall$Board", "lost", "LJudoHall$Row;", true)
def tyX0 : Nat → FieldType := fun k => match k with
  | 0 => .object "JudoHall$Book"
  | 1 => .object "JudoHall$Row"
  | 2 => .object "JudoHall$Row"
  | 3 => .object "JudoHall$Row"
  | 4 => .object "JudoHall$Row"
  | _ => .object "JudoHall$Row"
abbrev wsX00 : List Cond := u_ws RX0 TX0 6
theorem nmX0 : ∀ a, a < 6 → ∀ b, b < 6 → a ≠ b → (TX0 a).2.1 ≠ (TX0 b).2.1 := by decide +kernel
theorem tyX0_ok : ∀ k, k < 6 → parseFieldDescriptor (TX0 k).2.2.1 = some (tyX0 k) := by decide +kernel
abbrev cX0_init : ByteArray := prog_2_method_1_code
def yX0_init : MethodName := ⟨RX0, "<init>", "(LJudoHall$Book;)V"⟩
abbrev cX0_slot : ByteArray := prog_2_method_2_code
def yX0_slot : MethodName := ⟨RX0, "slot", "(II)I"⟩
abbrev cX0_kindOf : ByteArray := prog_2_method_3_code
def yX0_kindOf : MethodName := ⟨RX0, "kindOf", "(I)I"⟩
abbrev cX0_sizeOf : ByteArray := prog_2_method_4_code
def yX0_sizeOf : MethodName := ⟨RX0, "sizeOf", "(I)I"⟩
abbrev cX0_isDrawn : ByteArray := prog_2_method_5_code
def yX0_isDrawn : MethodName := ⟨RX0, "isDrawn", "(I)Z"⟩
abbrev cX0_onPlace : ByteArray := prog_2_method_6_code
def yX0_onPlace : MethodName := ⟨RX0, "onPlace", "(II)I"⟩
abbrev cX0_fightsOf : ByteArray := prog_2_method_7_code
def yX0_fightsOf : MethodName := ⟨RX0, "fightsOf", "(I)I"⟩
abbrev cX0_stepsOf : ByteArray := prog_2_method_8_code
def yX0_stepsOf : MethodName := ⟨RX0, "stepsOf", "(I)I"⟩
abbrev cX0_has : ByteArray := prog_2_method_9_code
def yX0_has : MethodName := ⟨RX0, "has", "(II)Z"⟩
abbrev cX0_whiteOf : ByteArray := prog_2_method_10_code
def yX0_whiteOf : MethodName := ⟨RX0, "whiteOf", "(II)I"⟩
abbrev cX0_blueOf : ByteArray := prog_2_method_11_code
def yX0_blueOf : MethodName := ⟨RX0, "blueOf", "(II)I"⟩
abbrev cX0_winnerOf : ByteArray := prog_2_method_12_code
def yX0_winnerOf : MethodName := ⟨RX0, "winnerOf", "(II)I"⟩
abbrev cX0_stateOf : ByteArray := prog_2_method_13_code
def yX0_stateOf : MethodName := ⟨RX0, "stateOf", "(II)I"⟩
abbrev cX0_loserOf : ByteArray := prog_2_method_14_code
def yX0_loserOf : MethodName := ⟨RX0, "loserOf", "(II)I"⟩
abbrev cX0_howMany : ByteArray := prog_2_method_15_code
def yX0_howMany : MethodName := ⟨RX0, "howMany", "(II)I"⟩
abbrev cX0_settle : ByteArray := prog_2_method_16_code
def yX0_settle : MethodName := ⟨RX0, "settle", "(I)V"⟩
abbrev cX0_settlePool : ByteArray := prog_2_method_17_code
def yX0_settlePool : MethodName := ⟨RX0, "settlePool", "(II)V"⟩
abbrev cX0_settleTree : ByteArray := prog_2_method_18_code
def yX0_settleTree : MethodName := ⟨RX0, "settleTree", "(II)V"⟩
abbrev cX0_lowerBelow : ByteArray := prog_2_method_19_code
def yX0_lowerBelow : MethodName := ⟨RX0, "lowerBelow", "(II)I"⟩
abbrev cX0_settleLives : ByteArray := prog_2_method_20_code
def yX0_settleLives : MethodName := ⟨RX0, "settleLives", "(III)V"⟩
abbrev cX0_findLosersTo : ByteArray := prog_2_method_21_code
def yX0_findLosersTo : MethodName := ⟨RX0, "findLosersTo", "(IIII)V"⟩
abbrev cX0_settleWalk : ByteArray := prog_2_method_22_code
def yX0_settleWalk : MethodName := ⟨RX0, "settleWalk", "(IIII)V"⟩
abbrev cX0_settleFight : ByteArray := prog_2_method_23_code
def yX0_settleFight : MethodName := ⟨RX0, "settleFight", "(IIII)V"⟩
abbrev cX0_firstStale : ByteArray := prog_2_method_24_code
def yX0_firstStale : MethodName := ⟨RX0, "firstStale", "(I)I"⟩
abbrev cX0_stageOf : ByteArray := prog_2_method_25_code
def yX0_stageOf : MethodName := ⟨RX0, "stageOf", "(II)I"⟩
abbrev cX0_stepOf : ByteArray := prog_2_method_26_code
def yX0_stepOf : MethodName := ⟨RX0, "stepOf", "(II)I"⟩
abbrev cX0_aheadOf : ByteArray := prog_2_method_27_code
def yX0_aheadOf : MethodName := ⟨RX0, "aheadOf", "(III)I"⟩
def RX1 : String := "JudoHall$Book"
def TX1 : u_T := fun k => match k with
  | 0 => ("JudoHall$Book", "cells", "[I", true)
  | 1 => ("JudoHall$Book", "changed", "LJudoHall$Row;", true)
  | 2 => ("JudoHall$Book", "before", "LJudoHall$Row;", true)
  | 3 => ("JudoHall$Book", "starts", "LJudoHall$Row;", true)
  | 4 => ("JudoHall$Book", "changes", "I", false)
  | _ => ("JudoHall$Book", "entries", "I", false)
def tyX1 : Nat → FieldType := fun k => match k with
  | 0 => .array .int
  | 1 => .object "JudoHall$Row"
  | 2 => .object "JudoHall$Row"
  | 3 => .object "JudoHall$Row"
  | 4 => .int
  | _ => .int
abbrev wsX10 : List Cond := u_ws RX1 TX1 6
theorem nmX1 : ∀ a, a < 6 → ∀ b, b < 6 → a ≠ b → (TX1 a).2.1 ≠ (TX1 b).2.1 := by decide +kernel
theorem tyX1_ok : ∀ k, k < 6 → parseFieldDescriptor (TX1 k).2.2.1 = some (tyX1 k) := by decide +kernel
abbrev cX1_init : ByteArray := prog_3_method_1_code
def yX1_init : MethodName := ⟨RX1, "<init>", "()V"⟩
abbrev cX1_ofClass : ByteArray := prog_3_method_2_code
def yX1_ofClass : MethodName := ⟨RX1, "ofClass", "(II)I"⟩
abbrev cX1_ofFighter : ByteArray := prog_3_method_3_code
def yX1_ofFighter : MethodName := ⟨RX1, "ofFighter", "(II)I"⟩
abbrev cX1_ofFight : ByteArray := prog_3_method_4_code
def yX1_ofFight : MethodName := ⟨RX1, "ofFight", "(III)I"⟩
abbrev cX1_ofMat : ByteArray := prog_3_method_5_code
def yX1_ofMat : MethodName := ⟨RX1, "ofMat", "(II)I"⟩
abbrev cX1_at : ByteArray := prog_3_method_6_code
def yX1_at : MethodName := ⟨RX1, "at", "(I)I"⟩
abbrev cX1_lay : ByteArray := prog_3_method_7_code
def yX1_lay : MethodName := ⟨RX1, "lay", "(II)V"⟩
abbrev cX1_put : ByteArray := prog_3_method_8_code
def yX1_put : MethodName := ⟨RX1, "put", "(II)V"⟩
abbrev cX1_isFull : ByteArray := prog_3_method_9_code
def yX1_isFull : MethodName := ⟨RX1, "isFull", "()Z"⟩
abbrev cX1_openEntry : ByteArray := prog_3_method_10_code
def yX1_openEntry : MethodName := ⟨RX1, "openEntry", "()V"⟩
abbrev cX1_takeBack : ByteArray := prog_3_method_11_code
def yX1_takeBack : MethodName := ⟨RX1, "takeBack", "()V"⟩
def RX2 : String := "JudoHall$Drawer"
def TX2 : u_T := fun k => match k with
  | 0 => ("JudoHall$Drawer", "book", "LJudoHall$Book;", true)
  | 1 => ("JudoHall$Drawer", "row", "LJudoHall$Row;", true)
  | _ => ("JudoHall$Drawer", "others", "LJudoHall$Row;", true)
def tyX2 : Nat → FieldType := fun k => match k with
  | 0 => .object "JudoHall$Book"
  | 1 => .object "JudoHall$Row"
  | _ => .object "JudoHall$Row"
abbrev wsX20 : List Cond := u_ws RX2 TX2 3
theorem nmX2 : ∀ a, a < 3 → ∀ b, b < 3 → a ≠ b → (TX2 a).2.1 ≠ (TX2 b).2.1 := by decide +kernel
theorem tyX2_ok : ∀ k, k < 3 → parseFieldDescriptor (TX2 k).2.2.1 = some (tyX2 k) := by decide +kernel
abbrev cX2_init : ByteArray := prog_4_method_1_code
def yX2_init : MethodName := ⟨RX2, "<init>", "(LJudoHall$Book;)V"⟩
abbrev cX2_placeAll : ByteArray := prog_4_method_2_code
def yX2_placeAll : MethodName := ⟨RX2, "placeAll", "(II)V"⟩
abbrev cX2_placesFor : ByteArray := prog_4_method_3_code
def yX2_placesFor : MethodName := ⟨RX2, "placesFor", "(I)I"⟩
abbrev cX2_placePool : ByteArray := prog_4_method_4_code
def yX2_placePool : MethodName := ⟨RX2, "placePool", "(I)V"⟩
abbrev cX2_placeOne : ByteArray := prog_4_method_5_code
def yX2_placeOne : MethodName := ⟨RX2, "placeOne", "(III)V"⟩
abbrev cX2_makeRow : ByteArray := prog_4_method_6_code
def yX2_makeRow : MethodName := ⟨RX2, "makeRow", "(I)V"⟩
abbrev cX2_isSeed : ByteArray := prog_4_method_7_code
def yX2_isSeed : MethodName := ⟨RX2, "isSeed", "(I)Z"⟩
abbrev cX2_placeSeeds : ByteArray := prog_4_method_8_code
def yX2_placeSeeds : MethodName := ⟨RX2, "placeSeeds", "(I)V"⟩
abbrev cX2_placeOthers : ByteArray := prog_4_method_9_code
def yX2_placeOthers : MethodName := ⟨RX2, "placeOthers", "(II)V"⟩
abbrev cX2_largestClub : ByteArray := prog_4_method_10_code
def yX2_largestClub : MethodName := ⟨RX2, "largestClub", "()I"⟩
abbrev cX2_placeClub : ByteArray := prog_4_method_11_code
def yX2_placeClub : MethodName := ⟨RX2, "placeClub", "(III)V"⟩
abbrev cX2_bestPlace : ByteArray := prog_4_method_12_code
def yX2_bestPlace : MethodName := ⟨RX2, "bestPlace", "(III)I"⟩
abbrev cX2_firstMeeting : ByteArray := prog_4_method_13_code
def yX2_firstMeeting : MethodName := ⟨RX2, "firstMeeting", "(III)I"⟩
abbrev cX2_meetingRound : ByteArray := prog_4_method_14_code
def yX2_meetingRound : MethodName := ⟨RX2, "meetingRound", "(II)I"⟩
def RX3 : String := "JudoHall$Floor"
def TX3 : u_T := fun k => match k with
  | 0 => ("JudoHall$Floor", "book", "LJudoHall$Book;", true)
  | 1 => ("JudoHall$Floor", "board", "LJudoHall$Board;", true)
  | 2 => ("JudoHall$Floor", "stack", "LJudoHall$Row;", true)
  | _ => ("JudoHall$Floor", "top", "I", false)
def tyX3 : Nat → FieldType := fun k => match k with
  | 0 => .object "JudoHall$Book"
  | 1 => .object "JudoHall$Board"
  | 2 => .object "JudoHall$Row"
  | _ => .int
abbrev wsX30 : List Cond := u_ws RX3 TX3 4
theorem nmX3 : ∀ a, a < 4 → ∀ b, b < 4 → a ≠ b → (TX3 a).2.1 ≠ (TX3 b).2.1 := by decide +kernel
theorem tyX3_ok : ∀ k, k < 4 → parseFieldDescriptor (TX3 k).2.2.1 = some (tyX3 k) := by decide +kernel
abbrev cX3_init : ByteArray := prog_5_method_1_code
def yX3_init : MethodName := ⟨RX3, "<init>", "(LJudoHall$Book;LJudoHall$Board;)V"⟩
abbrev cX3_on : ByteArray := prog_5_method_2_code
def yX3_on : MethodName := ⟨RX3, "on", "(II)I"⟩
abbrev cX3_isFree : ByteArray := prog_5_method_3_code
def yX3_isFree : MethodName := ⟨RX3, "isFree", "(I)Z"⟩
abbrev cX3_classOn : ByteArray := prog_5_method_4_code
def yX3_classOn : MethodName := ⟨RX3, "classOn", "(I)I"⟩
abbrev cX3_waits : ByteArray := prog_5_method_5_code
def yX3_waits : MethodName := ⟨RX3, "waits", "(I)Z"⟩
abbrev cX3_goesOn : ByteArray := prog_5_method_6_code
def yX3_goesOn : MethodName := ⟨RX3, "goesOn", "(I)Z"⟩
abbrev cX3_signsOf : ByteArray := prog_5_method_7_code
def yX3_signsOf : MethodName := ⟨RX3, "signsOf", "(III)I"⟩
abbrev cX3_openFights : ByteArray := prog_5_method_8_code
def yX3_openFights : MethodName := ⟨RX3, "openFights", "()I"⟩
abbrev cX3_fighterOn : ByteArray := prog_5_method_9_code
def yX3_fighterOn : MethodName := ⟨RX3, "fighterOn", "(II)I"⟩
abbrev cX3_isHeld : ByteArray := prog_5_method_10_code
def yX3_isHeld : MethodName := ⟨RX3, "isHeld", "(I)Z"⟩
abbrev cX3_start : ByteArray := prog_5_method_11_code
def yX3_start : MethodName := ⟨RX3, "start", "(IIII)V"⟩
abbrev cX3_turnOver : ByteArray := prog_5_method_12_code
def yX3_turnOver : MethodName := ⟨RX3, "turnOver", "(LJudoHall$Laws;I)V"⟩
abbrev cX3_giveSign : ByteArray := prog_5_method_13_code
def yX3_giveSign : MethodName := ⟨RX3, "giveSign", "(III)V"⟩
abbrev cX3_letPass : ByteArray := prog_5_method_14_code
def yX3_letPass : MethodName := ⟨RX3, "letPass", "(II)V"⟩
abbrev cX3_ask : ByteArray := prog_5_method_15_code
def yX3_ask : MethodName := ⟨RX3, "ask", "(LJudoHall$Laws;I)I"⟩
abbrev cX3_holds : ByteArray := prog_5_method_16_code
def yX3_holds : MethodName := ⟨RX3, "holds", "(LJudoHall$Laws;III)Z"⟩
abbrev cX3_push : ByteArray := prog_5_method_17_code
def yX3_push : MethodName := ⟨RX3, "push", "(I)V"⟩
abbrev cX3_pop : ByteArray := prog_5_method_18_code
def yX3_pop : MethodName := ⟨RX3, "pop", "()I"⟩
abbrev cX3_valueOf : ByteArray := prog_5_method_19_code
def yX3_valueOf : MethodName := ⟨RX3, "valueOf", "(IIII)I"⟩
abbrev cX3_workOn : ByteArray := prog_5_method_20_code
def yX3_workOn : MethodName := ⟨RX3, "workOn", "(III)I"⟩
abbrev cX3_finish : ByteArray := prog_5_method_21_code
def yX3_finish : MethodName := ⟨RX3, "finish", "(IIII)I"⟩
abbrev cX3_leave : ByteArray := prog_5_method_22_code
def yX3_leave : MethodName := ⟨RX3, "leave", "(I)V"⟩
abbrev cX3_strikeFrom : ByteArray := prog_5_method_23_code
def yX3_strikeFrom : MethodName := ⟨RX3, "strikeFrom", "(II)I"⟩
abbrev cX3_drop : ByteArray := prog_5_method_24_code
def yX3_drop : MethodName := ⟨RX3, "drop", "(II)V"⟩
def RX4 : String := "JudoHall$Laws"
def TX4 : u_T := fun k => match k with
  | 0 => ("JudoHall$Laws", "time", "I", false)
  | 1 => ("JudoHall$Laws", "golden", "I", false)
  | 2 => ("JudoHall$Laws", "signs", "I", false)
  | 3 => ("JudoHall$Laws", "lines", "I", false)
  | 4 => ("JudoHall$Laws", "parts", "I", false)
  | 5 => ("JudoHall$Laws", "size", "I", false)
  | 6 => ("JudoHall$Laws", "code", "LJudoHall$Row;", true)
  | 7 => ("JudoHall$Laws", "ends", "LJudoHall$Row;", true)
  | _ => ("JudoHall$Laws", "points", "LJudoHall$Row;", true)
def tyX4 : Nat → FieldType := fun k => match k with
  | 0 => .int
  | 1 => .int
  | 2 => .int
  | 3 => .int
  | 4 => .int
  | 5 => .int
  | 6 => .object "JudoHall$Row"
  | 7 => .object "JudoHall$Row"
  | _ => .object "JudoHall$Row"
abbrev wsX40 : List Cond := u_ws RX4 TX4 9
theorem nmX4 : ∀ a, a < 9 → ∀ b, b < 9 → a ≠ b → (TX4 a).2.1 ≠ (TX4 b).2.1 := by decide +kernel
theorem tyX4_ok : ∀ k, k < 9 → parseFieldDescriptor (TX4 k).2.2.1 = some (tyX4 k) := by decide +kernel
abbrev cX4_init : ByteArray := prog_6_method_1_code
def yX4_init : MethodName := ⟨RX4, "<init>", "()V"⟩
abbrev cX4_clear : ByteArray := prog_6_method_2_code
def yX4_clear : MethodName := ⟨RX4, "clear", "()V"⟩
abbrev cX4_emit : ByteArray := prog_6_method_3_code
def yX4_emit : MethodName := ⟨RX4, "emit", "(II)V"⟩
abbrev cX4_endLine : ByteArray := prog_6_method_4_code
def yX4_endLine : MethodName := ⟨RX4, "endLine", "()V"⟩
abbrev cX4_startOf : ByteArray := prog_6_method_5_code
def yX4_startOf : MethodName := ⟨RX4, "startOf", "(I)I"⟩
abbrev cX4_kindAt : ByteArray := prog_6_method_6_code
def yX4_kindAt : MethodName := ⟨RX4, "kindAt", "(I)I"⟩
abbrev cX4_valueAt : ByteArray := prog_6_method_7_code
def yX4_valueAt : MethodName := ⟨RX4, "valueAt", "(I)I"⟩
def RX5 : String := "JudoHall$Parser"
def TX5 : u_T := fun k => match k with
  | 0 => ("JudoHall$Parser", "tape", "LJudoHall$Tape;", true)
  | 1 => ("JudoHall$Parser", "nameFrom", "LJudoHall$Row;", true)
  | 2 => ("JudoHall$Parser", "nameSize", "LJudoHall$Row;", true)
  | 3 => ("JudoHall$Parser", "works", "LJudoHall$Row;", true)
  | 4 => ("JudoHall$Parser", "draft", "LJudoHall$Laws;", false)
  | 5 => ("JudoHall$Parser", "held", "I", false)
  | 6 => ("JudoHall$Parser", "open", "I", false)
  | 7 => ("JudoHall$Parser", "brackets", "I", false)
  | 8 => ("JudoHall$Parser", "place", "I", false)
  | 9 => ("JudoHall$Parser", "fault", "I", false)
  | 10 => ("JudoHall$Parser", "where", "I", false)
  | 11 => ("JudoHall$Parser", "whose", "I", false)
  | 12 => ("JudoHall$Parser", "sum", "I", false)
  | _ => ("JudoHall$Parser", "comparison", "I", false)
def tyX5 : Nat → FieldType := fun k => match k with
  | 0 => .object "JudoHall$Tape"
  | 1 => .object "JudoHall$Row"
  | 2 => .object "JudoHall$Row"
  | 3 => .object "JudoHall$Row"
  | 4 => .object "JudoHall$Laws"
  | 5 => .int
  | 6 => .int
  | 7 => .int
  | 8 => .int
  | 9 => .int
  | 10 => .int
  | 11 => .int
  | 12 => .int
  | _ => .int
abbrev wsX50 : List Cond := u_ws RX5 TX5 14
theorem nmX5 : ∀ a, a < 14 → ∀ b, b < 14 → a ≠ b → (TX5 a).2.1 ≠ (TX5 b).2.1 := by decide +kernel
theorem tyX5_ok : ∀ k, k < 14 → parseFieldDescriptor (TX5 k).2.2.1 = some (tyX5 k) := by decide +kernel
abbrev cX5_init : ByteArray := prog_7_method_1_code
def yX5_init : MethodName := ⟨RX5, "<init>", "(LJudoHall$Tape;)V"⟩
abbrev cX5_handOver : ByteArray := prog_7_method_2_code
def yX5_handOver : MethodName := ⟨RX5, "handOver", "()LJudoHall$Laws;"⟩
abbrev cX5_readLaws : ByteArray := prog_7_method_3_code
def yX5_readLaws : MethodName := ⟨RX5, "readLaws", "()Z"⟩
abbrev cX5_fail : ByteArray := prog_7_method_4_code
def yX5_fail : MethodName := ⟨RX5, "fail", "(I)V"⟩
abbrev cX5_take : ByteArray := prog_7_method_5_code
def yX5_take : MethodName := ⟨RX5, "take", "(I)V"⟩
abbrev cX5_goIf : ByteArray := prog_7_method_6_code
def yX5_goIf : MethodName := ⟨RX5, "goIf", "(ZI)V"⟩
abbrev cX5_takeHead : ByteArray := prog_7_method_7_code
def yX5_takeHead : MethodName := ⟨RX5, "takeHead", "(I)V"⟩
abbrev cX5_takeSignOrLine : ByteArray := prog_7_method_8_code
def yX5_takeSignOrLine : MethodName := ⟨RX5, "takeSignOrLine", "(I)V"⟩
abbrev cX5_goIfRoom : ByteArray := prog_7_method_9_code
def yX5_goIfRoom : MethodName := ⟨RX5, "goIfRoom", "(ZI)V"⟩
abbrev cX5_takeSignName : ByteArray := prog_7_method_10_code
def yX5_takeSignName : MethodName := ⟨RX5, "takeSignName", "(I)V"⟩
abbrev cX5_signOfToken : ByteArray := prog_7_method_11_code
def yX5_signOfToken : MethodName := ⟨RX5, "signOfToken", "()I"⟩
abbrev cX5_takePoints : ByteArray := prog_7_method_12_code
def yX5_takePoints : MethodName := ⟨RX5, "takePoints", "(I)V"⟩
abbrev cX5_takeCond : ByteArray := prog_7_method_13_code
def yX5_takeCond : MethodName := ⟨RX5, "takeCond", "(I)V"⟩
abbrev cX5_takePart : ByteArray := prog_7_method_14_code
def yX5_takePart : MethodName := ⟨RX5, "takePart", "(I)V"⟩
abbrev cX5_openThing : ByteArray := prog_7_method_15_code
def yX5_openThing : MethodName := ⟨RX5, "openThing", "(I)V"⟩
abbrev cX5_takeTerm : ByteArray := prog_7_method_16_code
def yX5_takeTerm : MethodName := ⟨RX5, "takeTerm", "(I)V"⟩
abbrev cX5_takeTermName : ByteArray := prog_7_method_17_code
def yX5_takeTermName : MethodName := ⟨RX5, "takeTermName", "(I)V"⟩
abbrev cX5_emitTerm : ByteArray := prog_7_method_18_code
def yX5_emitTerm : MethodName := ⟨RX5, "emitTerm", "(II)V"⟩
abbrev cX5_endComparison : ByteArray := prog_7_method_19_code
def yX5_endComparison : MethodName := ⟨RX5, "endComparison", "()V"⟩
abbrev cX5_takeBehindTerm : ByteArray := prog_7_method_20_code
def yX5_takeBehindTerm : MethodName := ⟨RX5, "takeBehindTerm", "(I)V"⟩
abbrev cX5_takeBehindCond : ByteArray := prog_7_method_21_code
def yX5_takeBehindCond : MethodName := ⟨RX5, "takeBehindCond", "(I)V"⟩
abbrev cX5_hold : ByteArray := prog_7_method_22_code
def yX5_hold : MethodName := ⟨RX5, "hold", "(I)V"⟩
abbrev cX5_emitBinders : ByteArray := prog_7_method_23_code
def yX5_emitBinders : MethodName := ⟨RX5, "emitBinders", "(I)V"⟩
abbrev cX5_closeNots : ByteArray := prog_7_method_24_code
def yX5_closeNots : MethodName := ⟨RX5, "closeNots", "()V"⟩
abbrev cX5_closeBracket : ByteArray := prog_7_method_25_code
def yX5_closeBracket : MethodName := ⟨RX5, "closeBracket", "()V"⟩
def RX6 : String := "JudoHall$Planner"
def TX6 : u_T := fun k => match k with
  | 0 => ("JudoHall$Planner", "book", "LJudoHall$Book;", true)
  | 1 => ("JudoHall$Planner", "board", "LJudoHall$Board;", true)
  | 2 => ("JudoHall$Planner", "order", "LJudoHall$Row;", true)
  | 3 => ("JudoHall$Planner", "ends", "LJudoHall$Row;", true)
  | 4 => ("JudoHall$Planner", "matFree", "LJudoHall$Row;", true)
  | 5 => ("JudoHall$Planner", "fighterFree", "LJudoHall$Row;", true)
  | 6 => ("JudoHall$Planner", "earliest", "LJudoHall$Row;", true)
  | 7 => ("JudoHall$Planner", "mats", "LJudoHall$Row;", false)
  | 8 => ("JudoHall$Planner", "begins", "LJudoHall$Row;", false)
  | 9 => ("JudoHall$Planner", "newMats", "LJudoHall$Row;", false)
  | 10 => ("JudoHall$Planner", "newBegins", "LJudoHall$Row;", false)
  | 11 => ("JudoHall$Planner", "ordered", "I", false)
  | 12 => ("JudoHall$Planner", "length", "I", false)
  | _ => ("JudoHall$Planner", "lastEnd", "I", false)
def tyX6 : Nat → FieldType := fun k => match k with
  | 0 => .object "JudoHall$Book"
  | 1 => .object "JudoHall$Board"
  | 2 => .object "JudoHall$Row"
  | 3 => .object "JudoHall$Row"
  | 4 => .object "JudoHall$Row"
  | 5 => .object "JudoHall$Row"
  | 6 => .object "JudoHall$Row"
  | 7 => .object "JudoHall$Row"
  | 8 => .object "JudoHall$Row"
  | 9 => .object "JudoHall$Row"
  | 10 => .object "JudoHall$Row"
  | 11 => .int
  | 12 => .int
  | _ => .int
abbrev wsX60 : List Cond := u_ws RX6 TX6 14
theorem nmX6 : ∀ a, a < 14 → ∀ b, b < 14 → a ≠ b → (TX6 a).2.1 ≠ (TX6 b).2.1 := by decide +kernel
theorem tyX6_ok : ∀ k, k < 14 → parseFieldDescriptor (TX6 k).2.2.1 = some (tyX6 k) := by decide +kernel
abbrev cX6_init : ByteArray := prog_8_method_1_code
def yX6_init : MethodName := ⟨RX6, "<init>", "(LJudoHall$Book;LJudoHall$Board;)V"⟩
abbrev cX6_tell : ByteArray := prog_8_method_2_code
def yX6_tell : MethodName := ⟨RX6, "tell", "(III)I"⟩
abbrev cX6_planDay : ByteArray := prog_8_method_3_code
def yX6_planDay : MethodName := ⟨RX6, "planDay", "(II)I"⟩
abbrev cX6_clear : ByteArray := prog_8_method_4_code
def yX6_clear : MethodName := ⟨RX6, "clear", "()V"⟩
abbrev cX6_keep : ByteArray := prog_8_method_5_code
def yX6_keep : MethodName := ⟨RX6, "keep", "()V"⟩
abbrev cX6_putOpenOnes : ByteArray := prog_8_method_6_code
def yX6_putOpenOnes : MethodName := ⟨RX6, "putOpenOnes", "()V"⟩
abbrev cX6_put : ByteArray := prog_8_method_7_code
def yX6_put : MethodName := ⟨RX6, "put", "(IIII)V"⟩
abbrev cX6_holdTill : ByteArray := prog_8_method_8_code
def yX6_holdTill : MethodName := ⟨RX6, "holdTill", "(II)V"⟩
abbrev cX6_putInOrder : ByteArray := prog_8_method_9_code
def yX6_putInOrder : MethodName := ⟨RX6, "putInOrder", "()V"⟩
abbrev cX6_putStageInOrder : ByteArray := prog_8_method_10_code
def yX6_putStageInOrder : MethodName := ⟨RX6, "putStageInOrder", "(II)V"⟩
abbrev cX6_putFrom : ByteArray := prog_8_method_11_code
def yX6_putFrom : MethodName := ⟨RX6, "putFrom", "(II)V"⟩
abbrev cX6_firstThatMay : ByteArray := prog_8_method_12_code
def yX6_firstThatMay : MethodName := ⟨RX6, "firstThatMay", "(I)I"⟩
abbrev cX6_takeOutOfOrder : ByteArray := prog_8_method_13_code
def yX6_takeOutOfOrder : MethodName := ⟨RX6, "takeOutOfOrder", "(I)V"⟩
abbrev cX6_soonestMat : ByteArray := prog_8_method_14_code
def yX6_soonestMat : MethodName := ⟨RX6, "soonestMat", "(I)I"⟩
abbrev cX6_soonestFight : ByteArray := prog_8_method_15_code
def yX6_soonestFight : MethodName := ⟨RX6, "soonestFight", "()I"⟩
abbrev cX6_findEarliest : ByteArray := prog_8_method_16_code
def yX6_findEarliest : MethodName := ⟨RX6, "findEarliest", "(I)V"⟩
abbrev cX6_freeFrom : ByteArray := prog_8_method_17_code
def yX6_freeFrom : MethodName := ⟨RX6, "freeFrom", "(I)I"⟩
abbrev cX6_behindFight : ByteArray := prog_8_method_18_code
def yX6_behindFight : MethodName := ⟨RX6, "behindFight", "(II)I"⟩
def RX7 : String := "JudoHall$Podium"
def TX7 : u_T := fun k => match k with
  | 0 => ("JudoHall$Podium", "book", "LJudoHall$Book;", true)
  | 1 => ("JudoHall$Podium", "board", "LJudoHall$Board;", true)
  | 2 => ("JudoHall$Podium", "wins", "LJudoHall$Row;", true)
  | _ => ("JudoHall$Podium", "sums", "LJudoHall$Row;", true)
def tyX7 : Nat → FieldType := fun k => match k with
  | 0 => .object "JudoHall$Book"
  | 1 => .object "JudoHall$Board"
  | 2 => .object "JudoHall$Row"
  | _ => .object "JudoHall$Row"
abbrev wsX70 : List Cond := u_ws RX7 TX7 4
theorem nmX7 : ∀ a, a < 4 → ∀ b, b < 4 → a ≠ b → (TX7 a).2.1 ≠ (TX7 b).2.1 := by decide +kernel
theorem tyX7_ok : ∀ k, k < 4 → parseFieldDescriptor (TX7 k).2.2.1 = some (tyX7 k) := by decide +kernel
abbrev cX7_init : ByteArray := prog_9_method_1_code
def yX7_init : MethodName := ⟨RX7, "<init>", "(LJudoHall$Book;LJudoHall$Board;)V"⟩
abbrev cX7_ofTree : ByteArray := prog_9_method_2_code
def yX7_ofTree : MethodName := ⟨RX7, "ofTree", "(II)I"⟩
abbrev cX7_ofPool : ByteArray := prog_9_method_3_code
def yX7_ofPool : MethodName := ⟨RX7, "ofPool", "(II)I"⟩
abbrev cX7_member : ByteArray := prog_9_method_4_code
def yX7_member : MethodName := ⟨RX7, "member", "(II)I"⟩
abbrev cX7_addUp : ByteArray := prog_9_method_5_code
def yX7_addUp : MethodName := ⟨RX7, "addUp", "(I)V"⟩
abbrev cX7_aheadOf : ByteArray := prog_9_method_6_code
def yX7_aheadOf : MethodName := ⟨RX7, "aheadOf", "(II)I"⟩
abbrev cX7_areAlike : ByteArray := prog_9_method_7_code
def yX7_areAlike : MethodName := ⟨RX7, "areAlike", "(II)Z"⟩
abbrev cX7_hasMore : ByteArray := prog_9_method_8_code
def yX7_hasMore : MethodName := ⟨RX7, "hasMore", "(II)Z"⟩
abbrev cX7_breaksTie : ByteArray := prog_9_method_9_code
def yX7_breaksTie : MethodName := ⟨RX7, "breaksTie", "(IIII)Z"⟩
abbrev cX7_beat : ByteArray := prog_9_method_10_code
def yX7_beat : MethodName := ⟨RX7, "beat", "(III)Z"⟩
def RX8 : String := "JudoHall$Roll"
def TX8 : u_T := fun k => match k with
  | _ => ("JudoHall$Roll", "book", "LJudoHall$Book;", true)
def tyX8 : Nat → FieldType := fun k => match k with
  | _ => .object "JudoHall$Book"
abbrev wsX80 : List Cond := u_ws RX8 TX8 1
theorem nmX8 : ∀ a, a < 1 → ∀ b, b < 1 → a ≠ b → (TX8 a).2.1 ≠ (TX8 b).2.1 := by decide +kernel
theorem tyX8_ok : ∀ k, k < 1 → parseFieldDescriptor (TX8 k).2.2.1 = some (tyX8 k) := by decide +kernel
abbrev cX8_init : ByteArray := prog_10_method_1_code
def yX8_init : MethodName := ⟨RX8, "<init>", "(LJudoHall$Book;)V"⟩
abbrev cX8_people : ByteArray := prog_10_method_2_code
def yX8_people : MethodName := ⟨RX8, "people", "()I"⟩
abbrev cX8_has : ByteArray := prog_10_method_3_code
def yX8_has : MethodName := ⟨RX8, "has", "(I)Z"⟩
abbrev cX8_classOf : ByteArray := prog_10_method_4_code
def yX8_classOf : MethodName := ⟨RX8, "classOf", "(I)I"⟩
abbrev cX8_add : ByteArray := prog_10_method_5_code
def yX8_add : MethodName := ⟨RX8, "add", "(II)I"⟩
abbrev cX8_putOnScales : ByteArray := prog_10_method_6_code
def yX8_putOnScales : MethodName := ⟨RX8, "putOnScales", "(II)Z"⟩
abbrev cX8_wasAnyAtScales : ByteArray := prog_10_method_7_code
def yX8_wasAnyAtScales : MethodName := ⟨RX8, "wasAnyAtScales", "(I)Z"⟩
abbrev cX8_isSeedOfAnother : ByteArray := prog_10_method_8_code
def yX8_isSeedOfAnother : MethodName := ⟨RX8, "isSeedOfAnother", "(II)Z"⟩
abbrev cX8_fightersOf : ByteArray := prog_10_method_9_code
def yX8_fightersOf : MethodName := ⟨RX8, "fightersOf", "(I)I"⟩
abbrev cX8_weighedOf : ByteArray := prog_10_method_10_code
def yX8_weighedOf : MethodName := ⟨RX8, "weighedOf", "(I)I"⟩
abbrev cX8_isWeighed : ByteArray := prog_10_method_11_code
def yX8_isWeighed : MethodName := ⟨RX8, "isWeighed", "(LJudoHall$Book;II)Z"⟩
def RX9 : String := "JudoHall$Row"
def TX9 : u_T := fun k => match k with
  | _ => ("JudoHall$Row", "cells", "[I", false)
def tyX9 : Nat → FieldType := fun k => match k with
  | _ => .array .int
abbrev wsX90 : List Cond := u_ws RX9 TX9 1
theorem nmX9 : ∀ a, a < 1 → ∀ b, b < 1 → a ≠ b → (TX9 a).2.1 ≠ (TX9 b).2.1 := by decide +kernel
theorem tyX9_ok : ∀ k, k < 1 → parseFieldDescriptor (TX9 k).2.2.1 = some (tyX9 k) := by decide +kernel
abbrev cX9_init : ByteArray := prog_11_method_1_code
def yX9_init : MethodName := ⟨RX9, "<init>", "(II)V"⟩
abbrev cX9_get : ByteArray := prog_11_method_2_code
def yX9_get : MethodName := ⟨RX9, "get", "(I)I"⟩
abbrev cX9_set : ByteArray := prog_11_method_3_code
def yX9_set : MethodName := ⟨RX9, "set", "(II)V"⟩
abbrev cX9_fill : ByteArray := prog_11_method_4_code
def yX9_fill : MethodName := ⟨RX9, "fill", "(I)V"⟩
abbrev cX9_makeRoomFor : ByteArray := prog_11_method_5_code
def yX9_makeRoomFor : MethodName := ⟨RX9, "makeRoomFor", "(I)V"⟩
def RX10 : String := "JudoHall$Tape"
def TX10 : u_T := fun k => match k with
  | 0 => ("JudoHall$Tape", "bytes", "LJudoHall$Row;", true)
  | 1 => ("JudoHall$Tape", "length", "I", false)
  | 2 => ("JudoHall$Tape", "next", "I", false)
  | 3 => ("JudoHall$Tape", "kind", "I", false)
  | 4 => ("JudoHall$Tape", "from", "I", false)
  | _ => ("JudoHall$Tape", "value", "I", false)
def tyX10 : Nat → FieldType := fun k => match k with
  | 0 => .object "JudoHall$Row"
  | 1 => .int
  | 2 => .int
  | 3 => .int
  | 4 => .int
  | _ => .int
abbrev wsX100 : List Cond := u_ws RX10 TX10 6
theorem nmX10 : ∀ a, a < 6 → ∀ b, b < 6 → a ≠ b → (TX10 a).2.1 ≠ (TX10 b).2.1 := by decide +kernel
theorem tyX10_ok : ∀ k, k < 6 → parseFieldDescriptor (TX10 k).2.2.1 = some (tyX10 k) := by decide +kernel
abbrev cX10_init : ByteArray := prog_12_method_1_code
def yX10_init : MethodName := ⟨RX10, "<init>", "()V"⟩
abbrev cX10_push : ByteArray := prog_12_method_2_code
def yX10_push : MethodName := ⟨RX10, "push", "(I)V"⟩
abbrev cX10_rewind : ByteArray := prog_12_method_3_code
def yX10_rewind : MethodName := ⟨RX10, "rewind", "()V"⟩
abbrev cX10_readToken : ByteArray := prog_12_method_4_code
def yX10_readToken : MethodName := ⟨RX10, "readToken", "()V"⟩
abbrev cX10_readWord : ByteArray := prog_12_method_5_code
def yX10_readWord : MethodName := ⟨RX10, "readWord", "()V"⟩
abbrev cX10_readNumber : ByteArray := prog_12_method_6_code
def yX10_readNumber : MethodName := ⟨RX10, "readNumber", "()V"⟩
abbrev cX10_markOf : ByteArray := prog_12_method_7_code
def yX10_markOf : MethodName := ⟨RX10, "markOf", "(I)I"⟩
abbrev cX10_takeEqual : ByteArray := prog_12_method_8_code
def yX10_takeEqual : MethodName := ⟨RX10, "takeEqual", "()Z"⟩
abbrev cX10_wordKind : ByteArray := prog_12_method_9_code
def yX10_wordKind : MethodName := ⟨RX10, "wordKind", "()I"⟩
abbrev cX10_spells : ByteArray := prog_12_method_10_code
def yX10_spells : MethodName := ⟨RX10, "spells", "(Ljava/lang/String;)Z"⟩
abbrev cX10_isWordAt : ByteArray := prog_12_method_11_code
def yX10_isWordAt : MethodName := ⟨RX10, "isWordAt", "(II)Z"⟩
abbrev cX10_tokenSize : ByteArray := prog_12_method_12_code
def yX10_tokenSize : MethodName := ⟨RX10, "tokenSize", "()I"⟩
abbrev cX10_isBlank : ByteArray := prog_12_method_13_code
def yX10_isBlank : MethodName := ⟨RX10, "isBlank", "(I)Z"⟩
abbrev cX10_isLetter : ByteArray := prog_12_method_14_code
def yX10_isLetter : MethodName := ⟨RX10, "isLetter", "(I)Z"⟩
abbrev cX10_isDigit : ByteArray := prog_12_method_15_code
def yX10_isDigit : MethodName := ⟨RX10, "isDigit", "(I)Z"⟩
def RX11 : String := "JudoHall"
def TX11 : u_T := fun k => match k with
  | 0 => ("JudoHall", "book", "LJudoHall$Book;", true)
  | 1 => ("JudoHall", "tape", "LJudoHall$Tape;", true)
  | 2 => ("JudoHall", "parser", "LJudoHall$Parser;", true)
  | 3 => ("JudoHall", "roll", "LJudoHall$Roll;", true)
  | 4 => ("JudoHall", "drawer", "LJudoHall$Drawer;", true)
  | 5 => ("JudoHall", "board", "LJudoHall$Board;", true)
  | 6 => ("JudoHall", "floor", "LJudoHall$Floor;", true)
  | 7 => ("JudoHall", "podium", "LJudoHall$Podium;", true)
  | 8 => ("JudoHall", "planner", "LJudoHall$Planner;", true)
  | 9 => ("JudoHall", "noLaws", "LJudoHall$Laws;", true)
  | _ => ("JudoHall", "told", "Ljava/util/ArrayList;", true)
def tyX11 : Nat → FieldType := fun k => match k with
  | 0 => .object "JudoHall$Book"
  | 1 => .object "JudoHall$Tape"
  | 2 => .object "JudoHall$Parser"
  | 3 => .object "JudoHall$Roll"
  | 4 => .object "JudoHall$Drawer"
  | 5 => .object "JudoHall$Board"
  | 6 => .object "JudoHall$Floor"
  | 7 => .object "JudoHall$Podium"
  | 8 => .object "JudoHall$Planner"
  | 9 => .object "JudoHall$Laws"
  | _ => .object "java/util/ArrayList"
abbrev wsX110 : List Cond := u_ws RX11 TX11 11
theorem nmX11 : ∀ a, a < 11 → ∀ b, b < 11 → a ≠ b → (TX11 a).2.1 ≠ (TX11 b).2.1 := by decide +kernel
theorem tyX11_ok : ∀ k, k < 11 → parseFieldDescriptor (TX11 k).2.2.1 = some (tyX11 k) := by decide +kernel
abbrev cX11_init : ByteArray := prog_1_method_1_code
def yX11_init : MethodName := ⟨RX11, "<init>", "()V"⟩
abbrev cX11_feed : ByteArray := prog_1_method_2_code
def yX11_feed : MethodName := ⟨RX11, "feed", "(IIIII)I"⟩
abbrev cX11_end : ByteArray := prog_1_method_3_code
def yX11_end : MethodName := ⟨RX11, "end", "(I)I"⟩
abbrev cX11_laws : ByteArray := prog_1_method_4_code
def yX11_laws : MethodName := ⟨RX11, "laws", "()I"⟩
abbrev cX11_fault : ByteArray := prog_1_method_5_code
def yX11_fault : MethodName := ⟨RX11, "fault", "(I)I"⟩
abbrev cX11_keepLaws : ByteArray := prog_1_method_6_code
def yX11_keepLaws : MethodName := ⟨RX11, "keepLaws", "(LJudoHall$Laws;)V"⟩
abbrev cX11_lawsNow : ByteArray := prog_1_method_7_code
def yX11_lawsNow : MethodName := ⟨RX11, "lawsNow", "()LJudoHall$Laws;"⟩
abbrev cX11_limit : ByteArray := prog_1_method_8_code
def yX11_limit : MethodName := ⟨RX11, "limit", "(III)I"⟩
abbrev cX11_enter : ByteArray := prog_1_method_9_code
def yX11_enter : MethodName := ⟨RX11, "enter", "(II)I"⟩
abbrev cX11_weigh : ByteArray := prog_1_method_10_code
def yX11_weigh : MethodName := ⟨RX11, "weigh", "(II)I"⟩
abbrev cX11_seed : ByteArray := prog_1_method_11_code
def yX11_seed : MethodName := ⟨RX11, "seed", "(II)I"⟩
abbrev cX11_draw : ByteArray := prog_1_method_12_code
def yX11_draw : MethodName := ⟨RX11, "draw", "(I)I"⟩
abbrev cX11_fighter : ByteArray := prog_1_method_13_code
def yX11_fighter : MethodName := ⟨RX11, "fighter", "(II)I"⟩
abbrev cX11_about : ByteArray := prog_1_method_14_code
def yX11_about : MethodName := ⟨RX11, "about", "(II)I"⟩
abbrev cX11_fight : ByteArray := prog_1_method_15_code
def yX11_fight : MethodName := ⟨RX11, "fight", "(III)I"⟩
abbrev cX11_now : ByteArray := prog_1_method_16_code
def yX11_now : MethodName := ⟨RX11, "now", "(I)I"⟩
abbrev cX11_rest : ByteArray := prog_1_method_17_code
def yX11_rest : MethodName := ⟨RX11, "rest", "(I)I"⟩
abbrev cX11_begin : ByteArray := prog_1_method_18_code
def yX11_begin : MethodName := ⟨RX11, "begin", "(III)I"⟩
abbrev cX11_event : ByteArray := prog_1_method_19_code
def yX11_event : MethodName := ⟨RX11, "event", "(III)I"⟩
abbrev cX11_tick : ByteArray := prog_1_method_20_code
def yX11_tick : MethodName := ⟨RX11, "tick", "(II)I"⟩
abbrev cX11_decide : ByteArray := prog_1_method_21_code
def yX11_decide : MethodName := ⟨RX11, "decide", "(II)I"⟩
abbrev cX11_mat : ByteArray := prog_1_method_22_code
def yX11_mat : MethodName := ⟨RX11, "mat", "(II)I"⟩
abbrev cX11_signsOn : ByteArray := prog_1_method_23_code
def yX11_signsOn : MethodName := ⟨RX11, "signsOn", "(II)I"⟩
abbrev cX11_strike : ByteArray := prog_1_method_24_code
def yX11_strike : MethodName := ⟨RX11, "strike", "(II)I"⟩
abbrev cX11_medal : ByteArray := prog_1_method_25_code
def yX11_medal : MethodName := ⟨RX11, "medal", "(II)I"⟩
abbrev cX11_plan : ByteArray := prog_1_method_26_code
def yX11_plan : MethodName := ⟨RX11, "plan", "(II)I"⟩
abbrev cX11_planned : ByteArray := prog_1_method_27_code
def yX11_planned : MethodName := ⟨RX11, "planned", "(III)I"⟩
abbrev cX11_undo : ByteArray := prog_1_method_28_code
def yX11_undo : MethodName := ⟨RX11, "undo", "()I"⟩
abbrev cX11_count : ByteArray := prog_1_method_29_code
def yX11_count : MethodName := ⟨RX11, "count", "(I)I"⟩
abbrev cX11_isClass : ByteArray := prog_1_method_30_code
def yX11_isClass : MethodName := ⟨RX11, "isClass", "(I)Z"⟩
abbrev cX11_isMat : ByteArray := prog_1_method_31_code
def yX11_isMat : MethodName := ⟨RX11, "isMat", "(I)Z"⟩
abbrev cX11_isSide : ByteArray := prog_1_method_32_code
def yX11_isSide : MethodName := ⟨RX11, "isSide", "(I)Z"⟩
abbrev cX11_isGrams : ByteArray := prog_1_method_33_code
def yX11_isGrams : MethodName := ⟨RX11, "isGrams", "(I)Z"⟩
def RX12 : String := "JudoHallModel$Stop"
def TX12 : u_T := fun k => match k with
  | 0 => ("java/lang/Throwable", "cause", "Ljava/lang/Throwable;", false)
  | 1 => ("java/lang/Throwable", "stackTrace", "[Ljava/lang/StackTraceElement;", false)
  | 2 => ("java/lang/Throwable", "suppressedExceptions", "Ljava/util/List;", false)
  | 3 => ("java/lang/Throwable", "detailMessage", "Ljava/lang/String;", false)
  | 4 => ("java/lang/Throwable", "backtrace", "Ljava/lang/Object;", false)
  | _ => ("java/lang/Throwable", "depth", "I", false)
def tyX12 : Nat → FieldType := fun k => match k with
  | 0 => .object "java/lang/Throwable"
  | 1 => .array (.object "java/lang/StackTraceElement")
  | 2 => .object "java/util/List"
  | 3 => .object "java/lang/String"
  | 4 => .object "java/lang/Object"
  | _ => .int
abbrev wsX120 : List Cond := u_ws RX12 TX12 6
theorem nmX12 : ∀ a, a < 6 → ∀ b, b < 6 → a ≠ b → (TX12 a).2.1 ≠ (TX12 b).2.1 := by decide +kernel
theorem tyX12_ok : ∀ k, k < 6 → parseFieldDescriptor (TX12 k).2.2.1 = some (tyX12 k) := by decide +kernel
abbrev cX12_init : ByteArray := prog_15_method_1_code
def yX12_init : MethodName := ⟨RX12, "<init>", "()V"⟩
def RX13 : String := "JudoHallModel"
def TX13 : u_T := fun k => match k with
  | 0 => ("JudoHallModel", "low", "[I", true)
  | 1 => ("JudoHallModel", "high", "[I", true)
  | 2 => ("JudoHallModel", "fighters", "I", false)
  | 3 => ("JudoHallModel", "minute", "I", false)
  | 4 => ("JudoHallModel", "restMinutes", "I", false)
  | 5 => ("JudoHallModel", "classOf", "[I", true)
  | 6 => ("JudoHallModel", "club", "[I", true)
  | 7 => ("JudoHallModel", "grams", "[I", true)
  | 8 => ("JudoHallModel", "scale", "[I", true)
  | 9 => ("JudoHallModel", "seedOf", "[I", true)
  | 10 => ("JudoHallModel", "placeOf", "[I", true)
  | 11 => ("JudoHallModel", "lastEnd", "[I", true)
  | 12 => ("JudoHallModel", "drawn", "[I", true)
  | 13 => ("JudoHallModel", "places", "[I", true)
  | 14 => ("JudoHallModel", "who", "[I", true)
  | 15 => ("JudoHallModel", "result", "[I", true)
  | 16 => ("JudoHallModel", "white", "[I", true)
  | 17 => ("JudoHallModel", "blue", "[I", true)
  | 18 => ("JudoHallModel", "winner", "[I", true)
  | 19 => ("JudoHallModel", "endLine", "[I", true)
  | 20 => ("JudoHallModel", "points", "[I", true)
  | 21 => ("JudoHallModel", "endMinute", "[I", true)
  | 22 => ("JudoHallModel", "on", "[I", true)
  | 23 => ("JudoHallModel", "left", "[I", true)
  | 24 => ("JudoHallModel", "has", "[I", true)
  | 25 => ("JudoHallModel", "isExtra", "[Z", true)
  | 26 => ("JudoHallModel", "waits", "[Z", true)
  | 27 => ("JudoHallModel", "time", "I", false)
  | 28 => ("JudoHallModel", "golden", "I", false)
  | 29 => ("JudoHallModel", "signs", "I", false)
  | 30 => ("JudoHallModel", "lines", "I", false)
  | 31 => ("JudoHallModel", "parts", "I", false)
  | 32 => ("JudoHallModel", "signName", "[B", true)
  | 33 => ("JudoHallModel", "signSize", "[I", true)
  | 34 => ("JudoHallModel", "lineFrom", "[I", true)
  | 35 => ("JudoHallModel", "linePoints", "[I", true)
  | 36 => ("JudoHallModel", "part", "[I", true)
  | 37 => ("JudoHallModel", "partOf", "[I", true)
  | 38 => ("JudoHallModel", "pile", "[I", true)
  | 39 => ("JudoHallModel", "stop", "LJudoHallModel$Stop;", true)
  | 40 => ("JudoHallModel", "tape", "[B", true)
  | 41 => ("JudoHallModel", "source", "[B", false)
  | 42 => ("JudoHallModel", "taped", "I", false)
  | 43 => ("JudoHallModel", "size", "I", false)
  | 44 => ("JudoHallModel", "from", "I", false)
  | 45 => ("JudoHallModel", "behind", "I", false)
  | 46 => ("JudoHallModel", "hand", "I", false)
  | 47 => ("JudoHallModel", "value", "I", false)
  | 48 => ("JudoHallModel", "open", "I", false)
  | 49 => ("JudoHallModel", "fault", "I", false)
  | 50 => ("JudoHallModel", "faultAt", "I", false)
  | 51 => ("JudoHallModel", "waiting", "I", false)
  | 52 => ("JudoHallModel", "log", "[I", true)
  | 53 => ("JudoHallModel", "entries", "I", false)
  | 54 => ("JudoHallModel", "texts", "[B", true)
  | 55 => ("JudoHallModel", "textEnd", "I", false)
  | 56 => ("JudoHallModel", "kept", "[B", true)
  | 57 => ("JudoHallModel", "row", "[I", true)
  | 58 => ("JudoHallModel", "rowOfHalf", "[I", true)
  | 59 => ("JudoHallModel", "others", "[I", true)
  | 60 => ("JudoHallModel", "isTaken", "[Z", true)
  | 61 => ("JudoHallModel", "planMat", "[I", true)
  | 62 => ("JudoHallModel", "planBegin", "[I", true)
  | 63 => ("JudoHallModel", "newMat", "[I", true)
  | 64 => ("JudoHallModel", "newBegin", "[I", true)
  | 65 => ("JudoHallModel", "state", "[I", true)
  | 66 => ("JudoHallModel", "queue", "[I", true)
  | 67 => ("JudoHallModel", "knownWhite", "[I", true)
  | 68 => ("JudoHallModel", "knownBlue", "[I", true)
  | 69 => ("JudoHallModel", "hasPlan", "Z", false)
  | 70 => ("JudoHallModel", "freshAt", "[I", true)
  | _ => ("JudoHallModel", "freeAt", "[I", true)
def tyX13 : Nat → FieldType := fun k => match k with
  | 0 => .array .int
  | 1 => .array .int
  | 2 => .int
  | 3 => .int
  | 4 => .int
  | 5 => .array .int
  | 6 => .array .int
  | 7 => .array .int
  | 8 => .array .int
  | 9 => .array .int
  | 10 => .array .int
  | 11 => .array .int
  | 12 => .array .int
  | 13 => .array .int
  | 14 => .array .int
  | 15 => .array .int
  | 16 => .array .int
  | 17 => .array .int
  | 18 => .array .int
  | 19 => .array .int
  | 20 => .array .int
  | 21 => .array .int
  | 22 => .array .int
  | 23 => .array .int
  | 24 => .array .int
  | 25 => .array .boolean
  | 26 => .array .boolean
  | 27 => .int
  | 28 => .int
  | 29 => .int
  | 30 => .int
  | 31 => .int
  | 32 => .array .byte
  | 33 => .array .int
  | 34 => .array .int
  | 35 => .array .int
  | 36 => .array .int
  | 37 => .array .int
  | 38 => .array .int
  | 39 => .object "JudoHallModel$Stop"
  | 40 => .array .byte
  | 41 => .array .byte
  | 42 => .int
  | 43 => .int
  | 44 => .int
  | 45 => .int
  | 46 => .int
  | 47 => .int
  | 48 => .int
  | 49 => .int
  | 50 => .int
  | 51 => .int
  | 52 => .array .int
  | 53 => .int
  | 54 => .array .byte
  | 55 => .int
  | 56 => .array .byte
  | 57 => .array .int
  | 58 => .array .int
  | 59 => .array .int
  | 60 => .array .boolean
  | 61 => .array .int
  | 62 => .array .int
  | 63 => .array .int
  | 64 => .array .int
  | 65 => .array .int
  | 66 => .array .int
  | 67 => .array .int
  | 68 => .array .int
  | 69 => .boolean
  | 70 => .array .int
  | _ => .array .int
abbrev wsX130 : List Cond := u_ws RX13 TX13 72
theorem nmX13 : ∀ a, a < 72 → ∀ b, b < 72 → a ≠ b → (TX13 a).2.1 ≠ (TX13 b).2.1 := by decide +kernel
theorem tyX13_ok : ∀ k, k < 72 → parseFieldDescriptor (TX13 k).2.2.1 = some (tyX13 k) := by decide +kernel
abbrev cX13_in : ByteArray := prog_14_method_1_code
def yX13_in : MethodName := ⟨RX13, "in", "(JJJ)Z"⟩
abbrev cX13_init : ByteArray := prog_14_method_2_code
def yX13_init : MethodName := ⟨RX13, "<init>", "()V"⟩
abbrev cX13_anew : ByteArray := prog_14_method_3_code
def yX13_anew : MethodName := ⟨RX13, "anew", "()V"⟩
abbrev cX13_isClass : ByteArray := prog_14_method_4_code
def yX13_isClass : MethodName := ⟨RX13, "isClass", "(I)Z"⟩
abbrev cX13_halving : ByteArray := prog_14_method_5_code
def yX13_halving : MethodName := ⟨RX13, "halving", "(I)I"⟩
abbrev cX13_rounds : ByteArray := prog_14_method_6_code
def yX13_rounds : MethodName := ⟨RX13, "rounds", "(I)I"⟩
abbrev cX13_fights : ByteArray := prog_14_method_7_code
def yX13_fights : MethodName := ⟨RX13, "fights", "(I)I"⟩
abbrev cX13_isFight : ByteArray := prog_14_method_8_code
def yX13_isFight : MethodName := ⟨RX13, "isFight", "(II)Z"⟩
abbrev cX13_base : ByteArray := prog_14_method_9_code
def yX13_base : MethodName := ⟨RX13, "base", "(II)I"⟩
abbrev cX13_isSecond : ByteArray := prog_14_method_10_code
def yX13_isSecond : MethodName := ⟨RX13, "isSecond", "(II)Z"⟩
abbrev cX13_finalOf : ByteArray := prog_14_method_11_code
def yX13_finalOf : MethodName := ⟨RX13, "finalOf", "(I)I"⟩
abbrev cX13_roundOf : ByteArray := prog_14_method_12_code
def yX13_roundOf : MethodName := ⟨RX13, "roundOf", "(II)I"⟩
abbrev cX13_halfOf : ByteArray := prog_14_method_13_code
def yX13_halfOf : MethodName := ⟨RX13, "halfOf", "(II)I"⟩
abbrev cX13_stepOf : ByteArray := prog_14_method_14_code
def yX13_stepOf : MethodName := ⟨RX13, "stepOf", "(II)I"⟩
abbrev cX13_sideOf : ByteArray := prog_14_method_15_code
def yX13_sideOf : MethodName := ⟨RX13, "sideOf", "(III)I"⟩
abbrev cX13_pair : ByteArray := prog_14_method_16_code
def yX13_pair : MethodName := ⟨RX13, "pair", "(III)I"⟩
abbrev cX13_second : ByteArray := prog_14_method_17_code
def yX13_second : MethodName := ⟨RX13, "second", "(IIII)I"⟩
abbrev cX13_loserTo : ByteArray := prog_14_method_18_code
def yX13_loserTo : MethodName := ⟨RX13, "loserTo", "(III)I"⟩
abbrev cX13_winnerOf : ByteArray := prog_14_method_19_code
def yX13_winnerOf : MethodName := ⟨RX13, "winnerOf", "(II)I"⟩
abbrev cX13_isWalk : ByteArray := prog_14_method_20_code
def yX13_isWalk : MethodName := ⟨RX13, "isWalk", "(II)Z"⟩
abbrev cX13_isReady : ByteArray := prog_14_method_21_code
def yX13_isReady : MethodName := ⟨RX13, "isReady", "(II)Z"⟩
abbrev cX13_holds : ByteArray := prog_14_method_22_code
def yX13_holds : MethodName := ⟨RX13, "holds", "(IIIZ)Z"⟩
abbrev cX13_termOf : ByteArray := prog_14_method_23_code
def yX13_termOf : MethodName := ⟨RX13, "termOf", "(IIIZ)I"⟩
abbrev cX13_joined : ByteArray := prog_14_method_24_code
def yX13_joined : MethodName := ⟨RX13, "joined", "(III)I"⟩
abbrev cX13_wrong : ByteArray := prog_14_method_25_code
def yX13_wrong : MethodName := ⟨RX13, "wrong", "(II)LJudoHallModel$Stop;"⟩
abbrev cX13_byteAt : ByteArray := prog_14_method_26_code
def yX13_byteAt : MethodName := ⟨RX13, "byteAt", "(I)I"⟩
abbrev cX13_isLetter : ByteArray := prog_14_method_27_code
def yX13_isLetter : MethodName := ⟨RX13, "isLetter", "(I)Z"⟩
abbrev cX13_isDigit : ByteArray := prog_14_method_28_code
def yX13_isDigit : MethodName := ⟨RX13, "isDigit", "(I)Z"⟩
abbrev cX13_scan : ByteArray := prog_14_method_29_code
def yX13_scan : MethodName := ⟨RX13, "scan", "()V"⟩
abbrev cX13_isText : ByteArray := prog_14_method_30_code
def yX13_isText : MethodName := ⟨RX13, "isText", "(Ljava/lang/String;)Z"⟩
abbrev cX13_is : ByteArray := prog_14_method_31_code
def yX13_is : MethodName := ⟨RX13, "is", "(Ljava/lang/String;)Z"⟩
abbrev cX13_need : ByteArray := prog_14_method_32_code
def yX13_need : MethodName := ⟨RX13, "need", "(Ljava/lang/String;)V"⟩
abbrev cX13_number : ByteArray := prog_14_method_33_code
def yX13_number : MethodName := ⟨RX13, "number", "()I"⟩
abbrev cX13_isQuoted : ByteArray := prog_14_method_34_code
def yX13_isQuoted : MethodName := ⟨RX13, "isQuoted", "()Z"⟩
abbrev cX13_findSign : ByteArray := prog_14_method_35_code
def yX13_findSign : MethodName := ⟨RX13, "findSign", "()I"⟩
abbrev cX13_name : ByteArray := prog_14_method_36_code
def yX13_name : MethodName := ⟨RX13, "name", "()V"⟩
abbrev cX13_readLaws : ByteArray := prog_14_method_37_code
def yX13_readLaws : MethodName := ⟨RX13, "readLaws", "()V"⟩
abbrev cX13_counts : ByteArray := prog_14_method_38_code
def yX13_counts : MethodName := ⟨RX13, "counts", "()V"⟩
abbrev cX13_put : ByteArray := prog_14_method_39_code
def yX13_put : MethodName := ⟨RX13, "put", "(II)V"⟩
abbrev cX13_hold : ByteArray := prog_14_method_40_code
def yX13_hold : MethodName := ⟨RX13, "hold", "()V"⟩
abbrev cX13_release : ByteArray := prog_14_method_41_code
def yX13_release : MethodName := ⟨RX13, "release", "(I)V"⟩
abbrev cX13_readOr : ByteArray := prog_14_method_42_code
def yX13_readOr : MethodName := ⟨RX13, "readOr", "()V"⟩
abbrev cX13_readAnd : ByteArray := prog_14_method_43_code
def yX13_readAnd : MethodName := ⟨RX13, "readAnd", "()V"⟩
abbrev cX13_opens : ByteArray := prog_14_method_44_code
def yX13_opens : MethodName := ⟨RX13, "opens", "()V"⟩
abbrev cX13_readNot : ByteArray := prog_14_method_45_code
def yX13_readNot : MethodName := ⟨RX13, "readNot", "()V"⟩
abbrev cX13_readSum : ByteArray := prog_14_method_46_code
def yX13_readSum : MethodName := ⟨RX13, "readSum", "()V"⟩
abbrev cX13_readTerm : ByteArray := prog_14_method_47_code
def yX13_readTerm : MethodName := ⟨RX13, "readTerm", "()V"⟩
abbrev cX13_act : ByteArray := prog_14_method_48_code
def yX13_act : MethodName := ⟨RX13, "act", "(IIII)I"⟩
abbrev cX13_does : ByteArray := prog_14_method_49_code
def yX13_does : MethodName := ⟨RX13, "does", "(IIII)I"⟩
abbrev cX13_undo : ByteArray := prog_14_method_50_code
def yX13_undo : MethodName := ⟨RX13, "undo", "()I"⟩
abbrev cX13_takeLaws : ByteArray := prog_14_method_51_code
def yX13_takeLaws : MethodName := ⟨RX13, "takeLaws", "(II)I"⟩
abbrev cX13_lawsAgain : ByteArray := prog_14_method_52_code
def yX13_lawsAgain : MethodName := ⟨RX13, "lawsAgain", "()V"⟩
abbrev cX13_laws : ByteArray := prog_14_method_53_code
def yX13_laws : MethodName := ⟨RX13, "laws", "()I"⟩
abbrev cX13_feed : ByteArray := prog_14_method_54_code
def yX13_feed : MethodName := ⟨RX13, "feed", "(IIIII)I"⟩
abbrev cX13_lay : ByteArray := prog_14_method_55_code
def yX13_lay : MethodName := ⟨RX13, "lay", "(I)V"⟩
abbrev cX13_end : ByteArray := prog_14_method_56_code
def yX13_end : MethodName := ⟨RX13, "end", "(I)I"⟩
abbrev cX13_fault : ByteArray := prog_14_method_57_code
def yX13_fault : MethodName := ⟨RX13, "fault", "(I)I"⟩
abbrev cX13_isFighter : ByteArray := prog_14_method_58_code
def yX13_isFighter : MethodName := ⟨RX13, "isFighter", "(I)Z"⟩
abbrev cX13_limit : ByteArray := prog_14_method_59_code
def yX13_limit : MethodName := ⟨RX13, "limit", "(III)I"⟩
abbrev cX13_enter : ByteArray := prog_14_method_60_code
def yX13_enter : MethodName := ⟨RX13, "enter", "(II)I"⟩
abbrev cX13_comes : ByteArray := prog_14_method_61_code
def yX13_comes : MethodName := ⟨RX13, "comes", "(II)I"⟩
abbrev cX13_weigh : ByteArray := prog_14_method_62_code
def yX13_weigh : MethodName := ⟨RX13, "weigh", "(II)I"⟩
abbrev cX13_seed : ByteArray := prog_14_method_63_code
def yX13_seed : MethodName := ⟨RX13, "seed", "(II)I"⟩
abbrev cX13_weighed : ByteArray := prog_14_method_64_code
def yX13_weighed : MethodName := ⟨RX13, "weighed", "(I)I"⟩
abbrev cX13_draw : ByteArray := prog_14_method_65_code
def yX13_draw : MethodName := ⟨RX13, "draw", "(I)I"⟩
abbrev cX13_makeRow : ByteArray := prog_14_method_66_code
def yX13_makeRow : MethodName := ⟨RX13, "makeRow", "(I)V"⟩
abbrev cX13_draws : ByteArray := prog_14_method_67_code
def yX13_draws : MethodName := ⟨RX13, "draws", "(I)I"⟩
abbrev cX13_isOther : ByteArray := prog_14_method_68_code
def yX13_isOther : MethodName := ⟨RX13, "isOther", "(II)Z"⟩
abbrev cX13_settle : ByteArray := prog_14_method_69_code
def yX13_settle : MethodName := ⟨RX13, "settle", "(III)V"⟩
abbrev cX13_bestPlace : ByteArray := prog_14_method_70_code
def yX13_bestPlace : MethodName := ⟨RX13, "bestPlace", "(III)I"⟩
abbrev cX13_fighter : ByteArray := prog_14_method_71_code
def yX13_fighter : MethodName := ⟨RX13, "fighter", "(II)I"⟩
abbrev cX13_about : ByteArray := prog_14_method_72_code
def yX13_about : MethodName := ⟨RX13, "about", "(II)I"⟩
abbrev cX13_matOf : ByteArray := prog_14_method_73_code
def yX13_matOf : MethodName := ⟨RX13, "matOf", "(II)I"⟩
abbrev cX13_fight : ByteArray := prog_14_method_74_code
def yX13_fight : MethodName := ⟨RX13, "fight", "(III)I"⟩
abbrev cX13_now : ByteArray := prog_14_method_75_code
def yX13_now : MethodName := ⟨RX13, "now", "(I)I"⟩
abbrev cX13_rest : ByteArray := prog_14_method_76_code
def yX13_rest : MethodName := ⟨RX13, "rest", "(I)I"⟩
abbrev cX13_isMat : ByteArray := prog_14_method_77_code
def yX13_isMat : MethodName := ⟨RX13, "isMat", "(I)Z"⟩
abbrev cX13_rests : ByteArray := prog_14_method_78_code
def yX13_rests : MethodName := ⟨RX13, "rests", "(I)Z"⟩
abbrev cX13_begin : ByteArray := prog_14_method_79_code
def yX13_begin : MethodName := ⟨RX13, "begin", "(III)I"⟩
abbrev cX13_begins : ByteArray := prog_14_method_80_code
def yX13_begins : MethodName := ⟨RX13, "begins", "(III)I"⟩
abbrev cX13_asked : ByteArray := prog_14_method_81_code
def yX13_asked : MethodName := ⟨RX13, "asked", "(IZ)I"⟩
abbrev cX13_passes : ByteArray := prog_14_method_82_code
def yX13_passes : MethodName := ⟨RX13, "passes", "(II)I"⟩
abbrev cX13_goesOver : ByteArray := prog_14_method_83_code
def yX13_goesOver : MethodName := ⟨RX13, "goesOver", "(I)V"⟩
abbrev cX13_ends : ByteArray := prog_14_method_84_code
def yX13_ends : MethodName := ⟨RX13, "ends", "(IIII)I"⟩
abbrev cX13_event : ByteArray := prog_14_method_85_code
def yX13_event : MethodName := ⟨RX13, "event", "(III)I"⟩
abbrev cX13_tick : ByteArray := prog_14_method_86_code
def yX13_tick : MethodName := ⟨RX13, "tick", "(II)I"⟩
abbrev cX13_decide : ByteArray := prog_14_method_87_code
def yX13_decide : MethodName := ⟨RX13, "decide", "(II)I"⟩
abbrev cX13_mat : ByteArray := prog_14_method_88_code
def yX13_mat : MethodName := ⟨RX13, "mat", "(II)I"⟩
abbrev cX13_strike : ByteArray := prog_14_method_89_code
def yX13_strike : MethodName := ⟨RX13, "strike", "(II)I"⟩
abbrev cX13_struck : ByteArray := prog_14_method_90_code
def yX13_struck : MethodName := ⟨RX13, "struck", "(II)I"⟩
abbrev cX13_medal : ByteArray := prog_14_method_91_code
def yX13_medal : MethodName := ⟨RX13, "medal", "(II)I"⟩
abbrev cX13_won : ByteArray := prog_14_method_92_code
def yX13_won : MethodName := ⟨RX13, "won", "(II)I"⟩
abbrev cX13_sum : ByteArray := prog_14_method_93_code
def yX13_sum : MethodName := ⟨RX13, "sum", "(II)I"⟩
abbrev cX13_alike : ByteArray := prog_14_method_94_code
def yX13_alike : MethodName := ⟨RX13, "alike", "(II)I"⟩
abbrev cX13_isAhead : ByteArray := prog_14_method_95_code
def yX13_isAhead : MethodName := ⟨RX13, "isAhead", "(III)Z"⟩
abbrev cX13_ordered : ByteArray := prog_14_method_96_code
def yX13_ordered : MethodName := ⟨RX13, "ordered", "(II)I"⟩
abbrev cX13_stage : ByteArray := prog_14_method_97_code
def yX13_stage : MethodName := ⟨RX13, "stage", "(I)I"⟩
abbrev cX13_plan : ByteArray := prog_14_method_98_code
def yX13_plan : MethodName := ⟨RX13, "plan", "(II)I"⟩
abbrev cX13_tires : ByteArray := prog_14_method_99_code
def yX13_tires : MethodName := ⟨RX13, "tires", "(II)V"⟩
abbrev cX13_isOver : ByteArray := prog_14_method_100_code
def yX13_isOver : MethodName := ⟨RX13, "isOver", "(IIII)Z"⟩
abbrev cX13_mayBegin : ByteArray := prog_14_method_101_code
def yX13_mayBegin : MethodName := ⟨RX13, "mayBegin", "(III)Z"⟩
abbrev cX13_planned : ByteArray := prog_14_method_102_code
def yX13_planned : MethodName := ⟨RX13, "planned", "(III)I"⟩
abbrev cX13_count : ByteArray := prog_14_method_103_code
def yX13_count : MethodName := ⟨RX13, "count", "(I)I"⟩
def RJ9 : String := "java/lang/Math"
def RJ0 : String := "java/lang/String"
abbrev cJ0_length_8abf5 : ByteArray := prog_24_method_54_code
def yJ0_length_8abf5 : MethodName := ⟨RJ0, "length", "()I"⟩
abbrev cJ0_charAt_5068e : ByteArray := prog_24_method_56_code
def yJ0_charAt_5068e : MethodName := ⟨RJ0, "charAt", "(I)C"⟩
abbrev cJ0_indexOf_0f7a4 : ByteArray := prog_24_method_79_code
def yJ0_indexOf_0f7a4 : MethodName := ⟨RJ0, "indexOf", "(I)I"⟩
abbrev cJ0_indexOf_7cf53 : ByteArray := prog_24_method_80_code
def yJ0_indexOf_7cf53 : MethodName := ⟨RJ0, "indexOf", "(II)I"⟩
abbrev cJ0_coder_7d493 : ByteArray := prog_24_method_152_code
def yJ0_coder_7d493 : MethodName := ⟨RJ0, "coder", "()B"⟩
abbrev cJ0_isLatin1_aae02 : ByteArray := prog_24_method_154_code
def yJ0_isLatin1_aae02 : MethodName := ⟨RJ0, "isLatin1", "()Z"⟩
abbrev cJ0_checkIndex_df160 : ByteArray := prog_24_method_155_code
def yJ0_checkIndex_df160 : MethodName := ⟨RJ0, "checkIndex", "(II)V"⟩
def RJ1 : String := "java/lang/StringLatin1"
abbrev cJ1_charAt_3b067 : ByteArray := prog_25_method_2_code
def yJ1_charAt_3b067 : MethodName := ⟨RJ1, "charAt", "([BI)C"⟩
abbrev cJ1_canEncode_9a6ad : ByteArray := prog_25_method_4_code
def yJ1_canEncode_9a6ad : MethodName := ⟨RJ1, "canEncode", "(I)Z"⟩
abbrev cJ1_indexOf_4cfef : ByteArray := prog_25_method_22_code
def yJ1_indexOf_4cfef : MethodName := ⟨RJ1, "indexOf", "([BIII)I"⟩
abbrev cJ1_indexOfChar_4cfef : ByteArray := prog_25_method_23_code
def yJ1_indexOfChar_4cfef : MethodName := ⟨RJ1, "indexOfChar", "([BIII)I"⟩
def RJ10 : String := "java/lang/System"
def RJxa1e45 : String := "java/util/AbstractCollection"
abbrev cJxa1e45_init_da8c8 : ByteArray := prog_31_method_1_code
def yJxa1e45_init_da8c8 : MethodName := ⟨RJxa1e45, "<init>", "()V"⟩
def RJxc12de : String := "java/util/AbstractList"
abbrev cJxc12de_init_da8c8 : ByteArray := prog_32_method_1_code
def yJxc12de_init_da8c8 : MethodName := ⟨RJxc12de, "<init>", "()V"⟩
def RJx4a65c : String := "java/util/ArrayList"
def TJx4a65c : u_T := fun k => match k with
  | 0 => ("java/util/AbstractList", "modCount", "I", false)
  | 1 => ("java/util/ArrayList", "elementData", "[Ljava/lang/Object;", false)
  | _ => ("java/util/ArrayList", "size", "I", false)
def tyJx4a65c : Nat → FieldType := fun k => match k with
  | 0 => .int
  | 1 => .array (.object "java/lang/Object")
  | _ => .int
abbrev wsJx4a65c0 : List Cond := u_ws RJx4a65c TJx4a65c 3
theorem nmJx4a65c : ∀ a, a < 3 → ∀ b, b < 3 → a ≠ b → (TJx4a65c a).2.1 ≠ (TJx4a65c b).2.1 := by decide +kernel
theorem tyJx4a65c_ok : ∀ k, k < 3 → parseFieldDescriptor (TJx4a65c k).2.2.1 = some (tyJx4a65c k) := by decide +kernel
abbrev cJx4a65c_init_da8c8 : ByteArray := prog_33_method_2_code
def yJx4a65c_init_da8c8 : MethodName := ⟨RJx4a65c, "<init>", "()V"⟩
abbrev cJx4a65c_grow_92f84 : ByteArray := prog_33_method_6_code
def yJx4a65c_grow_92f84 : MethodName := ⟨RJx4a65c, "grow", "(I)[Ljava/lang/Object;"⟩
abbrev cJx4a65c_grow_d5877 : ByteArray := prog_33_method_7_code
def yJx4a65c_grow_d5877 : MethodName := ⟨RJx4a65c, "grow", "()[Ljava/lang/Object;"⟩
abbrev cJx4a65c_size_8abf5 : ByteArray := prog_33_method_8_code
def yJx4a65c_size_8abf5 : MethodName := ⟨RJx4a65c, "size", "()I"⟩
abbrev cJx4a65c_elementData_915e3 : ByteArray := prog_33_method_18_code
def yJx4a65c_elementData_915e3 : MethodName := ⟨RJx4a65c, "elementData", "(I)Ljava/lang/Object;"⟩
abbrev cJx4a65c_get_915e3 : ByteArray := prog_33_method_20_code
def yJx4a65c_get_915e3 : MethodName := ⟨RJx4a65c, "get", "(I)Ljava/lang/Object;"⟩
abbrev cJx4a65c_set_bcc79 : ByteArray := prog_33_method_23_code
def yJx4a65c_set_bcc79 : MethodName := ⟨RJx4a65c, "set", "(ILjava/lang/Object;)Ljava/lang/Object;"⟩
abbrev cJx4a65c_add_72be8 : ByteArray := prog_33_method_24_code
def yJx4a65c_add_72be8 : MethodName := ⟨RJx4a65c, "add", "(Ljava/lang/Object;[Ljava/lang/Object;I)V"⟩
abbrev cJx4a65c_add_9ea2d : ByteArray := prog_33_method_25_code
def yJx4a65c_add_9ea2d : MethodName := ⟨RJx4a65c, "add", "(Ljava/lang/Object;)Z"⟩
def RJ7 : String := "java/util/Arrays"
abbrev cJ7_fill_53178 : ByteArray := prog_34_method_103_code
def yJ7_fill_53178 : MethodName := ⟨RJ7, "fill", "([II)V"⟩
abbrev cJ7_copyOf_1904c : ByteArray := prog_34_method_119_code
def yJ7_copyOf_1904c : MethodName := ⟨RJ7, "copyOf", "([Ljava/lang/Object;I)[Ljava/lang/Object;"⟩
abbrev cJ7_copyOf_6403c : ByteArray := prog_34_method_120_code
def yJ7_copyOf_6403c : MethodName := ⟨RJ7, "copyOf", "([Ljava/lang/Object;ILjava/lang/Class;)[Ljava/lang/Object;"⟩
abbrev cJ7_copyOf_59c91 : ByteArray := prog_34_method_123_code
def yJ7_copyOf_59c91 : MethodName := ⟨RJ7, "copyOf", "([II)[I"⟩
def RJ15 : String := "java/util/Objects"
abbrev cJ15_checkIndex_7cf53 : ByteArray := prog_37_method_17_code
def yJ15_checkIndex_7cf53 : MethodName := ⟨RJ15, "checkIndex", "(II)I"⟩
def RJ8 : String := "jdk/internal/util/ArraysSupport"
abbrev cJ8_newLength_cabcc : ByteArray := prog_40_method_27_code
def yJ8_newLength_cabcc : MethodName := ⟨RJ8, "newLength", "(III)I"⟩
def RJ3 : String := "jdk/internal/util/Preconditions"
abbrev cJ3_checkIndex_8e157 : ByteArray := prog_41_method_11_code
def yJ3_checkIndex_8e157 : MethodName := ⟨RJ3, "checkIndex", "(IILjava/util/function/BiFunction;)I"⟩
def RL : String := "JudoHallLaw"
abbrev cL_law : ByteArray := code
abbrev vwCl : List vw_C := [(RJx4a65c, TJx4a65c, 3), (RX0, TX0, 6), (RX1, TX1, 6), (RX2, TX2, 3), (RX3, TX3, 4), (RX4, TX4, 9), (RX5, TX5, 14), (RX6, TX6, 14), (RX7, TX7, 4), (RX8, TX8, 1), (RX9, TX9, 1), (RX10, TX10, 6), (RX11, TX11, 11), (RX12, TX12, 6), (RX13, TX13, 72)]
end
section
/-! ===== an instruction by its bytes ===== -/
def fk0 (c : ByteArray) (k : Nat) (b : Nat) : Bool := match c.data.toList.drop k with | x :: _ => Nat.beq x.toNat b | _ => false
def fk1 (c : ByteArray) (k : Nat) (b : Nat) (v : Nat) : Bool := match c.data.toList.drop k with | x :: y :: _ => Nat.beq x.toNat b && Nat.beq y.toNat v | _ => false
def fk2 (c : ByteArray) (k : Nat) (b : Nat) (v : Nat) : Bool := match c.data.toList.drop k with | x :: y :: z :: _ => Nat.beq x.toNat b && Nat.beq (y.toNat * 256 + z.toNat) v | _ => false
def fi1 (c : ByteArray) (k : Nat) (b : Nat) (v : Int) : Bool := match c.data.toList.drop k with | x :: y :: _ => Nat.beq x.toNat b && decide (Reader.signed 8 y.toNat = v) | _ => false
def fi2 (c : ByteArray) (k : Nat) (b : Nat) (v : Int) : Bool := match c.data.toList.drop k with | x :: y :: z :: _ => Nat.beq x.toNat b && decide (Reader.signed 16 (y.toNat * 256 + z.toNat) = v) | _ => false
theorem dr_at : ∀ (l : List UInt8) (k : Nat) {x : UInt8} {xs : List UInt8}, l.drop k = x :: xs → l[k]? = some x ∧ l.drop (k + 1) = xs
  | [], k, x, xs, h => by simp at h
  | a :: l, 0, x, xs, h => by
    have h1 : a :: l = x :: xs := h
    injection h1 with h2 h3
    subst h2; subst h3
    exact ⟨rfl, rfl⟩
  | a :: l, k + 1, x, xs, h => by
    have h1 : l.drop k = x :: xs := h
    exact dr_at l k h1
theorem u1_at {c : ByteArray} {k : Nat} {x : UInt8} (h : c.data.toList[k]? = some x) : (Reader.u1 : Decoder Nat) c k = .ok (x.toNat, k + 1) := by
  obtain ⟨hlt, hx⟩ := List.getElem?_eq_some_iff.mp h
  have hlt1 : k < c.size := hlt
  have e : (Reader.u1 : Decoder Nat) c k = (if h : k < c.size then (do set (k + 1); pure c[k].toNat : Decoder Nat) else throw (HasTruncated.truncated k)) c k := rfl
  rw [e, dif_pos hlt1]
  have hx1 : c[k] = x := hx
  show Except.ok (c[k].toNat, k + 1) = _
  rw [hx1]
theorem bnd2 {α β : Type} {x : Decoder α} {F : α → Decoder β} {c : ByteArray} {k n : Nat} {a : α} {r : Except DecodeError (β × Nat)} (h : x c k = .ok (a, n)) (h2 : F a c n = r) : (x >>= F) c k = r := by
  have e : (x >>= F) c k = Except.bind (x c k) (fun q => F q.1 c q.2) := rfl
  rw [e, h]
  exact h2
theorem map_at {x : Decoder Nat} {f : Nat → Int} {c : ByteArray} {k n a : Nat} (h : x c k = .ok (a, n)) : (f <$> x) c k = .ok (f a, n) := by
  have e : (f <$> x) c k = Except.bind (x c k) (fun q => .ok (f q.1, q.2)) := rfl
  rw [e, h]
  rfl
theorem dec_ok {c : ByteArray} {k : Nat} {i : Instr} (w : Nat) (h : Decoder.instr k c k = .ok (i, k + w)) : decode c k = .ok (i, w) := by
  have e : decode c k = Except.bind (Decoder.instr k c k) (fun q => .ok (q.1, q.2 - k)) := rfl
  rw [e, h]
  show Except.ok (i, k + w - k) = _
  rw [Nat.add_sub_cancel_left]
theorem u2_at {c : ByteArray} {k a b : Nat} (h1 : (Reader.u1 : Decoder Nat) c k = .ok (a, k + 1)) (h2 : (Reader.u1 : Decoder Nat) c (k + 1) = .ok (b, k + 1 + 1)) : (Reader.u2 : Decoder Nat) c k = .ok (a * 256 + b, k + 2) := by
  unfold Reader.u2
  exact bnd2 h1 (bnd2 h2 rfl)
theorem fk0_at {c : ByteArray} {k b : Nat} (h : fk0 c k b = true) : (Reader.u1 : Decoder Nat) c k = .ok (b, k + 1) := by
  unfold fk0 at h
  split at h
  · rename_i x xs e
    have h1 := u1_at (dr_at _ _ e).1
    rw [Nat.eq_of_beq_eq_true h] at h1
    exact h1
  · cases h
theorem and_eq_true_iff_q {a b : Bool} (h : (a && b) = true) : a = true ∧ b = true := by
  cases a with
  | false => cases h
  | true => exact ⟨rfl, h⟩
theorem fk1_at {c : ByteArray} {k b : Nat} {v : Nat} (h : fk1 c k b v = true) : (Reader.u1 : Decoder Nat) c k = .ok (b, k + 1) ∧ (Reader.u1 : Decoder Nat) c (k + 1) = .ok (v, k + 2) := by
  unfold fk1 at h
  split at h
  · rename_i x y xs e
    obtain ⟨e1, e2⟩ := dr_at _ _ e
    have h1 := u1_at e1
    have h2 := u1_at (dr_at _ _ e2).1
    obtain ⟨ha, hb⟩ := and_eq_true_iff_q h
    rw [Nat.eq_of_beq_eq_true ha] at h1
    refine ⟨h1, ?_⟩
    rw [Nat.eq_of_beq_eq_true hb] at h2
    exact h2
  · cases h
theorem fi1_at {c : ByteArray} {k b : Nat} {v : Int} (h : fi1 c k b v = true) : (Reader.u1 : Decoder Nat) c k = .ok (b, k + 1) ∧ (Reader.s1 : Decoder Int) c (k + 1) = .ok (v, k + 2) := by
  unfold fi1 at h
  split at h
  · rename_i x y xs e
    obtain ⟨e1, e2⟩ := dr_at _ _ e
    have h1 := u1_at e1
    have h2 := u1_at (dr_at _ _ e2).1
    obtain ⟨ha, hb⟩ := and_eq_true_iff_q h
    rw [Nat.eq_of_beq_eq_true ha] at h1
    refine ⟨h1, ?_⟩
    have hc := of_decide_eq_true hb
    have h3 := map_at (f := Reader.signed 8) h2
    rw [hc] at h3
    exact h3
  · cases h
theorem fk2_at {c : ByteArray} {k b : Nat} {v : Nat} (h : fk2 c k b v = true) : (Reader.u1 : Decoder Nat) c k = .ok (b, k + 1) ∧ (Reader.u2 : Decoder Nat) c (k + 1) = .ok (v, k + 3) := by
  unfold fk2 at h
  split at h
  · rename_i x y z xs e
    obtain ⟨e1, e2⟩ := dr_at _ _ e
    obtain ⟨e3, e4⟩ := dr_at _ _ e2
    have h1 := u1_at e1
    have h2 := u2_at (u1_at e3) (u1_at (dr_at _ _ e4).1)
    obtain ⟨ha, hb⟩ := and_eq_true_iff_q h
    rw [Nat.eq_of_beq_eq_true ha] at h1
    refine ⟨h1, ?_⟩
    rw [Nat.eq_of_beq_eq_true hb] at h2
    exact h2
  · cases h
theorem fi2_at {c : ByteArray} {k b : Nat} {v : Int} (h : fi2 c k b v = true) : (Reader.u1 : Decoder Nat) c k = .ok (b, k + 1) ∧ (Reader.s2 : Decoder Int) c (k + 1) = .ok (v, k + 3) := by
  unfold fi2 at h
  split at h
  · rename_i x y z xs e
    obtain ⟨e1, e2⟩ := dr_at _ _ e
    obtain ⟨e3, e4⟩ := dr_at _ _ e2
    have h1 := u1_at e1
    have h2 := u2_at (u1_at e3) (u1_at (dr_at _ _ e4).1)
    obtain ⟨ha, hb⟩ := and_eq_true_iff_q h
    rw [Nat.eq_of_beq_eq_true ha] at h1
    refine ⟨h1, ?_⟩
    have hc := of_decide_eq_true hb
    have h3 := map_at (f := Reader.signed 16) h2
    rw [hc] at h3
    exact h3
  · cases h
theorem D_1 {c : ByteArray} {k : Nat} (h : fk0 c k 1 = true) : decode c k = .ok (.aconst_null, 1) := by
  refine dec_ok 1 ?_
  unfold Decoder.instr
  refine bnd2 (fk0_at h) ?_
  rfl
theorem D_2 {c : ByteArray} {k : Nat} (h : fk0 c k 2 = true) : decode c k = .ok (.iconst (-1), 1) := by
  refine dec_ok 1 ?_
  unfold Decoder.instr
  refine bnd2 (fk0_at h) ?_
  rfl
theorem D_3 {c : ByteArray} {k : Nat} (h : fk0 c k 3 = true) : decode c k = .ok (.iconst 0, 1) := by
  refine dec_ok 1 ?_
  unfold Decoder.instr
  refine bnd2 (fk0_at h) ?_
  rfl
theorem D_4 {c : ByteArray} {k : Nat} (h : fk0 c k 4 = true) : decode c k = .ok (.iconst 1, 1) := by
  refine dec_ok 1 ?_
  unfold Decoder.instr
  refine bnd2 (fk0_at h) ?_
  rfl
theorem D_5 {c : ByteArray} {k : Nat} (h : fk0 c k 5 = true) : decode c k = .ok (.iconst 2, 1) := by
  refine dec_ok 1 ?_
  unfold Decoder.instr
  refine bnd2 (fk0_at h) ?_
  rfl
theorem D_6 {c : ByteArray} {k : Nat} (h : fk0 c k 6 = true) : decode c k = .ok (.iconst 3, 1) := by
  refine dec_ok 1 ?_
  unfold Decoder.instr
  refine bnd2 (fk0_at h) ?_
  rfl
theorem D_7 {c : ByteArray} {k : Nat} (h : fk0 c k 7 = true) : decode c k = .ok (.iconst 4, 1) := by
  refine dec_ok 1 ?_
  unfold Decoder.instr
  refine bnd2 (fk0_at h) ?_
  rfl
theorem D_8 {c : ByteArray} {k : Nat} (h : fk0 c k 8 = true) : decode c k = .ok (.iconst 5, 1) := by
  refine dec_ok 1 ?_
  unfold Decoder.instr
  refine bnd2 (fk0_at h) ?_
  rfl
theorem D_9 {c : ByteArray} {k : Nat} (h : fk0 c k 9 = true) : decode c k = .ok (.lconst 0, 1) := by
  refine dec_ok 1 ?_
  unfold Decoder.instr
  refine bnd2 (fk0_at h) ?_
  rfl
theorem D_10 {c : ByteArray} {k : Nat} (h : fk0 c k 10 = true) : decode c k = .ok (.lconst 1, 1) := by
  refine dec_ok 1 ?_
  unfold Decoder.instr
  refine bnd2 (fk0_at h) ?_
  rfl
theorem D_16 {c : ByteArray} {k : Nat} {v : Int} (h : fi1 c k 16 v = true) : decode c k = .ok (.bipush v, 2) := by
  refine dec_ok 2 ?_
  unfold Decoder.instr
  refine bnd2 (fi1_at h).1 ?_
  show ((Reader.s1 : Decoder Int) >>= fun a => pure (Instr.bipush a)) c (k + 1) = _
  exact bnd2 (fi1_at h).2 rfl
theorem D_17 {c : ByteArray} {k : Nat} {v : Int} (h : fi2 c k 17 v = true) : decode c k = .ok (.sipush v, 3) := by
  refine dec_ok 3 ?_
  unfold Decoder.instr
  refine bnd2 (fi2_at h).1 ?_
  show ((Reader.s2 : Decoder Int) >>= fun a => pure (Instr.sipush a)) c (k + 1) = _
  exact bnd2 (fi2_at h).2 rfl
theorem D_18 {c : ByteArray} {k : Nat} {v : Nat} (h : fk1 c k 18 v = true) : decode c k = .ok (.ldc v, 2) := by
  refine dec_ok 2 ?_
  unfold Decoder.instr
  refine bnd2 (fk1_at h).1 ?_
  show ((Reader.u1 : Decoder Nat) >>= fun a => pure (Instr.ldc a)) c (k + 1) = _
  exact bnd2 (fk1_at h).2 rfl
theorem D_19 {c : ByteArray} {k : Nat} {v : Nat} (h : fk2 c k 19 v = true) : decode c k = .ok (.ldc_w v, 3) := by
  refine dec_ok 3 ?_
  unfold Decoder.instr
  refine bnd2 (fk2_at h).1 ?_
  show ((Reader.u2 : Decoder Nat) >>= fun a => pure (Instr.ldc_w a)) c (k + 1) = _
  exact bnd2 (fk2_at h).2 rfl
theorem D_20 {c : ByteArray} {k : Nat} {v : Nat} (h : fk2 c k 20 v = true) : decode c k = .ok (.ldc2_w v, 3) := by
  refine dec_ok 3 ?_
  unfold Decoder.instr
  refine bnd2 (fk2_at h).1 ?_
  show ((Reader.u2 : Decoder Nat) >>= fun a => pure (Instr.ldc2_w a)) c (k + 1) = _
  exact bnd2 (fk2_at h).2 rfl
theorem D_21 {c : ByteArray} {k : Nat} {v : Nat} (h : fk1 c k 21 v = true) : decode c k = .ok (.iload v, 2) := by
  refine dec_ok 2 ?_
  unfold Decoder.instr
  refine bnd2 (fk1_at h).1 ?_
  show ((Reader.u1 : Decoder Nat) >>= fun a => pure (Instr.iload a)) c (k + 1) = _
  exact bnd2 (fk1_at h).2 rfl
theorem D_22 {c : ByteArray} {k : Nat} {v : Nat} (h : fk1 c k 22 v = true) : decode c k = .ok (.lload v, 2) := by
  refine dec_ok 2 ?_
  unfold Decoder.instr
  refine bnd2 (fk1_at h).1 ?_
  show ((Reader.u1 : Decoder Nat) >>= fun a => pure (Instr.lload a)) c (k + 1) = _
  exact bnd2 (fk1_at h).2 rfl
theorem D_26 {c : ByteArray} {k : Nat} (h : fk0 c k 26 = true) : decode c k = .ok (.iload_n 0, 1) := by
  refine dec_ok 1 ?_
  unfold Decoder.instr
  refine bnd2 (fk0_at h) ?_
  rfl
theorem D_27 {c : ByteArray} {k : Nat} (h : fk0 c k 27 = true) : decode c k = .ok (.iload_n 1, 1) := by
  refine dec_ok 1 ?_
  unfold Decoder.instr
  refine bnd2 (fk0_at h) ?_
  rfl
theorem D_28 {c : ByteArray} {k : Nat} (h : fk0 c k 28 = true) : decode c k = .ok (.iload_n 2, 1) := by
  refine dec_ok 1 ?_
  unfold Decoder.instr
  refine bnd2 (fk0_at h) ?_
  rfl
theorem D_29 {c : ByteArray} {k : Nat} (h : fk0 c k 29 = true) : decode c k = .ok (.iload_n 3, 1) := by
  refine dec_ok 1 ?_
  unfold Decoder.instr
  refine bnd2 (fk0_at h) ?_
  rfl
theorem D_30 {c : ByteArray} {k : Nat} (h : fk0 c k 30 = true) : decode c k = .ok (.lload_n 0, 1) := by
  refine dec_ok 1 ?_
  unfold Decoder.instr
  refine bnd2 (fk0_at h) ?_
  rfl
theorem D_32 {c : ByteArray} {k : Nat} (h : fk0 c k 32 = true) : decode c k = .ok (.lload_n 2, 1) := by
  refine dec_ok 1 ?_
  unfold Decoder.instr
  refine bnd2 (fk0_at h) ?_
  rfl
theorem D_42 {c : ByteArray} {k : Nat} (h : fk0 c k 42 = true) : decode c k = .ok (.aload_n 0, 1) := by
  refine dec_ok 1 ?_
  unfold Decoder.instr
  refine bnd2 (fk0_at h) ?_
  rfl
theorem D_43 {c : ByteArray} {k : Nat} (h : fk0 c k 43 = true) : decode c k = .ok (.aload_n 1, 1) := by
  refine dec_ok 1 ?_
  unfold Decoder.instr
  refine bnd2 (fk0_at h) ?_
  rfl
theorem D_44 {c : ByteArray} {k : Nat} (h : fk0 c k 44 = true) : decode c k = .ok (.aload_n 2, 1) := by
  refine dec_ok 1 ?_
  unfold Decoder.instr
  refine bnd2 (fk0_at h) ?_
  rfl
theorem D_46 {c : ByteArray} {k : Nat} (h : fk0 c k 46 = true) : decode c k = .ok (.iaload, 1) := by
  refine dec_ok 1 ?_
  unfold Decoder.instr
  refine bnd2 (fk0_at h) ?_
  rfl
theorem D_51 {c : ByteArray} {k : Nat} (h : fk0 c k 51 = true) : decode c k = .ok (.baload, 1) := by
  refine dec_ok 1 ?_
  unfold Decoder.instr
  refine bnd2 (fk0_at h) ?_
  rfl
theorem D_54 {c : ByteArray} {k : Nat} {v : Nat} (h : fk1 c k 54 v = true) : decode c k = .ok (.istore v, 2) := by
  refine dec_ok 2 ?_
  unfold Decoder.instr
  refine bnd2 (fk1_at h).1 ?_
  show ((Reader.u1 : Decoder Nat) >>= fun a => pure (Instr.istore a)) c (k + 1) = _
  exact bnd2 (fk1_at h).2 rfl
theorem D_58 {c : ByteArray} {k : Nat} {v : Nat} (h : fk1 c k 58 v = true) : decode c k = .ok (.astore v, 2) := by
  refine dec_ok 2 ?_
  unfold Decoder.instr
  refine bnd2 (fk1_at h).1 ?_
  show ((Reader.u1 : Decoder Nat) >>= fun a => pure (Instr.astore a)) c (k + 1) = _
  exact bnd2 (fk1_at h).2 rfl
theorem D_60 {c : ByteArray} {k : Nat} (h : fk0 c k 60 = true) : decode c k = .ok (.istore_n 1, 1) := by
  refine dec_ok 1 ?_
  unfold Decoder.instr
  refine bnd2 (fk0_at h) ?_
  rfl
theorem D_61 {c : ByteArray} {k : Nat} (h : fk0 c k 61 = true) : decode c k = .ok (.istore_n 2, 1) := by
  refine dec_ok 1 ?_
  unfold Decoder.instr
  refine bnd2 (fk0_at h) ?_
  rfl
theorem D_62 {c : ByteArray} {k : Nat} (h : fk0 c k 62 = true) : decode c k = .ok (.istore_n 3, 1) := by
  refine dec_ok 1 ?_
  unfold Decoder.instr
  refine bnd2 (fk0_at h) ?_
  rfl
theorem D_76 {c : ByteArray} {k : Nat} (h : fk0 c k 76 = true) : decode c k = .ok (.astore_n 1, 1) := by
  refine dec_ok 1 ?_
  unfold Decoder.instr
  refine bnd2 (fk0_at h) ?_
  rfl
theorem D_77 {c : ByteArray} {k : Nat} (h : fk0 c k 77 = true) : decode c k = .ok (.astore_n 2, 1) := by
  refine dec_ok 1 ?_
  unfold Decoder.instr
  refine bnd2 (fk0_at h) ?_
  rfl
theorem D_78 {c : ByteArray} {k : Nat} (h : fk0 c k 78 = true) : decode c k = .ok (.astore_n 3, 1) := by
  refine dec_ok 1 ?_
  unfold Decoder.instr
  refine bnd2 (fk0_at h) ?_
  rfl
theorem D_79 {c : ByteArray} {k : Nat} (h : fk0 c k 79 = true) : decode c k = .ok (.iastore, 1) := by
  refine dec_ok 1 ?_
  unfold Decoder.instr
  refine bnd2 (fk0_at h) ?_
  rfl
theorem D_84 {c : ByteArray} {k : Nat} (h : fk0 c k 84 = true) : decode c k = .ok (.bastore, 1) := by
  refine dec_ok 1 ?_
  unfold Decoder.instr
  refine bnd2 (fk0_at h) ?_
  rfl
theorem D_87 {c : ByteArray} {k : Nat} (h : fk0 c k 87 = true) : decode c k = .ok (.pop, 1) := by
  refine dec_ok 1 ?_
  unfold Decoder.instr
  refine bnd2 (fk0_at h) ?_
  rfl
theorem D_89 {c : ByteArray} {k : Nat} (h : fk0 c k 89 = true) : decode c k = .ok (.dup, 1) := by
  refine dec_ok 1 ?_
  unfold Decoder.instr
  refine bnd2 (fk0_at h) ?_
  rfl
theorem D_92 {c : ByteArray} {k : Nat} (h : fk0 c k 92 = true) : decode c k = .ok (.dup2, 1) := by
  refine dec_ok 1 ?_
  unfold Decoder.instr
  refine bnd2 (fk0_at h) ?_
  rfl
theorem D_96 {c : ByteArray} {k : Nat} (h : fk0 c k 96 = true) : decode c k = .ok (.iadd, 1) := by
  refine dec_ok 1 ?_
  unfold Decoder.instr
  refine bnd2 (fk0_at h) ?_
  rfl
theorem D_97 {c : ByteArray} {k : Nat} (h : fk0 c k 97 = true) : decode c k = .ok (.ladd, 1) := by
  refine dec_ok 1 ?_
  unfold Decoder.instr
  refine bnd2 (fk0_at h) ?_
  rfl
theorem D_100 {c : ByteArray} {k : Nat} (h : fk0 c k 100 = true) : decode c k = .ok (.isub, 1) := by
  refine dec_ok 1 ?_
  unfold Decoder.instr
  refine bnd2 (fk0_at h) ?_
  rfl
theorem D_101 {c : ByteArray} {k : Nat} (h : fk0 c k 101 = true) : decode c k = .ok (.lsub, 1) := by
  refine dec_ok 1 ?_
  unfold Decoder.instr
  refine bnd2 (fk0_at h) ?_
  rfl
theorem D_104 {c : ByteArray} {k : Nat} (h : fk0 c k 104 = true) : decode c k = .ok (.imul, 1) := by
  refine dec_ok 1 ?_
  unfold Decoder.instr
  refine bnd2 (fk0_at h) ?_
  rfl
theorem D_108 {c : ByteArray} {k : Nat} (h : fk0 c k 108 = true) : decode c k = .ok (.idiv, 1) := by
  refine dec_ok 1 ?_
  unfold Decoder.instr
  refine bnd2 (fk0_at h) ?_
  rfl
theorem D_112 {c : ByteArray} {k : Nat} (h : fk0 c k 112 = true) : decode c k = .ok (.irem, 1) := by
  refine dec_ok 1 ?_
  unfold Decoder.instr
  refine bnd2 (fk0_at h) ?_
  rfl
theorem D_120 {c : ByteArray} {k : Nat} (h : fk0 c k 120 = true) : decode c k = .ok (.ishl, 1) := by
  refine dec_ok 1 ?_
  unfold Decoder.instr
  refine bnd2 (fk0_at h) ?_
  rfl
theorem D_122 {c : ByteArray} {k : Nat} (h : fk0 c k 122 = true) : decode c k = .ok (.ishr, 1) := by
  refine dec_ok 1 ?_
  unfold Decoder.instr
  refine bnd2 (fk0_at h) ?_
  rfl
theorem D_126 {c : ByteArray} {k : Nat} (h : fk0 c k 126 = true) : decode c k = .ok (.iand, 1) := by
  refine dec_ok 1 ?_
  unfold Decoder.instr
  refine bnd2 (fk0_at h) ?_
  rfl
theorem D_128 {c : ByteArray} {k : Nat} (h : fk0 c k 128 = true) : decode c k = .ok (.ior, 1) := by
  refine dec_ok 1 ?_
  unfold Decoder.instr
  refine bnd2 (fk0_at h) ?_
  rfl
theorem D_130 {c : ByteArray} {k : Nat} (h : fk0 c k 130 = true) : decode c k = .ok (.ixor, 1) := by
  refine dec_ok 1 ?_
  unfold Decoder.instr
  refine bnd2 (fk0_at h) ?_
  rfl
theorem D_133 {c : ByteArray} {k : Nat} (h : fk0 c k 133 = true) : decode c k = .ok (.i2l, 1) := by
  refine dec_ok 1 ?_
  unfold Decoder.instr
  refine bnd2 (fk0_at h) ?_
  rfl
theorem D_145 {c : ByteArray} {k : Nat} (h : fk0 c k 145 = true) : decode c k = .ok (.i2b, 1) := by
  refine dec_ok 1 ?_
  unfold Decoder.instr
  refine bnd2 (fk0_at h) ?_
  rfl
theorem D_146 {c : ByteArray} {k : Nat} (h : fk0 c k 146 = true) : decode c k = .ok (.i2c, 1) := by
  refine dec_ok 1 ?_
  unfold Decoder.instr
  refine bnd2 (fk0_at h) ?_
  rfl
theorem D_148 {c : ByteArray} {k : Nat} (h : fk0 c k 148 = true) : decode c k = .ok (.lcmp, 1) := by
  refine dec_ok 1 ?_
  unfold Decoder.instr
  refine bnd2 (fk0_at h) ?_
  rfl
theorem D_153 {c : ByteArray} {k : Nat} {v : Int} (h : fi2 c k 153 v = true) : decode c k = .ok (.ifCond .eq v, 3) := by
  refine dec_ok 3 ?_
  unfold Decoder.instr
  refine bnd2 (fi2_at h).1 ?_
  show ((Reader.s2 : Decoder Int) >>= fun a => pure (Instr.ifCond .eq a)) c (k + 1) = _
  exact bnd2 (fi2_at h).2 rfl
theorem D_154 {c : ByteArray} {k : Nat} {v : Int} (h : fi2 c k 154 v = true) : decode c k = .ok (.ifCond .ne v, 3) := by
  refine dec_ok 3 ?_
  unfold Decoder.instr
  refine bnd2 (fi2_at h).1 ?_
  show ((Reader.s2 : Decoder Int) >>= fun a => pure (Instr.ifCond .ne a)) c (k + 1) = _
  exact bnd2 (fi2_at h).2 rfl
theorem D_155 {c : ByteArray} {k : Nat} {v : Int} (h : fi2 c k 155 v = true) : decode c k = .ok (.ifCond .lt v, 3) := by
  refine dec_ok 3 ?_
  unfold Decoder.instr
  refine bnd2 (fi2_at h).1 ?_
  show ((Reader.s2 : Decoder Int) >>= fun a => pure (Instr.ifCond .lt a)) c (k + 1) = _
  exact bnd2 (fi2_at h).2 rfl
theorem D_156 {c : ByteArray} {k : Nat} {v : Int} (h : fi2 c k 156 v = true) : decode c k = .ok (.ifCond .ge v, 3) := by
  refine dec_ok 3 ?_
  unfold Decoder.instr
  refine bnd2 (fi2_at h).1 ?_
  show ((Reader.s2 : Decoder Int) >>= fun a => pure (Instr.ifCond .ge a)) c (k + 1) = _
  exact bnd2 (fi2_at h).2 rfl
theorem D_157 {c : ByteArray} {k : Nat} {v : Int} (h : fi2 c k 157 v = true) : decode c k = .ok (.ifCond .gt v, 3) := by
  refine dec_ok 3 ?_
  unfold Decoder.instr
  refine bnd2 (fi2_at h).1 ?_
  show ((Reader.s2 : Decoder Int) >>= fun a => pure (Instr.ifCond .gt a)) c (k + 1) = _
  exact bnd2 (fi2_at h).2 rfl
theorem D_158 {c : ByteArray} {k : Nat} {v : Int} (h : fi2 c k 158 v = true) : decode c k = .ok (.ifCond .le v, 3) := by
  refine dec_ok 3 ?_
  unfold Decoder.instr
  refine bnd2 (fi2_at h).1 ?_
  show ((Reader.s2 : Decoder Int) >>= fun a => pure (Instr.ifCond .le a)) c (k + 1) = _
  exact bnd2 (fi2_at h).2 rfl
theorem D_159 {c : ByteArray} {k : Nat} {v : Int} (h : fi2 c k 159 v = true) : decode c k = .ok (.if_icmp .eq v, 3) := by
  refine dec_ok 3 ?_
  unfold Decoder.instr
  refine bnd2 (fi2_at h).1 ?_
  show ((Reader.s2 : Decoder Int) >>= fun a => pure (Instr.if_icmp .eq a)) c (k + 1) = _
  exact bnd2 (fi2_at h).2 rfl
theorem D_160 {c : ByteArray} {k : Nat} {v : Int} (h : fi2 c k 160 v = true) : decode c k = .ok (.if_icmp .ne v, 3) := by
  refine dec_ok 3 ?_
  unfold Decoder.instr
  refine bnd2 (fi2_at h).1 ?_
  show ((Reader.s2 : Decoder Int) >>= fun a => pure (Instr.if_icmp .ne a)) c (k + 1) = _
  exact bnd2 (fi2_at h).2 rfl
theorem D_161 {c : ByteArray} {k : Nat} {v : Int} (h : fi2 c k 161 v = true) : decode c k = .ok (.if_icmp .lt v, 3) := by
  refine dec_ok 3 ?_
  unfold Decoder.instr
  refine bnd2 (fi2_at h).1 ?_
  show ((Reader.s2 : Decoder Int) >>= fun a => pure (Instr.if_icmp .lt a)) c (k + 1) = _
  exact bnd2 (fi2_at h).2 rfl
theorem D_162 {c : ByteArray} {k : Nat} {v : Int} (h : fi2 c k 162 v = true) : decode c k = .ok (.if_icmp .ge v, 3) := by
  refine dec_ok 3 ?_
  unfold Decoder.instr
  refine bnd2 (fi2_at h).1 ?_
  show ((Reader.s2 : Decoder Int) >>= fun a => pure (Instr.if_icmp .ge a)) c (k + 1) = _
  exact bnd2 (fi2_at h).2 rfl
theorem D_163 {c : ByteArray} {k : Nat} {v : Int} (h : fi2 c k 163 v = true) : decode c k = .ok (.if_icmp .gt v, 3) := by
  refine dec_ok 3 ?_
  unfold Decoder.instr
  refine bnd2 (fi2_at h).1 ?_
  show ((Reader.s2 : Decoder Int) >>= fun a => pure (Instr.if_icmp .gt a)) c (k + 1) = _
  exact bnd2 (fi2_at h).2 rfl
theorem D_164 {c : ByteArray} {k : Nat} {v : Int} (h : fi2 c k 164 v = true) : decode c k = .ok (.if_icmp .le v, 3) := by
  refine dec_ok 3 ?_
  unfold Decoder.instr
  refine bnd2 (fi2_at h).1 ?_
  show ((Reader.s2 : Decoder Int) >>= fun a => pure (Instr.if_icmp .le a)) c (k + 1) = _
  exact bnd2 (fi2_at h).2 rfl
theorem D_167 {c : ByteArray} {k : Nat} {v : Int} (h : fi2 c k 167 v = true) : decode c k = .ok (.goto v, 3) := by
  refine dec_ok 3 ?_
  unfold Decoder.instr
  refine bnd2 (fi2_at h).1 ?_
  show ((Reader.s2 : Decoder Int) >>= fun a => pure (Instr.goto a)) c (k + 1) = _
  exact bnd2 (fi2_at h).2 rfl
theorem D_172 {c : ByteArray} {k : Nat} (h : fk0 c k 172 = true) : decode c k = .ok (.ireturn, 1) := by
  refine dec_ok 1 ?_
  unfold Decoder.instr
  refine bnd2 (fk0_at h) ?_
  rfl
theorem D_176 {c : ByteArray} {k : Nat} (h : fk0 c k 176 = true) : decode c k = .ok (.areturn, 1) := by
  refine dec_ok 1 ?_
  unfold Decoder.instr
  refine bnd2 (fk0_at h) ?_
  rfl
theorem D_177 {c : ByteArray} {k : Nat} (h : fk0 c k 177 = true) : decode c k = .ok (.return_, 1) := by
  refine dec_ok 1 ?_
  unfold Decoder.instr
  refine bnd2 (fk0_at h) ?_
  rfl
theorem D_178 {c : ByteArray} {k : Nat} {v : Nat} (h : fk2 c k 178 v = true) : decode c k = .ok (.getstatic v, 3) := by
  refine dec_ok 3 ?_
  unfold Decoder.instr
  refine bnd2 (fk2_at h).1 ?_
  show ((Reader.u2 : Decoder Nat) >>= fun a => pure (Instr.getstatic a)) c (k + 1) = _
  exact bnd2 (fk2_at h).2 rfl
theorem D_180 {c : ByteArray} {k : Nat} {v : Nat} (h : fk2 c k 180 v = true) : decode c k = .ok (.getfield v, 3) := by
  refine dec_ok 3 ?_
  unfold Decoder.instr
  refine bnd2 (fk2_at h).1 ?_
  show ((Reader.u2 : Decoder Nat) >>= fun a => pure (Instr.getfield a)) c (k + 1) = _
  exact bnd2 (fk2_at h).2 rfl
theorem D_181 {c : ByteArray} {k : Nat} {v : Nat} (h : fk2 c k 181 v = true) : decode c k = .ok (.putfield v, 3) := by
  refine dec_ok 3 ?_
  unfold Decoder.instr
  refine bnd2 (fk2_at h).1 ?_
  show ((Reader.u2 : Decoder Nat) >>= fun a => pure (Instr.putfield a)) c (k + 1) = _
  exact bnd2 (fk2_at h).2 rfl
theorem D_182 {c : ByteArray} {k : Nat} {v : Nat} (h : fk2 c k 182 v = true) : decode c k = .ok (.invokevirtual v, 3) := by
  refine dec_ok 3 ?_
  unfold Decoder.instr
  refine bnd2 (fk2_at h).1 ?_
  show ((Reader.u2 : Decoder Nat) >>= fun a => pure (Instr.invokevirtual a)) c (k + 1) = _
  exact bnd2 (fk2_at h).2 rfl
theorem D_183 {c : ByteArray} {k : Nat} {v : Nat} (h : fk2 c k 183 v = true) : decode c k = .ok (.invokespecial v, 3) := by
  refine dec_ok 3 ?_
  unfold Decoder.instr
  refine bnd2 (fk2_at h).1 ?_
  show ((Reader.u2 : Decoder Nat) >>= fun a => pure (Instr.invokespecial a)) c (k + 1) = _
  exact bnd2 (fk2_at h).2 rfl
theorem D_184 {c : ByteArray} {k : Nat} {v : Nat} (h : fk2 c k 184 v = true) : decode c k = .ok (.invokestatic v, 3) := by
  refine dec_ok 3 ?_
  unfold Decoder.instr
  refine bnd2 (fk2_at h).1 ?_
  show ((Reader.u2 : Decoder Nat) >>= fun a => pure (Instr.invokestatic a)) c (k + 1) = _
  exact bnd2 (fk2_at h).2 rfl
theorem D_187 {c : ByteArray} {k : Nat} {v : Nat} (h : fk2 c k 187 v = true) : decode c k = .ok (.new v, 3) := by
  refine dec_ok 3 ?_
  unfold Decoder.instr
  refine bnd2 (fk2_at h).1 ?_
  show ((Reader.u2 : Decoder Nat) >>= fun a => pure (Instr.new a)) c (k + 1) = _
  exact bnd2 (fk2_at h).2 rfl
theorem D_190 {c : ByteArray} {k : Nat} (h : fk0 c k 190 = true) : decode c k = .ok (.arraylength, 1) := by
  refine dec_ok 1 ?_
  unfold Decoder.instr
  refine bnd2 (fk0_at h) ?_
  rfl
theorem D_191 {c : ByteArray} {k : Nat} (h : fk0 c k 191 = true) : decode c k = .ok (.athrow, 1) := by
  refine dec_ok 1 ?_
  unfold Decoder.instr
  refine bnd2 (fk0_at h) ?_
  rfl
theorem D_192 {c : ByteArray} {k : Nat} {v : Nat} (h : fk2 c k 192 v = true) : decode c k = .ok (.checkcast v, 3) := by
  refine dec_ok 3 ?_
  unfold Decoder.instr
  refine bnd2 (fk2_at h).1 ?_
  show ((Reader.u2 : Decoder Nat) >>= fun a => pure (Instr.checkcast a)) c (k + 1) = _
  exact bnd2 (fk2_at h).2 rfl
end
