/-! ===== small words of functions that may fail ===== -/
abbrev MS : Type := (Nat → Int32) × (Nat → Nat → Int32)
def og {α : Type} (b : Bool) (x : Option α) : Option α := match b with
  | true => x
  | false => none
def gi (i : Int32) (n : Nat) : Bool := decide (¬ (i < 0 ∨ n ≤ i.toNatClampNeg))
def gz (y : Int32) : Bool := decide (¬ y = 0)
def gb (y : Int32) : Bool := decide (y = 0 ∨ y = 1)
def gc (y : Int32) : Bool := decide (y.toUInt32.toUInt16.toUInt32.toInt32 = y)
def oi {β : Type} (x : Option Int32) (k : Int32 → Option β) : Option β := match x with
  | some a => k a
  | none => none
def li {β : Type} (x : Int32) (k : Int32 → Option β) : Option β := k x
def fuel : Nat := 4294967296
theorem og_some {α : Type} {b : Bool} {x : Option α} {y : α} (h : og b x = some y) : b = true ∧ x = some y := by
  cases b with
  | true => exact ⟨rfl, h⟩
  | false => cases h
theorem oi_some {β : Type} {x : Option Int32} {k : Int32 → Option β} {y : β} (h : oi x k = some y) : ∃ a : Int32, x = some a ∧ k a = some y := by
  cases x with
  | none => cases h
  | some q => exact ⟨q, rfl, h⟩
theorem li_some {β : Type} {x : Int32} {k : Int32 → Option β} {y : β} (h : li x k = some y) : ∃ v : Int32, x = v ∧ k v = some y := ⟨x, rfl, h⟩
theorem gi_in {i : Int32} {n : Nat} (h : gi i n = true) : vp_in i n := of_decide_eq_true (p := ¬ (i < 0 ∨ n ≤ i.toNatClampNeg)) h
theorem gz_ne {y : Int32} (h : gz y = true) : ¬ y = 0 := of_decide_eq_true h
theorem gb_nar {r : Int32} (h : gb r = true) : narrow FieldType.boolean (Value.int r) = Value.int r := by
  rcases (of_decide_eq_true h : r = 0 ∨ r = 1) with rfl | rfl <;> rfl
theorem gc_nar {r : Int32} (h : gc r = true) : narrow FieldType.char (Value.int r) = Value.int r := congrArg Value.int (of_decide_eq_true h)

def sB : List (String × Nat × String × List Int32) := [("JudoHallModel", 289, "();+-<>=", [40, 41, 59, 43, 45, 60, 62, 61]), ("JudoHallModel", 318, "time", [116, 105, 109, 101]), ("JudoHallModel", 319, "golden", [103, 111, 108, 100, 101, 110]), ("JudoHallModel", 320, "sign", [115, 105, 103, 110]), ("JudoHallModel", 322, "win", [119, 105, 110]), ("JudoHallModel", 324, "when", [119, 104, 101, 110]), ("JudoHallModel", 326, "or", [111, 114]), ("JudoHallModel", 328, "and", [97, 110, 100]), ("JudoHallModel", 330, "not", [110, 111, 116]), ("JudoHallModel", 332, "over", [111, 118, 101, 114]), ("JudoHallModel", 334, "extra", [101, 120, 116, 114, 97]), ("JudoHallModel", 336, "mine", [109, 105, 110, 101]), ("JudoHallModel", 338, "yours", [121, 111, 117, 114, 115]), ("JudoHallModel", 340, "left", [108, 101, 102, 116]), ("JudoHallModel", 355, ";", [59]), ("JudoHallModel", 392, "(", [40]), ("JudoHallModel", 394, ")", [41]), ("JudoHallModel", 399, "<", [60]), ("JudoHallModel", 401, "<=", [60, 61]), ("JudoHallModel", 403, ">", [62]), ("JudoHallModel", 405, ">=", [62, 61]), ("JudoHallModel", 407, "=", [61]), ("JudoHallModel", 409, "!=", [33, 61]), ("JudoHallModel", 414, "+", [43]), ("JudoHallModel", 416, "-", [45]), ("JudoHall$Tape", 68, "time", [116, 105, 109, 101]), ("JudoHall$Tape", 74, "golden", [103, 111, 108, 100, 101, 110]), ("JudoHall$Tape", 76, "sign", [115, 105, 103, 110]), ("JudoHall$Tape", 78, "win", [119, 105, 110]), ("JudoHall$Tape", 80, "when", [119, 104, 101, 110]), ("JudoHall$Tape", 82, "or", [111, 114]), ("JudoHall$Tape", 84, "and", [97, 110, 100]), ("JudoHall$Tape", 86, "not", [110, 111, 116]), ("JudoHall$Tape", 88, "over", [111, 118, 101, 114]), ("JudoHall$Tape", 90, "extra", [101, 120, 116, 114, 97]), ("JudoHall$Tape", 92, "mine", [109, 105, 110, 101]), ("JudoHall$Tape", 94, "yours", [121, 111, 117, 114, 115]), ("JudoHall$Tape", 96, "left", [108, 101, 102, 116])]
def sOw (i : Nat) : String := (sB.getD i ("", 0, "", [])).1
def sCp (i : Nat) : Nat := (sB.getD i ("", 0, "", [])).2.1
def sTx (i : Nat) : String := (sB.getD i ("", 0, "", [])).2.2.1
def sBy (i : Nat) : List Int32 := (sB.getD i ("", 0, "", [])).2.2.2
abbrev gM : Type := (Nat → Nat) × (Nat → Nat) × Value
/-- what is known of String constants and of the two static fields that String's own methods read -/
def sE (Z : gM) (A : Nat → Prop) (U : State) (H : Heap) : Prop := (va_Z "java/lang/String" "COMPACT_STRINGS" "Z" (.int 1) A U H ∧ va_Z "jdk/internal/util/Preconditions" "SIOOBE_FORMATTER" "Ljava/util/function/BiFunction;" Z.2.2 A U H ∧ (Z.2.2 = .null ∨ ∃ a, Z.2.2 = .ref a)) ∧ (∀ i : Nat, i < 38 → va_O "java/lang/String" (Z.1 i) A U H ∧ va_OF "java/lang/String" "coder" "B" (.int 0) (Z.1 i) A U H ∧ va_OF "java/lang/String" "value" "[B" (.ref (Z.2.1 i)) (Z.1 i) A U H ∧ va_T .byte (Z.2.1 i) (sBy i).length (fun j => .int ((sBy i).getD j 0)) A U H) ∧ (∀ i : Nat, i < 38 → vk_R (sOw i) (sCp i) (sTx i) (Z.1 i) U) ∧ va_Nw (.castable "JudoHallModel$Stop" "JudoHallModel$Stop") U
theorem sE.kept {Z : gM} {A : Nat → Prop} {U : State} {H H1 : Heap} (h : sE Z A U H) (hq : ∀ a : Nat, a < H.size → ¬ A a → H1[a]? = H[a]?) : sE Z A U H1 := ⟨⟨h.1.1.kept hq, h.1.2.1.kept hq, h.1.2.2⟩, fun i hi => ⟨(h.2.1 i hi).1.kept hq, (h.2.1 i hi).2.1.kept hq, (h.2.1 i hi).2.2.1.kept hq, (h.2.1 i hi).2.2.2.kept hq⟩, h.2.2⟩
theorem sE.narrow {Z : gM} {A B : Nat → Prop} {U : State} {H : Heap} (h : sE Z A U H) (hAB : ∀ q, B q → A q) : sE Z B U H := ⟨⟨h.1.1.narrow hAB, h.1.2.1.narrow hAB, h.1.2.2⟩, fun i hi => ⟨(h.2.1 i hi).1.narrow hAB, (h.2.1 i hi).2.1.narrow hAB, (h.2.1 i hi).2.2.1.narrow hAB, (h.2.1 i hi).2.2.2.narrow hAB⟩, h.2.2⟩
theorem sE.moved {Z : gM} {A : Nat → Prop} {s U : State} {H : Heap} (hW : s.WarmedH U.vm) (h : sE Z A s H) : sE Z A U H := ⟨⟨h.1.1.moved hW.alike, h.1.2.1.moved hW.alike, h.1.2.2⟩, fun i hi => ⟨(h.2.1 i hi).1.moved hW.alike, (h.2.1 i hi).2.1.moved hW.alike, (h.2.1 i hi).2.2.1.moved hW.alike, (h.2.1 i hi).2.2.2.moved hW.alike⟩, fun i hi => (h.2.2.1 i hi).warm hW, va_Nw.warmC hW h.2.2.2⟩
theorem sE.calling {Z : gM} {A : Nat → Prop} {U : State} (g : JFrame) (mk : MethodId) (a : Array Value) (h : sE Z A U U.heap) : sE Z A (U.calling g mk a) (U.calling g mk a).heap := h.moved (s := U) (U := U.calling g mk a) (State.WarmedH.refl U)
def sP (Z : gM) (A : Nat → Prop) (U : State) : Prop := sE Z A U U.heap
theorem sP.blind {Z : gM} {A : Nat → Prop} {av : List Value} : FrameBlind (va_Pc av (sP Z A)) := fun _ U g mk q => ⟨q.1, q.2.calling g mk _⟩

theorem dJ0_coder_7d493_0 : decode cJ0_coder_7d493 0 = .ok (.getstatic 38, 3) := by decide +kernel
theorem dJ0_coder_7d493_3 : decode cJ0_coder_7d493 3 = .ok (.ifCond .eq 10, 3) := by decide +kernel
theorem dJ0_coder_7d493_6 : decode cJ0_coder_7d493 6 = .ok (.aload_n 0, 1) := by decide +kernel
theorem dJ0_coder_7d493_7 : decode cJ0_coder_7d493 7 = .ok (.getfield 15, 3) := by decide +kernel
theorem dJ0_coder_7d493_10 : decode cJ0_coder_7d493 10 = .ok (.goto 4, 3) := by decide +kernel
theorem dJ0_coder_7d493_13 : decode cJ0_coder_7d493 13 = .ok (.iconst 1, 1) := by decide +kernel
theorem dJ0_coder_7d493_14 : decode cJ0_coder_7d493 14 = .ok (.ireturn, 1) := by decide +kernel
theorem kSJ0_coder_7d493 : yJ0_coder_7d493.cls ≠ "java/lang/invoke/MethodHandle" ∧ yJ0_coder_7d493.cls ≠ "java/lang/invoke/VarHandle" ∧ (parseMethodDescriptor yJ0_coder_7d493.desc).map (fun d => d.parameters.length) = some 0 := by decide +kernel
theorem kVJ0_coder_7d493 : yJ0_coder_7d493.cls = RJ0 ∧ yJ0_coder_7d493.cls ≠ "java/lang/invoke/MethodHandle" ∧ yJ0_coder_7d493.cls ≠ "java/lang/invoke/VarHandle" ∧ (parseMethodDescriptor yJ0_coder_7d493.desc).map (fun d => d.parameters.length) = some 0 := ⟨rfl, kSJ0_coder_7d493⟩
theorem dJ0_isLatin1_aae02_0 : decode cJ0_isLatin1_aae02 0 = .ok (.getstatic 38, 3) := by decide +kernel
theorem dJ0_isLatin1_aae02_3 : decode cJ0_isLatin1_aae02 3 = .ok (.ifCond .eq 14, 3) := by decide +kernel
theorem dJ0_isLatin1_aae02_6 : decode cJ0_isLatin1_aae02 6 = .ok (.aload_n 0, 1) := by decide +kernel
theorem dJ0_isLatin1_aae02_7 : decode cJ0_isLatin1_aae02 7 = .ok (.getfield 15, 3) := by decide +kernel
theorem dJ0_isLatin1_aae02_10 : decode cJ0_isLatin1_aae02 10 = .ok (.ifCond .ne 7, 3) := by decide +kernel
theorem dJ0_isLatin1_aae02_13 : decode cJ0_isLatin1_aae02 13 = .ok (.iconst 1, 1) := by decide +kernel
theorem dJ0_isLatin1_aae02_14 : decode cJ0_isLatin1_aae02 14 = .ok (.goto 4, 3) := by decide +kernel
theorem dJ0_isLatin1_aae02_17 : decode cJ0_isLatin1_aae02 17 = .ok (.iconst 0, 1) := by decide +kernel
theorem dJ0_isLatin1_aae02_18 : decode cJ0_isLatin1_aae02 18 = .ok (.ireturn, 1) := by decide +kernel
theorem kSJ0_isLatin1_aae02 : yJ0_isLatin1_aae02.cls ≠ "java/lang/invoke/MethodHandle" ∧ yJ0_isLatin1_aae02.cls ≠ "java/lang/invoke/VarHandle" ∧ (parseMethodDescriptor yJ0_isLatin1_aae02.desc).map (fun d => d.parameters.length) = some 0 := by decide +kernel
theorem kVJ0_isLatin1_aae02 : yJ0_isLatin1_aae02.cls = RJ0 ∧ yJ0_isLatin1_aae02.cls ≠ "java/lang/invoke/MethodHandle" ∧ yJ0_isLatin1_aae02.cls ≠ "java/lang/invoke/VarHandle" ∧ (parseMethodDescriptor yJ0_isLatin1_aae02.desc).map (fun d => d.parameters.length) = some 0 := ⟨rfl, kSJ0_isLatin1_aae02⟩
theorem dJ0_length_8abf5_0 : decode cJ0_length_8abf5 0 = .ok (.aload_n 0, 1) := by decide +kernel
theorem dJ0_length_8abf5_1 : decode cJ0_length_8abf5 1 = .ok (.getfield 9, 3) := by decide +kernel
theorem dJ0_length_8abf5_4 : decode cJ0_length_8abf5 4 = .ok (.arraylength, 1) := by decide +kernel
theorem dJ0_length_8abf5_5 : decode cJ0_length_8abf5 5 = .ok (.aload_n 0, 1) := by decide +kernel
theorem dJ0_length_8abf5_6 : decode cJ0_length_8abf5 6 = .ok (.invokevirtual 335, 3) := by decide +kernel
theorem dJ0_length_8abf5_9 : decode cJ0_length_8abf5 9 = .ok (.ishr, 1) := by decide +kernel
theorem dJ0_length_8abf5_10 : decode cJ0_length_8abf5 10 = .ok (.ireturn, 1) := by decide +kernel
theorem kSJ0_length_8abf5 : yJ0_length_8abf5.cls ≠ "java/lang/invoke/MethodHandle" ∧ yJ0_length_8abf5.cls ≠ "java/lang/invoke/VarHandle" ∧ (parseMethodDescriptor yJ0_length_8abf5.desc).map (fun d => d.parameters.length) = some 0 := by decide +kernel
theorem kVJ0_length_8abf5 : yJ0_length_8abf5.cls = RJ0 ∧ yJ0_length_8abf5.cls ≠ "java/lang/invoke/MethodHandle" ∧ yJ0_length_8abf5.cls ≠ "java/lang/invoke/VarHandle" ∧ (parseMethodDescriptor yJ0_length_8abf5.desc).map (fun d => d.parameters.length) = some 0 := ⟨rfl, kSJ0_length_8abf5⟩
theorem dJ3_checkIndex_8e157_0 : decode cJ3_checkIndex_8e157 0 = .ok (.iload_n 0, 1) := by decide +kernel
theorem dJ3_checkIndex_8e157_1 : decode cJ3_checkIndex_8e157 1 = .ok (.ifCond .lt 8, 3) := by decide +kernel
theorem dJ3_checkIndex_8e157_4 : decode cJ3_checkIndex_8e157 4 = .ok (.iload_n 0, 1) := by decide +kernel
theorem dJ3_checkIndex_8e157_5 : decode cJ3_checkIndex_8e157 5 = .ok (.iload_n 1, 1) := by decide +kernel
theorem dJ3_checkIndex_8e157_6 : decode cJ3_checkIndex_8e157 6 = .ok (.if_icmp .lt 10, 3) := by decide +kernel
theorem dJ3_checkIndex_8e157_16 : decode cJ3_checkIndex_8e157 16 = .ok (.iload_n 0, 1) := by decide +kernel
theorem dJ3_checkIndex_8e157_17 : decode cJ3_checkIndex_8e157 17 = .ok (.ireturn, 1) := by decide +kernel
theorem kSJ3_checkIndex_8e157 : yJ3_checkIndex_8e157.cls ≠ "java/lang/invoke/MethodHandle" ∧ yJ3_checkIndex_8e157.cls ≠ "java/lang/invoke/VarHandle" ∧ (parseMethodDescriptor yJ3_checkIndex_8e157.desc).map (fun d => d.parameters.length) = some 3 := by decide +kernel
theorem dJ0_checkIndex_df160_0 : decode cJ0_checkIndex_df160 0 = .ok (.iload_n 0, 1) := by decide +kernel
theorem dJ0_checkIndex_df160_1 : decode cJ0_checkIndex_df160 1 = .ok (.iload_n 1, 1) := by decide +kernel
theorem dJ0_checkIndex_df160_2 : decode cJ0_checkIndex_df160 2 = .ok (.getstatic 1053, 3) := by decide +kernel
theorem dJ0_checkIndex_df160_5 : decode cJ0_checkIndex_df160 5 = .ok (.invokestatic 1059, 3) := by decide +kernel
theorem dJ0_checkIndex_df160_8 : decode cJ0_checkIndex_df160 8 = .ok (.pop, 1) := by decide +kernel
theorem dJ0_checkIndex_df160_9 : decode cJ0_checkIndex_df160 9 = .ok (.return_, 1) := by decide +kernel
theorem kSJ0_checkIndex_df160 : yJ0_checkIndex_df160.cls ≠ "java/lang/invoke/MethodHandle" ∧ yJ0_checkIndex_df160.cls ≠ "java/lang/invoke/VarHandle" ∧ (parseMethodDescriptor yJ0_checkIndex_df160.desc).map (fun d => d.parameters.length) = some 2 := by decide +kernel
theorem dJ1_charAt_3b067_0 : decode cJ1_charAt_3b067 0 = .ok (.iload_n 1, 1) := by decide +kernel
theorem dJ1_charAt_3b067_1 : decode cJ1_charAt_3b067 1 = .ok (.aload_n 0, 1) := by decide +kernel
theorem dJ1_charAt_3b067_2 : decode cJ1_charAt_3b067 2 = .ok (.arraylength, 1) := by decide +kernel
theorem dJ1_charAt_3b067_3 : decode cJ1_charAt_3b067 3 = .ok (.invokestatic 9, 3) := by decide +kernel
theorem dJ1_charAt_3b067_6 : decode cJ1_charAt_3b067 6 = .ok (.aload_n 0, 1) := by decide +kernel
theorem dJ1_charAt_3b067_7 : decode cJ1_charAt_3b067 7 = .ok (.iload_n 1, 1) := by decide +kernel
theorem dJ1_charAt_3b067_8 : decode cJ1_charAt_3b067 8 = .ok (.baload, 1) := by decide +kernel
theorem dJ1_charAt_3b067_9 : decode cJ1_charAt_3b067 9 = .ok (.sipush 255, 3) := by decide +kernel
theorem dJ1_charAt_3b067_12 : decode cJ1_charAt_3b067 12 = .ok (.iand, 1) := by decide +kernel
theorem dJ1_charAt_3b067_13 : decode cJ1_charAt_3b067 13 = .ok (.i2c, 1) := by decide +kernel
theorem dJ1_charAt_3b067_14 : decode cJ1_charAt_3b067 14 = .ok (.ireturn, 1) := by decide +kernel
theorem kSJ1_charAt_3b067 : yJ1_charAt_3b067.cls ≠ "java/lang/invoke/MethodHandle" ∧ yJ1_charAt_3b067.cls ≠ "java/lang/invoke/VarHandle" ∧ (parseMethodDescriptor yJ1_charAt_3b067.desc).map (fun d => d.parameters.length) = some 2 := by decide +kernel
theorem dJ0_charAt_5068e_0 : decode cJ0_charAt_5068e 0 = .ok (.aload_n 0, 1) := by decide +kernel
theorem dJ0_charAt_5068e_1 : decode cJ0_charAt_5068e 1 = .ok (.invokevirtual 492, 3) := by decide +kernel
theorem dJ0_charAt_5068e_4 : decode cJ0_charAt_5068e 4 = .ok (.ifCond .eq 12, 3) := by decide +kernel
theorem dJ0_charAt_5068e_7 : decode cJ0_charAt_5068e 7 = .ok (.aload_n 0, 1) := by decide +kernel
theorem dJ0_charAt_5068e_8 : decode cJ0_charAt_5068e 8 = .ok (.getfield 9, 3) := by decide +kernel
theorem dJ0_charAt_5068e_11 : decode cJ0_charAt_5068e 11 = .ok (.iload_n 1, 1) := by decide +kernel
theorem dJ0_charAt_5068e_12 : decode cJ0_charAt_5068e 12 = .ok (.invokestatic 495, 3) := by decide +kernel
theorem dJ0_charAt_5068e_15 : decode cJ0_charAt_5068e 15 = .ok (.ireturn, 1) := by decide +kernel
theorem kSJ0_charAt_5068e : yJ0_charAt_5068e.cls ≠ "java/lang/invoke/MethodHandle" ∧ yJ0_charAt_5068e.cls ≠ "java/lang/invoke/VarHandle" ∧ (parseMethodDescriptor yJ0_charAt_5068e.desc).map (fun d => d.parameters.length) = some 1 := by decide +kernel
theorem kVJ0_charAt_5068e : yJ0_charAt_5068e.cls = RJ0 ∧ yJ0_charAt_5068e.cls ≠ "java/lang/invoke/MethodHandle" ∧ yJ0_charAt_5068e.cls ≠ "java/lang/invoke/VarHandle" ∧ (parseMethodDescriptor yJ0_charAt_5068e.desc).map (fun d => d.parameters.length) = some 1 := ⟨rfl, kSJ0_charAt_5068e⟩
theorem dJ1_canEncode_9a6ad_0 : decode cJ1_canEncode_9a6ad 0 = .ok (.iload_n 0, 1) := by decide +kernel
theorem dJ1_canEncode_9a6ad_1 : decode cJ1_canEncode_9a6ad 1 = .ok (.ifCond .lt 14, 3) := by decide +kernel
theorem dJ1_canEncode_9a6ad_4 : decode cJ1_canEncode_9a6ad 4 = .ok (.iload_n 0, 1) := by decide +kernel
theorem dJ1_canEncode_9a6ad_5 : decode cJ1_canEncode_9a6ad 5 = .ok (.sipush 255, 3) := by decide +kernel
theorem dJ1_canEncode_9a6ad_8 : decode cJ1_canEncode_9a6ad 8 = .ok (.if_icmp .gt 7, 3) := by decide +kernel
theorem dJ1_canEncode_9a6ad_11 : decode cJ1_canEncode_9a6ad 11 = .ok (.iconst 1, 1) := by decide +kernel
theorem dJ1_canEncode_9a6ad_12 : decode cJ1_canEncode_9a6ad 12 = .ok (.goto 4, 3) := by decide +kernel
theorem dJ1_canEncode_9a6ad_15 : decode cJ1_canEncode_9a6ad 15 = .ok (.iconst 0, 1) := by decide +kernel
theorem dJ1_canEncode_9a6ad_16 : decode cJ1_canEncode_9a6ad 16 = .ok (.ireturn, 1) := by decide +kernel
theorem kSJ1_canEncode_9a6ad : yJ1_canEncode_9a6ad.cls ≠ "java/lang/invoke/MethodHandle" ∧ yJ1_canEncode_9a6ad.cls ≠ "java/lang/invoke/VarHandle" ∧ (parseMethodDescriptor yJ1_canEncode_9a6ad.desc).map (fun d => d.parameters.length) = some 1 := by decide +kernel
theorem dJ1_indexOfChar_4cfef_0 : decode cJ1_indexOfChar_4cfef 0 = .ok (.iload_n 1, 1) := by decide +kernel
theorem dJ1_indexOfChar_4cfef_1 : decode cJ1_indexOfChar_4cfef 1 = .ok (.i2b, 1) := by decide +kernel
theorem dJ1_indexOfChar_4cfef_2 : decode cJ1_indexOfChar_4cfef 2 = .ok (.istore 4, 2) := by decide +kernel
theorem dJ1_indexOfChar_4cfef_4 : decode cJ1_indexOfChar_4cfef 4 = .ok (.iload_n 2, 1) := by decide +kernel
theorem dJ1_indexOfChar_4cfef_5 : decode cJ1_indexOfChar_4cfef 5 = .ok (.istore 5, 2) := by decide +kernel
theorem dJ1_indexOfChar_4cfef_7 : decode cJ1_indexOfChar_4cfef 7 = .ok (.iload 5, 2) := by decide +kernel
theorem dJ1_indexOfChar_4cfef_9 : decode cJ1_indexOfChar_4cfef 9 = .ok (.iload_n 3, 1) := by decide +kernel
theorem dJ1_indexOfChar_4cfef_10 : decode cJ1_indexOfChar_4cfef 10 = .ok (.if_icmp .ge 21, 3) := by decide +kernel
theorem dJ1_indexOfChar_4cfef_13 : decode cJ1_indexOfChar_4cfef 13 = .ok (.aload_n 0, 1) := by decide +kernel
theorem dJ1_indexOfChar_4cfef_14 : decode cJ1_indexOfChar_4cfef 14 = .ok (.iload 5, 2) := by decide +kernel
theorem dJ1_indexOfChar_4cfef_16 : decode cJ1_indexOfChar_4cfef 16 = .ok (.baload, 1) := by decide +kernel
theorem dJ1_indexOfChar_4cfef_17 : decode cJ1_indexOfChar_4cfef 17 = .ok (.iload 4, 2) := by decide +kernel
theorem dJ1_indexOfChar_4cfef_19 : decode cJ1_indexOfChar_4cfef 19 = .ok (.if_icmp .ne 6, 3) := by decide +kernel
theorem dJ1_indexOfChar_4cfef_22 : decode cJ1_indexOfChar_4cfef 22 = .ok (.iload 5, 2) := by decide +kernel
theorem dJ1_indexOfChar_4cfef_24 : decode cJ1_indexOfChar_4cfef 24 = .ok (.ireturn, 1) := by decide +kernel
theorem dJ1_indexOfChar_4cfef_25 : decode cJ1_indexOfChar_4cfef 25 = .ok (.iinc 5 1, 3) := by decide +kernel
theorem dJ1_indexOfChar_4cfef_28 : decode cJ1_indexOfChar_4cfef 28 = .ok (.goto (-21), 3) := by decide +kernel
theorem dJ1_indexOfChar_4cfef_31 : decode cJ1_indexOfChar_4cfef 31 = .ok (.iconst (-1), 1) := by decide +kernel
theorem dJ1_indexOfChar_4cfef_32 : decode cJ1_indexOfChar_4cfef 32 = .ok (.ireturn, 1) := by decide +kernel
theorem kSJ1_indexOfChar_4cfef : yJ1_indexOfChar_4cfef.cls ≠ "java/lang/invoke/MethodHandle" ∧ yJ1_indexOfChar_4cfef.cls ≠ "java/lang/invoke/VarHandle" ∧ (parseMethodDescriptor yJ1_indexOfChar_4cfef.desc).map (fun d => d.parameters.length) = some 4 := by decide +kernel
theorem dJ1_indexOf_4cfef_0 : decode cJ1_indexOf_4cfef 0 = .ok (.iload_n 1, 1) := by decide +kernel
theorem dJ1_indexOf_4cfef_1 : decode cJ1_indexOf_4cfef 1 = .ok (.invokestatic 88, 3) := by decide +kernel
theorem dJ1_indexOf_4cfef_4 : decode cJ1_indexOf_4cfef 4 = .ok (.ifCond .ne 5, 3) := by decide +kernel
theorem dJ1_indexOf_4cfef_7 : decode cJ1_indexOf_4cfef 7 = .ok (.iconst (-1), 1) := by decide +kernel
theorem dJ1_indexOf_4cfef_8 : decode cJ1_indexOf_4cfef 8 = .ok (.ireturn, 1) := by decide +kernel
theorem dJ1_indexOf_4cfef_9 : decode cJ1_indexOf_4cfef 9 = .ok (.iload_n 2, 1) := by decide +kernel
theorem dJ1_indexOf_4cfef_10 : decode cJ1_indexOf_4cfef 10 = .ok (.iconst 0, 1) := by decide +kernel
theorem dJ1_indexOf_4cfef_11 : decode cJ1_indexOf_4cfef 11 = .ok (.invokestatic 92, 3) := by decide +kernel
theorem dJ1_indexOf_4cfef_14 : decode cJ1_indexOf_4cfef 14 = .ok (.istore_n 2, 1) := by decide +kernel
theorem dJ1_indexOf_4cfef_15 : decode cJ1_indexOf_4cfef 15 = .ok (.iload_n 3, 1) := by decide +kernel
theorem dJ1_indexOf_4cfef_16 : decode cJ1_indexOf_4cfef 16 = .ok (.aload_n 0, 1) := by decide +kernel
theorem dJ1_indexOf_4cfef_17 : decode cJ1_indexOf_4cfef 17 = .ok (.arraylength, 1) := by decide +kernel
theorem dJ1_indexOf_4cfef_18 : decode cJ1_indexOf_4cfef 18 = .ok (.invokestatic 38, 3) := by decide +kernel
theorem dJ1_indexOf_4cfef_21 : decode cJ1_indexOf_4cfef 21 = .ok (.istore_n 3, 1) := by decide +kernel
theorem dJ1_indexOf_4cfef_22 : decode cJ1_indexOf_4cfef 22 = .ok (.iload_n 2, 1) := by decide +kernel
theorem dJ1_indexOf_4cfef_23 : decode cJ1_indexOf_4cfef 23 = .ok (.iload_n 3, 1) := by decide +kernel
theorem dJ1_indexOf_4cfef_24 : decode cJ1_indexOf_4cfef 24 = .ok (.if_icmp .lt 5, 3) := by decide +kernel
theorem dJ1_indexOf_4cfef_27 : decode cJ1_indexOf_4cfef 27 = .ok (.iconst (-1), 1) := by decide +kernel
theorem dJ1_indexOf_4cfef_28 : decode cJ1_indexOf_4cfef 28 = .ok (.ireturn, 1) := by decide +kernel
theorem dJ1_indexOf_4cfef_29 : decode cJ1_indexOf_4cfef 29 = .ok (.aload_n 0, 1) := by decide +kernel
theorem dJ1_indexOf_4cfef_30 : decode cJ1_indexOf_4cfef 30 = .ok (.iload_n 1, 1) := by decide +kernel
theorem dJ1_indexOf_4cfef_31 : decode cJ1_indexOf_4cfef 31 = .ok (.iload_n 2, 1) := by decide +kernel
theorem dJ1_indexOf_4cfef_32 : decode cJ1_indexOf_4cfef 32 = .ok (.iload_n 3, 1) := by decide +kernel
theorem dJ1_indexOf_4cfef_33 : decode cJ1_indexOf_4cfef 33 = .ok (.invokestatic 95, 3) := by decide +kernel
theorem dJ1_indexOf_4cfef_36 : decode cJ1_indexOf_4cfef 36 = .ok (.ireturn, 1) := by decide +kernel
theorem kSJ1_indexOf_4cfef : yJ1_indexOf_4cfef.cls ≠ "java/lang/invoke/MethodHandle" ∧ yJ1_indexOf_4cfef.cls ≠ "java/lang/invoke/VarHandle" ∧ (parseMethodDescriptor yJ1_indexOf_4cfef.desc).map (fun d => d.parameters.length) = some 4 := by decide +kernel
theorem dJ0_indexOf_7cf53_0 : decode cJ0_indexOf_7cf53 0 = .ok (.aload_n 0, 1) := by decide +kernel
theorem dJ0_indexOf_7cf53_1 : decode cJ0_indexOf_7cf53 1 = .ok (.invokevirtual 492, 3) := by decide +kernel
theorem dJ0_indexOf_7cf53_4 : decode cJ0_indexOf_7cf53 4 = .ok (.ifCond .eq 19, 3) := by decide +kernel
theorem dJ0_indexOf_7cf53_7 : decode cJ0_indexOf_7cf53 7 = .ok (.aload_n 0, 1) := by decide +kernel
theorem dJ0_indexOf_7cf53_8 : decode cJ0_indexOf_7cf53 8 = .ok (.getfield 9, 3) := by decide +kernel
theorem dJ0_indexOf_7cf53_11 : decode cJ0_indexOf_7cf53 11 = .ok (.iload_n 1, 1) := by decide +kernel
theorem dJ0_indexOf_7cf53_12 : decode cJ0_indexOf_7cf53 12 = .ok (.iload_n 2, 1) := by decide +kernel
theorem dJ0_indexOf_7cf53_13 : decode cJ0_indexOf_7cf53 13 = .ok (.aload_n 0, 1) := by decide +kernel
theorem dJ0_indexOf_7cf53_14 : decode cJ0_indexOf_7cf53 14 = .ok (.invokevirtual 505, 3) := by decide +kernel
theorem dJ0_indexOf_7cf53_17 : decode cJ0_indexOf_7cf53 17 = .ok (.invokestatic 637, 3) := by decide +kernel
theorem dJ0_indexOf_7cf53_20 : decode cJ0_indexOf_7cf53 20 = .ok (.goto 16, 3) := by decide +kernel
theorem dJ0_indexOf_7cf53_36 : decode cJ0_indexOf_7cf53 36 = .ok (.ireturn, 1) := by decide +kernel
theorem kSJ0_indexOf_7cf53 : yJ0_indexOf_7cf53.cls ≠ "java/lang/invoke/MethodHandle" ∧ yJ0_indexOf_7cf53.cls ≠ "java/lang/invoke/VarHandle" ∧ (parseMethodDescriptor yJ0_indexOf_7cf53.desc).map (fun d => d.parameters.length) = some 2 := by decide +kernel
theorem kVJ0_indexOf_7cf53 : yJ0_indexOf_7cf53.cls = RJ0 ∧ yJ0_indexOf_7cf53.cls ≠ "java/lang/invoke/MethodHandle" ∧ yJ0_indexOf_7cf53.cls ≠ "java/lang/invoke/VarHandle" ∧ (parseMethodDescriptor yJ0_indexOf_7cf53.desc).map (fun d => d.parameters.length) = some 2 := ⟨rfl, kSJ0_indexOf_7cf53⟩
theorem dJ0_indexOf_0f7a4_0 : decode cJ0_indexOf_0f7a4 0 = .ok (.aload_n 0, 1) := by decide +kernel
theorem dJ0_indexOf_0f7a4_1 : decode cJ0_indexOf_0f7a4 1 = .ok (.iload_n 1, 1) := by decide +kernel
theorem dJ0_indexOf_0f7a4_2 : decode cJ0_indexOf_0f7a4 2 = .ok (.iconst 0, 1) := by decide +kernel
theorem dJ0_indexOf_0f7a4_3 : decode cJ0_indexOf_0f7a4 3 = .ok (.invokevirtual 633, 3) := by decide +kernel
theorem dJ0_indexOf_0f7a4_6 : decode cJ0_indexOf_0f7a4 6 = .ok (.ireturn, 1) := by decide +kernel
theorem kSJ0_indexOf_0f7a4 : yJ0_indexOf_0f7a4.cls ≠ "java/lang/invoke/MethodHandle" ∧ yJ0_indexOf_0f7a4.cls ≠ "java/lang/invoke/VarHandle" ∧ (parseMethodDescriptor yJ0_indexOf_0f7a4.desc).map (fun d => d.parameters.length) = some 1 := by decide +kernel
theorem kVJ0_indexOf_0f7a4 : yJ0_indexOf_0f7a4.cls = RJ0 ∧ yJ0_indexOf_0f7a4.cls ≠ "java/lang/invoke/MethodHandle" ∧ yJ0_indexOf_0f7a4.cls ≠ "java/lang/invoke/VarHandle" ∧ (parseMethodDescriptor yJ0_indexOf_0f7a4.desc).map (fun d => d.parameters.length) = some 1 := ⟨rfl, kSJ0_indexOf_0f7a4⟩

def wJ : List Cond := [.fieldLink RJ0 38 "java/lang/String" "COMPACT_STRINGS" "Z", .fieldLink RJ0 15 "java/lang/String" "coder" "B", .fieldLink RJ0 9 "java/lang/String" "value" "[B", .code yJ0_coder_7d493 cJ0_coder_7d493 1 (some .byte), .methodLink RJ0 335 yJ0_coder_7d493, .instanceMethod yJ0_coder_7d493, .selects RJ0 yJ0_coder_7d493 yJ0_coder_7d493, .initialized RJ0, .fieldLink RJ0 1053 "jdk/internal/util/Preconditions" "SIOOBE_FORMATTER" "Ljava/util/function/BiFunction;", .code yJ3_checkIndex_8e157 cJ3_checkIndex_8e157 3 (some .int), .methodLink RJ0 1059 yJ3_checkIndex_8e157, .static yJ3_checkIndex_8e157, .initialized RJ3, .code yJ0_checkIndex_df160 cJ0_checkIndex_df160 2 none, .methodLink RJ1 9 yJ0_checkIndex_df160, .static yJ0_checkIndex_df160, .code yJ0_isLatin1_aae02 cJ0_isLatin1_aae02 1 (some .boolean), .methodLink RJ0 492 yJ0_isLatin1_aae02, .instanceMethod yJ0_isLatin1_aae02, .selects RJ0 yJ0_isLatin1_aae02 yJ0_isLatin1_aae02, .code yJ1_charAt_3b067 cJ1_charAt_3b067 2 (some .char), .methodLink RJ0 495 yJ1_charAt_3b067, .static yJ1_charAt_3b067, .initialized RJ1, .code yJ1_canEncode_9a6ad cJ1_canEncode_9a6ad 1 (some .boolean), .methodLink RJ1 88 yJ1_canEncode_9a6ad, .static yJ1_canEncode_9a6ad, .methodLink RJ1 92 Lib.Math.max.name, .static Lib.Math.max.name, .initialized RJ9, .code Lib.Math.max.name Lib.Math.max.code 2 (some .int), .methodLink RJ1 38 Lib.Math.min.name, .static Lib.Math.min.name, .code Lib.Math.min.name Lib.Math.min.code 2 (some .int), .code yJ1_indexOfChar_4cfef cJ1_indexOfChar_4cfef 6 (some .int), .methodLink RJ1 95 yJ1_indexOfChar_4cfef, .static yJ1_indexOfChar_4cfef, .code yJ0_length_8abf5 cJ0_length_8abf5 1 (some .int), .methodLink RJ0 505 yJ0_length_8abf5, .instanceMethod yJ0_length_8abf5, .selects RJ0 yJ0_length_8abf5 yJ0_length_8abf5, .code yJ1_indexOf_4cfef cJ1_indexOf_4cfef 4 (some .int), .methodLink RJ0 637 yJ1_indexOf_4cfef, .static yJ1_indexOf_4cfef, .code yJ0_indexOf_7cf53 cJ0_indexOf_7cf53 3 (some .int), .methodLink RJ0 633 yJ0_indexOf_7cf53, .instanceMethod yJ0_indexOf_7cf53, .selects RJ0 yJ0_indexOf_7cf53 yJ0_indexOf_7cf53, .code yJ0_charAt_5068e cJ0_charAt_5068e 2 (some .char), .code yJ0_indexOf_0f7a4 cJ0_indexOf_0f7a4 2 (some .int), .instanceMethod yJ0_charAt_5068e, .selects RJ0 yJ0_charAt_5068e yJ0_charAt_5068e, .instanceMethod yJ0_indexOf_0f7a4, .selects RJ0 yJ0_indexOf_0f7a4 yJ0_indexOf_0f7a4]
theorem gd_wJ : ∀ w ∈ wJ, Gd w := gdl wJ (by decide +kernel)
theorem in_wJ : ∀ w ∈ wJ, w ∈ lw_tbl := inT wJ [673, 2362, 2361, 672, 669, 670, 671, 175, 689, 693, 691, 692, 177, 688, 686, 687, 682, 679, 680, 681, 685, 683, 684, 176, 1880, 1878, 1879, 1881, 204, 157, 205, 1882, 936, 937, 1885, 1883, 1884, 668, 1874, 666, 667, 1877, 1875, 1876, 1873, 1870, 1871, 1872, 678, 1869, 676, 677, 1867, 1868] (by decide +kernel)
theorem wj0 : Cond.fieldLink RJ0 38 "java/lang/String" "COMPACT_STRINGS" "Z" ∈ wJ := List.mem_of_getElem? (i := 0) rfl
theorem wj1 : Cond.fieldLink RJ0 15 "java/lang/String" "coder" "B" ∈ wJ := List.mem_of_getElem? (i := 1) rfl
theorem wj2 : Cond.fieldLink RJ0 9 "java/lang/String" "value" "[B" ∈ wJ := List.mem_of_getElem? (i := 2) rfl
theorem wj3 : Cond.code yJ0_coder_7d493 cJ0_coder_7d493 1 (some .byte) ∈ wJ := List.mem_of_getElem? (i := 3) rfl
theorem wj4 : Cond.methodLink RJ0 335 yJ0_coder_7d493 ∈ wJ := List.mem_of_getElem? (i := 4) rfl
theorem wj5 : Cond.instanceMethod yJ0_coder_7d493 ∈ wJ := List.mem_of_getElem? (i := 5) rfl
theorem wj6 : Cond.selects RJ0 yJ0_coder_7d493 yJ0_coder_7d493 ∈ wJ := List.mem_of_getElem? (i := 6) rfl
theorem wj7 : Cond.initialized RJ0 ∈ wJ := List.mem_of_getElem? (i := 7) rfl
theorem wj8 : Cond.fieldLink RJ0 1053 "jdk/internal/util/Preconditions" "SIOOBE_FORMATTER" "Ljava/util/function/BiFunction;" ∈ wJ := List.mem_of_getElem? (i := 8) rfl
theorem wj9 : Cond.code yJ3_checkIndex_8e157 cJ3_checkIndex_8e157 3 (some .int) ∈ wJ := List.mem_of_getElem? (i := 9) rfl
theorem wj10 : Cond.methodLink RJ0 1059 yJ3_checkIndex_8e157 ∈ wJ := List.mem_of_getElem? (i := 10) rfl
theorem wj11 : Cond.static yJ3_checkIndex_8e157 ∈ wJ := List.mem_of_getElem? (i := 11) rfl
theorem wj12 : Cond.initialized RJ3 ∈ wJ := List.mem_of_getElem? (i := 12) rfl
theorem wj13 : Cond.code yJ0_checkIndex_df160 cJ0_checkIndex_df160 2 none ∈ wJ := List.mem_of_getElem? (i := 13) rfl
theorem wj14 : Cond.methodLink RJ1 9 yJ0_checkIndex_df160 ∈ wJ := List.mem_of_getElem? (i := 14) rfl
theorem wj15 : Cond.static yJ0_checkIndex_df160 ∈ wJ := List.mem_of_getElem? (i := 15) rfl
theorem wj16 : Cond.code yJ0_isLatin1_aae02 cJ0_isLatin1_aae02 1 (some .boolean) ∈ wJ := List.mem_of_getElem? (i := 16) rfl
theorem wj17 : Cond.methodLink RJ0 492 yJ0_isLatin1_aae02 ∈ wJ := List.mem_of_getElem? (i := 17) rfl
theorem wj18 : Cond.instanceMethod yJ0_isLatin1_aae02 ∈ wJ := List.mem_of_getElem? (i := 18) rfl
theorem wj19 : Cond.selects RJ0 yJ0_isLatin1_aae02 yJ0_isLatin1_aae02 ∈ wJ := List.mem_of_getElem? (i := 19) rfl
theorem wj20 : Cond.code yJ1_charAt_3b067 cJ1_charAt_3b067 2 (some .char) ∈ wJ := List.mem_of_getElem? (i := 20) rfl
theorem wj21 : Cond.methodLink RJ0 495 yJ1_charAt_3b067 ∈ wJ := List.mem_of_getElem? (i := 21) rfl
theorem wj22 : Cond.static yJ1_charAt_3b067 ∈ wJ := List.mem_of_getElem? (i := 22) rfl
theorem wj23 : Cond.initialized RJ1 ∈ wJ := List.mem_of_getElem? (i := 23) rfl
theorem wj24 : Cond.code yJ1_canEncode_9a6ad cJ1_canEncode_9a6ad 1 (some .boolean) ∈ wJ := List.mem_of_getElem? (i := 24) rfl
theorem wj25 : Cond.methodLink RJ1 88 yJ1_canEncode_9a6ad ∈ wJ := List.mem_of_getElem? (i := 25) rfl
theorem wj26 : Cond.static yJ1_canEncode_9a6ad ∈ wJ := List.mem_of_getElem? (i := 26) rfl
theorem wj27 : Cond.methodLink RJ1 92 Lib.Math.max.name ∈ wJ := List.mem_of_getElem? (i := 27) rfl
theorem wj28 : Cond.static Lib.Math.max.name ∈ wJ := List.mem_of_getElem? (i := 28) rfl
theorem wj29 : Cond.initialized RJ9 ∈ wJ := List.mem_of_getElem? (i := 29) rfl
theorem wj30 : Cond.code Lib.Math.max.name Lib.Math.max.code 2 (some .int) ∈ wJ := List.mem_of_getElem? (i := 30) rfl
theorem wj31 : Cond.methodLink RJ1 38 Lib.Math.min.name ∈ wJ := List.mem_of_getElem? (i := 31) rfl
theorem wj32 : Cond.static Lib.Math.min.name ∈ wJ := List.mem_of_getElem? (i := 32) rfl
theorem wj33 : Cond.code Lib.Math.min.name Lib.Math.min.code 2 (some .int) ∈ wJ := List.mem_of_getElem? (i := 33) rfl
theorem wj34 : Cond.code yJ1_indexOfChar_4cfef cJ1_indexOfChar_4cfef 6 (some .int) ∈ wJ := List.mem_of_getElem? (i := 34) rfl
theorem wj35 : Cond.methodLink RJ1 95 yJ1_indexOfChar_4cfef ∈ wJ := List.mem_of_getElem? (i := 35) rfl
theorem wj36 : Cond.static yJ1_indexOfChar_4cfef ∈ wJ := List.mem_of_getElem? (i := 36) rfl
theorem wj37 : Cond.code yJ0_length_8abf5 cJ0_length_8abf5 1 (some .int) ∈ wJ := List.mem_of_getElem? (i := 37) rfl
theorem wj38 : Cond.methodLink RJ0 505 yJ0_length_8abf5 ∈ wJ := List.mem_of_getElem? (i := 38) rfl
theorem wj39 : Cond.instanceMethod yJ0_length_8abf5 ∈ wJ := List.mem_of_getElem? (i := 39) rfl
theorem wj40 : Cond.selects RJ0 yJ0_length_8abf5 yJ0_length_8abf5 ∈ wJ := List.mem_of_getElem? (i := 40) rfl
theorem wj41 : Cond.code yJ1_indexOf_4cfef cJ1_indexOf_4cfef 4 (some .int) ∈ wJ := List.mem_of_getElem? (i := 41) rfl
theorem wj42 : Cond.methodLink RJ0 637 yJ1_indexOf_4cfef ∈ wJ := List.mem_of_getElem? (i := 42) rfl
theorem wj43 : Cond.static yJ1_indexOf_4cfef ∈ wJ := List.mem_of_getElem? (i := 43) rfl
theorem wj44 : Cond.code yJ0_indexOf_7cf53 cJ0_indexOf_7cf53 3 (some .int) ∈ wJ := List.mem_of_getElem? (i := 44) rfl
theorem wj45 : Cond.methodLink RJ0 633 yJ0_indexOf_7cf53 ∈ wJ := List.mem_of_getElem? (i := 45) rfl
theorem wj46 : Cond.instanceMethod yJ0_indexOf_7cf53 ∈ wJ := List.mem_of_getElem? (i := 46) rfl
theorem wj47 : Cond.selects RJ0 yJ0_indexOf_7cf53 yJ0_indexOf_7cf53 ∈ wJ := List.mem_of_getElem? (i := 47) rfl
theorem wj48 : Cond.code yJ0_charAt_5068e cJ0_charAt_5068e 2 (some .char) ∈ wJ := List.mem_of_getElem? (i := 48) rfl
theorem wj49 : Cond.code yJ0_indexOf_0f7a4 cJ0_indexOf_0f7a4 2 (some .int) ∈ wJ := List.mem_of_getElem? (i := 49) rfl
theorem wj50 : Cond.instanceMethod yJ0_charAt_5068e ∈ wJ := List.mem_of_getElem? (i := 50) rfl
theorem wj51 : Cond.selects RJ0 yJ0_charAt_5068e yJ0_charAt_5068e ∈ wJ := List.mem_of_getElem? (i := 51) rfl
theorem wj52 : Cond.instanceMethod yJ0_indexOf_0f7a4 ∈ wJ := List.mem_of_getElem? (i := 52) rfl
theorem wj53 : Cond.selects RJ0 yJ0_indexOf_0f7a4 yJ0_indexOf_0f7a4 ∈ wJ := List.mem_of_getElem? (i := 53) rfl
section JC
variable {p : Program} {l : Launch} {e : Env} {R : Room} {s : State} {m : MethodId} {args : Array Value} {below : List Frame} {meth : Method} {c : Code} {H : Heap} {locs : List Loc} {cells slots : Nat} {Q' : State → Prop} {cc : ByteArray} {nL pc : Nat} {ls : Array Slot} {rest st0 : List Value} {Z : gM} {A : Nat → Prop} {Ts : List Cond} {own : String}
def jX (p : Program) (c : Code) (cc : ByteArray) (nL : Nat) (s : State) (m : MethodId) (args : Array Value) (own : String) (Z : gM) (A : Nat → Prop) : Prop := p.tables.exec = Jvm.exec ∧ c.code = cc ∧ c.maxLocals = nL ∧ s.vm.findClass own = some m.cls ∧ (∀ w ∈ wJ, w.before args s = true) ∧ sE Z A s s.heap
theorem jgood {y : MethodName} {b : ByteArray} {n : Nat} {r : Option FieldType} (h : Cond.code y b n r ∈ wJ) : ∀ w ∈ (Cond.code y b n r :: wJ), w ∈ wJ ∧ Gd w := List.forall_mem_cons.mpr ⟨⟨h, gd_wJ _ h⟩, fun w hw => ⟨hw, gd_wJ _ hw⟩⟩
/-- a call of one of String's methods on a constant, from anywhere -/
theorem jcallV {y : MethodName} {bytes : ByteArray} {maxL n index fr lo k : Nat} {ret : Option FieldType} {As : List Value} {Qc : Array Value → State → Outcome → State → Prop} (S : CallFix p m c cc nL s args Ts own) (hE : sE Z A s s.heap) (hS : va_S A s.heap H locs) (hs : k < 38) (hM : Met l y (Cond.code y bytes maxL ret :: wJ) { frames := fr, cells := 0, slots := 0, locals := lo } (va_Pc (.ref (Z.1 k) :: As) (sP Z A)) Qc 0 0 (fun _ => False)) (hg : GoodIn Ts (wsV own index "java/lang/String" y (Cond.code y bytes maxL ret :: wJ)))
    (hd : y.cls = "java/lang/String" ∧ y.cls ≠ "java/lang/invoke/MethodHandle" ∧ y.cls ≠ "java/lang/invoke/VarHandle" ∧ (parseMethodDescriptor y.desc).map (fun d => d.parameters.length) = some n) (hR : fr + 1 ≤ R.frames ∧ 8 + (maxL + 11) + lo ≤ R.locals) (hn : As.length = n) (hls : ls.size = nL) (hst : st0 = As.reverse ++ .ref (Z.1 k) :: rest) (hcat : (rest.map fun v => v.category).sum ≤ 8) (hdg : decode cc pc = .ok (.invokevirtual index, 3)) (hf : cells ≤ R.cells ∧ slots ≤ R.slots) :
    va_Run p l e R s m args below meth c H locs cells slots 0 0 (F0 m pc ls st0) rest (Qc (Value.ref (Z.1 k) :: As).toArray) (fun _ => False) := by
  obtain ⟨cell, h1, h2, h3, -⟩ := (hE.2.1 k hs).1.kept hS.2.1
  exact va_runV (As := As) (rest := rest) (C := "java/lang/String") S hM (cwV n S.2.2.2.2 hg rfl rfl rfl hd hR) ⟨sP.blind, ⟨cell, h1, h2, h3⟩, fun U hU hW => ⟨rfl, by show sE Z A U U.heap; rw [hU]; exact (hE.kept hS.2.1).moved hW⟩⟩ rfl hn hls hst (lv_room hcat) hdg hf
theorem jcallS {y : MethodName} {bytes : ByteArray} {maxL n index fr lo : Nat} {ret : Option FieldType} {As : List Value} {Qc : Array Value → State → Outcome → State → Prop} (S : CallFix p m c cc nL s args Ts own) (hE : sE Z A s s.heap) (hS : va_S A s.heap H locs) (hM : Met l y (Cond.code y bytes maxL ret :: wJ) { frames := fr, cells := 0, slots := 0, locals := lo } (va_Pc As (sP Z A)) Qc 0 0 (fun _ => False)) (hg : GoodIn Ts (va_wsS own index y (Cond.code y bytes maxL ret :: wJ)))
    (hd : y.cls ≠ "java/lang/invoke/MethodHandle" ∧ y.cls ≠ "java/lang/invoke/VarHandle" ∧ (parseMethodDescriptor y.desc).map (fun d => d.parameters.length) = some n) (hR : fr + 1 ≤ R.frames ∧ 8 + (maxL + 11) + lo ≤ R.locals) (hn : As.length = n) (hls : ls.size = nL) (hst : st0 = As.reverse ++ rest) (hcat : (rest.map fun v => v.category).sum ≤ 8) (hdg : decode cc pc = .ok (.invokestatic index, 3)) (hf : cells ≤ R.cells ∧ slots ≤ R.slots) :
    va_Run p l e R s m args below meth c H locs cells slots 0 0 (F0 m pc ls st0) rest (Qc As.toArray) (fun _ => False) := by
  exact va_runS (As := As) (rest := rest) S hM (va_cwS n S.2.2.2.2 hg rfl rfl rfl hd hR) ⟨sP.blind, fun U hU hW => ⟨rfl, by show sE Z A U U.heap; rw [hU]; exact (hE.kept hS.2.1).moved hW⟩⟩ rfl hn hls hst (lv_room hcat) hdg hf
theorem jcV_i {y : MethodName} {bytes : ByteArray} {maxL n index fr lo k : Nat} {ret : Option FieldType} {As : List Value} {r : Int32} (hs : k < 38) (hC : jX p c cc nL s m args own Z A) (hM : Met l y (Cond.code y bytes maxL ret :: wJ) { frames := fr, cells := 0, slots := 0, locals := lo } (va_Pc (.ref (Z.1 k) :: As) (sP Z A)) (vp_Si (fun x : Int32 => x = r)) 0 0 (fun _ => False)) (kw : Cond.code y bytes maxL ret ∈ wJ ∧ Cond.methodLink own index y ∈ wJ ∧ Cond.instanceMethod y ∈ wJ ∧ Cond.selects "java/lang/String" y y ∈ wJ ∧ Cond.initialized "java/lang/String" ∈ wJ)
    (hd : y.cls = "java/lang/String" ∧ y.cls ≠ "java/lang/invoke/MethodHandle" ∧ y.cls ≠ "java/lang/invoke/VarHandle" ∧ (parseMethodDescriptor y.desc).map (fun d => d.parameters.length) = some n) (hR : fr + 1 ≤ R.frames ∧ 8 + (maxL + 11) + lo ≤ R.locals) (hn : As.length = n) (hls : ls.size = nL) (hst : st0 = As.reverse ++ .ref (Z.1 k) :: rest) (hcat : (rest.map fun v => v.category).sum ≤ 8) (hdg : decode cc pc = .ok (.invokevirtual index, 3)) (kk : W p l e R s m args below meth c s.heap [] 0 0 Q' (F0 m (pc + 3) ls (.int r :: rest))) : W p l e R s m args below meth c s.heap [] 0 0 Q' (F0 m pc ls st0) := by
  obtain ⟨hx, hb, hml, hown, hts, hE⟩ := hC
  refine vp_callSi (va_Run.run (jcallV (rest := rest) ⟨hx, hb, hml, hown, hts⟩ hE va_S.rf hs hM (gdV kw.2.1 kw.2.2.1 kw.2.2.2.1 kw.2.2.2.2 (jgood kw.1)) hd hR hn hls hst hcat hdg ⟨Nat.zero_le _, Nat.zero_le _⟩)) (fun x hx9 => ?_)
  subst hx9
  exact kk
theorem jcS_i {y : MethodName} {bytes : ByteArray} {maxL n index fr lo : Nat} {ret : Option FieldType} {As : List Value} {r : Int32} (hC : jX p c cc nL s m args own Z A) (hM : Met l y (Cond.code y bytes maxL ret :: wJ) { frames := fr, cells := 0, slots := 0, locals := lo } (va_Pc As (sP Z A)) (vp_Si (fun x : Int32 => x = r)) 0 0 (fun _ => False)) (kw : Cond.code y bytes maxL ret ∈ wJ ∧ Cond.methodLink own index y ∈ wJ ∧ Cond.static y ∈ wJ ∧ Cond.initialized y.cls ∈ wJ)
    (hd : y.cls ≠ "java/lang/invoke/MethodHandle" ∧ y.cls ≠ "java/lang/invoke/VarHandle" ∧ (parseMethodDescriptor y.desc).map (fun d => d.parameters.length) = some n) (hR : fr + 1 ≤ R.frames ∧ 8 + (maxL + 11) + lo ≤ R.locals) (hn : As.length = n) (hls : ls.size = nL) (hst : st0 = As.reverse ++ rest) (hcat : (rest.map fun v => v.category).sum ≤ 8) (hdg : decode cc pc = .ok (.invokestatic index, 3)) (kk : W p l e R s m args below meth c s.heap [] 0 0 Q' (F0 m (pc + 3) ls (.int r :: rest))) : W p l e R s m args below meth c s.heap [] 0 0 Q' (F0 m pc ls st0) := by
  obtain ⟨hx, hb, hml, hown, hts, hE⟩ := hC
  refine vp_callSi (va_Run.run (jcallS (rest := rest) ⟨hx, hb, hml, hown, hts⟩ hE va_S.rf hM (gdS kw.2.1 kw.2.2.1 kw.2.2.2 (jgood kw.1)) hd hR hn hls hst hcat hdg ⟨Nat.zero_le _, Nat.zero_le _⟩)) (fun x hx9 => ?_)
  subst hx9
  exact kk
theorem jcS_v {y : MethodName} {bytes : ByteArray} {maxL n index fr lo : Nat} {ret : Option FieldType} {As : List Value} (hC : jX p c cc nL s m args own Z A) (hM : Met l y (Cond.code y bytes maxL ret :: wJ) { frames := fr, cells := 0, slots := 0, locals := lo } (va_Pc As (sP Z A)) (va_Sv (fun _ => True)) 0 0 (fun _ => False)) (kw : Cond.code y bytes maxL ret ∈ wJ ∧ Cond.methodLink own index y ∈ wJ ∧ Cond.static y ∈ wJ ∧ Cond.initialized y.cls ∈ wJ)
    (hd : y.cls ≠ "java/lang/invoke/MethodHandle" ∧ y.cls ≠ "java/lang/invoke/VarHandle" ∧ (parseMethodDescriptor y.desc).map (fun d => d.parameters.length) = some n) (hR : fr + 1 ≤ R.frames ∧ 8 + (maxL + 11) + lo ≤ R.locals) (hn : As.length = n) (hls : ls.size = nL) (hst : st0 = As.reverse ++ rest) (hcat : (rest.map fun v => v.category).sum ≤ 8) (hdg : decode cc pc = .ok (.invokestatic index, 3)) (kk : W p l e R s m args below meth c s.heap [] 0 0 Q' (F0 m (pc + 3) ls rest)) : W p l e R s m args below meth c s.heap [] 0 0 Q' (F0 m pc ls st0) := by
  obtain ⟨hx, hb, hml, hown, hts, hE⟩ := hC
  exact va_csv (va_Run.run (jcallS (rest := rest) ⟨hx, hb, hml, hown, hts⟩ hE va_S.rf hM (gdS kw.2.1 kw.2.2.1 kw.2.2.2 (jgood kw.1)) hd hR hn hls hst hcat hdg ⟨Nat.zero_le _, Nat.zero_le _⟩)) (fun _ => kk)
end JC
def fj_coder (k : Nat) : Option Int32 := (if (1 : Int32) = 0 then some 1 else some 0)
set_option maxHeartbeats 4000000 in
theorem j_coder (l : Launch) (Z : gM) (A : Nat → Prop) (k : Nat) (r : Int32) (hs : k < 38) (hF : fj_coder k = some r) : Met l yJ0_coder_7d493 (Cond.code yJ0_coder_7d493 cJ0_coder_7d493 1 (some .byte) :: wJ) { frames := 0, cells := 0, slots := 0, locals := 0 } (va_Pc [.ref (Z.1 k)] (sP Z A)) (vp_Si (fun x : Int32 => x = r)) 0 0 (fun _ => False) := by
  refine Met.ofW (cc := cJ0_coder_7d493) (maxL := 1) (ret := (some .byte)) (by decide) rfl ?_
  intro p e s m args below meth c s₁ B hml hv
  obtain ⟨rfl, hE⟩ := hv
  have hr := B.returns
  have hlocks := B.notSynchronized
  have hts := atoms_spec (ws := Cond.code yJ0_coder_7d493 cJ0_coder_7d493 1 (some .byte) :: wJ) B.pre
  have hC : jX p c cJ0_coder_7d493 1 s m _ RJ0 Z A := ⟨B.exec, B.bytes, hml, findClass_of_methodNamed B.named, fun w h => hts w (List.mem_cons_of_mem _ h), hE⟩
  have hx := hC.1
  have hb := hC.2.1
  have hl := lv_entry ([.ref (Z.1 k)]) (n := 1) (Nat.le_of_ble_eq_true rfl)
  rw [lg_entry_eq]
  generalize (lg_sl ([.ref (Z.1 k)]) ++ List.replicate (1 - (lg_sl ([.ref (Z.1 k)])).length) Slot.unset).toArray = ls at hl ⊢
  have hl : lv_has ls 1 [(0, .ref (Z.1 k))] := hl
  unfold fj_coder at hF
  refine va_gets hx hb hC.2.2.2.2.2.1.1 va_S.rf hC.2.2.2.1 (hC.2.2.2.2.1 _ wj0) (fun _ h9 => h9) dJ0_coder_7d493_0 ?_
  refine lv_if_eq (tgt := 13) hx hb dJ0_coder_7d493_3 (by decide) (fun c_1 => ?_) (fun c_1 => ?_)
  · rw [if_pos c_1] at hF
    refine lv_iconst (v := 1) hx hb dJ0_coder_7d493_13 (by decide) ?_
    exact W.zret (v := 1) hx hb hr rfl (fun t ht hW => ⟨_, rfl, Option.some.inj hF, ht⟩) (fun q h => absurd h List.not_mem_nil) dJ0_coder_7d493_14
  · rw [if_neg c_1] at hF
    refine lv_aload_n hx hb dJ0_coder_7d493_6 rfl (lv_at hl 0 rfl) ?_
    refine vk_getf hx hb (hC.2.2.2.2.2.2.1 k hs).2.1 va_S.rf hC.2.2.2.1 (hC.2.2.2.2.1 _ wj1) (fun _ h9 => h9) dJ0_coder_7d493_7 ?_
    refine lv_goto (tgt := 14) hx hb dJ0_coder_7d493_10 (by decide) ?_
    exact W.zret (v := 0) hx hb hr rfl (fun t ht hW => ⟨_, rfl, Option.some.inj hF, ht⟩) (fun q h => absurd h List.not_mem_nil) dJ0_coder_7d493_14
def fj_isLatin1 (k : Nat) : Option Int32 := (if (1 : Int32) = 0 then some 0 else (if (0 : Int32) = 0 then some 1 else some 0))
set_option maxHeartbeats 4000000 in
theorem j_isLatin1 (l : Launch) (Z : gM) (A : Nat → Prop) (k : Nat) (r : Int32) (hs : k < 38) (hF : fj_isLatin1 k = some r) : Met l yJ0_isLatin1_aae02 (Cond.code yJ0_isLatin1_aae02 cJ0_isLatin1_aae02 1 (some .boolean) :: wJ) { frames := 0, cells := 0, slots := 0, locals := 0 } (va_Pc [.ref (Z.1 k)] (sP Z A)) (vp_Si (fun x : Int32 => x = r)) 0 0 (fun _ => False) := by
  refine Met.ofW (cc := cJ0_isLatin1_aae02) (maxL := 1) (ret := (some .boolean)) (by decide) rfl ?_
  intro p e s m args below meth c s₁ B hml hv
  obtain ⟨rfl, hE⟩ := hv
  have hr := B.returns
  have hlocks := B.notSynchronized
  have hts := atoms_spec (ws := Cond.code yJ0_isLatin1_aae02 cJ0_isLatin1_aae02 1 (some .boolean) :: wJ) B.pre
  have hC : jX p c cJ0_isLatin1_aae02 1 s m _ RJ0 Z A := ⟨B.exec, B.bytes, hml, findClass_of_methodNamed B.named, fun w h => hts w (List.mem_cons_of_mem _ h), hE⟩
  have hx := hC.1
  have hb := hC.2.1
  have hl := lv_entry ([.ref (Z.1 k)]) (n := 1) (Nat.le_of_ble_eq_true rfl)
  rw [lg_entry_eq]
  generalize (lg_sl ([.ref (Z.1 k)]) ++ List.replicate (1 - (lg_sl ([.ref (Z.1 k)])).length) Slot.unset).toArray = ls at hl ⊢
  have hl : lv_has ls 1 [(0, .ref (Z.1 k))] := hl
  unfold fj_isLatin1 at hF
  refine va_gets hx hb hC.2.2.2.2.2.1.1 va_S.rf hC.2.2.2.1 (hC.2.2.2.2.1 _ wj0) (fun _ h9 => h9) dJ0_isLatin1_aae02_0 ?_
  refine lv_if_eq (tgt := 17) hx hb dJ0_isLatin1_aae02_3 (by decide) (fun c_1 => ?_) (fun c_1 => ?_)
  · rw [if_pos c_1] at hF
    refine lv_iconst (v := 0) hx hb dJ0_isLatin1_aae02_17 (by decide) ?_
    exact W.zret (v := 0) hx hb hr rfl (fun t ht hW => ⟨_, rfl, Option.some.inj hF, ht⟩) (fun q h => absurd h List.not_mem_nil) dJ0_isLatin1_aae02_18
  · rw [if_neg c_1] at hF
    refine lv_aload_n hx hb dJ0_isLatin1_aae02_6 rfl (lv_at hl 0 rfl) ?_
    refine vk_getf hx hb (hC.2.2.2.2.2.2.1 k hs).2.1 va_S.rf hC.2.2.2.1 (hC.2.2.2.2.1 _ wj1) (fun _ h9 => h9) dJ0_isLatin1_aae02_7 ?_
    refine lv_if_ne (tgt := 17) hx hb dJ0_isLatin1_aae02_10 (by decide) (fun c_2 => ?_) (fun c_2 => ?_)
    · rw [if_neg c_2] at hF
      refine lv_iconst (v := 0) hx hb dJ0_isLatin1_aae02_17 (by decide) ?_
      exact W.zret (v := 0) hx hb hr rfl (fun t ht hW => ⟨_, rfl, Option.some.inj hF, ht⟩) (fun q h => absurd h List.not_mem_nil) dJ0_isLatin1_aae02_18
    · rw [if_pos c_2] at hF
      refine lv_iconst (v := 1) hx hb dJ0_isLatin1_aae02_13 (by decide) ?_
      refine lv_goto (tgt := 18) hx hb dJ0_isLatin1_aae02_14 (by decide) ?_
      exact W.zret (v := 1) hx hb hr rfl (fun t ht hW => ⟨_, rfl, Option.some.inj hF, ht⟩) (fun q h => absurd h List.not_mem_nil) dJ0_isLatin1_aae02_18
def fj_len (k : Nat) : Option Int32 := oi (fj_coder k) (fun r_1 => some ((Int32.ofNat (sBy k).length) >>> (r_1 &&& 31)))
set_option maxHeartbeats 4000000 in
theorem j_len (l : Launch) (Z : gM) (A : Nat → Prop) (k : Nat) (r : Int32) (hs : k < 38) (hF : fj_len k = some r) : Met l yJ0_length_8abf5 (Cond.code yJ0_length_8abf5 cJ0_length_8abf5 1 (some .int) :: wJ) { frames := 1, cells := 0, slots := 0, locals := 20 } (va_Pc [.ref (Z.1 k)] (sP Z A)) (vp_Si (fun x : Int32 => x = r)) 0 0 (fun _ => False) := by
  refine Met.ofW (cc := cJ0_length_8abf5) (maxL := 1) (ret := (some .int)) (by decide) rfl ?_
  intro p e s m args below meth c s₁ B hml hv
  obtain ⟨rfl, hE⟩ := hv
  have hr := B.returns
  have hlocks := B.notSynchronized
  have hts := atoms_spec (ws := Cond.code yJ0_length_8abf5 cJ0_length_8abf5 1 (some .int) :: wJ) B.pre
  have hC : jX p c cJ0_length_8abf5 1 s m _ RJ0 Z A := ⟨B.exec, B.bytes, hml, findClass_of_methodNamed B.named, fun w h => hts w (List.mem_cons_of_mem _ h), hE⟩
  have hx := hC.1
  have hb := hC.2.1
  have hl := lv_entry ([.ref (Z.1 k)]) (n := 1) (Nat.le_of_ble_eq_true rfl)
  rw [lg_entry_eq]
  generalize (lg_sl ([.ref (Z.1 k)]) ++ List.replicate (1 - (lg_sl ([.ref (Z.1 k)])).length) Slot.unset).toArray = ls at hl ⊢
  have hl : lv_has ls 1 [(0, .ref (Z.1 k))] := hl
  unfold fj_len at hF
  refine lv_aload_n hx hb dJ0_length_8abf5_0 rfl (lv_at hl 0 rfl) ?_
  refine vk_getf hx hb (hC.2.2.2.2.2.2.1 k hs).2.2.1 va_S.rf hC.2.2.2.1 (hC.2.2.2.2.1 _ wj2) (fun _ h9 => h9) dJ0_length_8abf5_1 ?_
  refine va_tlen hx hb (hC.2.2.2.2.2.2.1 k hs).2.2.2 va_S.rf rfl dJ0_length_8abf5_4 ?_
  refine lv_aload_n hx hb dJ0_length_8abf5_5 rfl (lv_at hl 0 rfl) ?_
  obtain ⟨r_1, h_2, hF⟩ := oi_some hF
  refine jcV_i (As := []) (rest := [.int (Int32.ofNat (sBy k).length)]) hs hC (j_coder l Z A k r_1 hs h_2) ⟨wj3, wj4, wj5, wj6, wj7⟩ kVJ0_coder_7d493 ⟨Nat.le_of_ble_eq_true rfl, Nat.le_of_ble_eq_true rfl⟩ rfl hl.1 rfl (Nat.le_of_ble_eq_true rfl) dJ0_length_8abf5_6 ?_
  refine lv_ishr hx hb dJ0_length_8abf5_9 ?_
  exact W.iret (v := ((Int32.ofNat (sBy k).length) >>> (r_1 &&& 31))) hx hb hr (fun t ht hW => ⟨_, rfl, Option.some.inj hF, ht⟩) (fun q h => absurd h List.not_mem_nil) dJ0_length_8abf5_10
def fj_chk3 (a0 : Int32) (a1 : Int32) : Option Int32 := (if a0 < 0 then none else (if a0 < a1 then some a0 else none))
set_option maxHeartbeats 4000000 in
theorem j_chk3N (l : Launch) (Z : gM) (A : Nat → Prop) (a0 : Int32) (a1 : Int32) (r : Int32) (hF : fj_chk3 a0 a1 = some r) : Met l yJ3_checkIndex_8e157 (Cond.code yJ3_checkIndex_8e157 cJ3_checkIndex_8e157 3 (some .int) :: wJ) { frames := 0, cells := 0, slots := 0, locals := 0 } (va_Pc [.int a0, .int a1, .null] (sP Z A)) (vp_Si (fun x : Int32 => x = r)) 0 0 (fun _ => False) := by
  refine Met.ofW (cc := cJ3_checkIndex_8e157) (maxL := 3) (ret := (some .int)) (by decide) rfl ?_
  intro p e s m args below meth c s₁ B hml hv
  obtain ⟨rfl, hE⟩ := hv
  have hr := B.returns
  have hlocks := B.notSynchronized
  have hts := atoms_spec (ws := Cond.code yJ3_checkIndex_8e157 cJ3_checkIndex_8e157 3 (some .int) :: wJ) B.pre
  have hC : jX p c cJ3_checkIndex_8e157 3 s m _ RJ3 Z A := ⟨B.exec, B.bytes, hml, findClass_of_methodNamed B.named, fun w h => hts w (List.mem_cons_of_mem _ h), hE⟩
  have hx := hC.1
  have hb := hC.2.1
  have hl := lv_entry ([.int a0, .int a1, .null]) (n := 3) (Nat.le_of_ble_eq_true rfl)
  rw [lg_entry_eq]
  generalize (lg_sl ([.int a0, .int a1, .null]) ++ List.replicate (3 - (lg_sl ([.int a0, .int a1, .null])).length) Slot.unset).toArray = ls at hl ⊢
  have hl : lv_has ls 3 [(0, .int a0), (1, .int a1), (2, .null)] := hl
  unfold fj_chk3 at hF
  refine lv_iload_n hx hb dJ3_checkIndex_8e157_0 rfl (lv_at hl 0 rfl) ?_
  refine lv_if_lt (tgt := 9) hx hb dJ3_checkIndex_8e157_1 (by decide) (fun c_1 => ?_) (fun c_1 => ?_)
  · rw [if_pos c_1] at hF
    cases hF
  · rw [if_neg c_1] at hF
    refine lv_iload_n hx hb dJ3_checkIndex_8e157_4 rfl (lv_at hl 0 rfl) ?_
    refine lv_iload_n hx hb dJ3_checkIndex_8e157_5 rfl (lv_at hl 1 rfl) ?_
    refine lv_icmp_lt (tgt := 16) hx hb dJ3_checkIndex_8e157_6 (by decide) (fun c_2 => ?_) (fun c_2 => ?_)
    · rw [if_pos c_2] at hF
      refine lv_iload_n hx hb dJ3_checkIndex_8e157_16 rfl (lv_at hl 0 rfl) ?_
      exact W.iret (v := a0) hx hb hr (fun t ht hW => ⟨_, rfl, Option.some.inj hF, ht⟩) (fun q h => absurd h List.not_mem_nil) dJ3_checkIndex_8e157_17
    · rw [if_neg c_2] at hF
      cases hF
set_option maxHeartbeats 4000000 in
theorem j_chk3R (l : Launch) (Z : gM) (A : Nat → Prop) (q0 : Nat) (a0 : Int32) (a1 : Int32) (r : Int32) (hF : fj_chk3 a0 a1 = some r) : Met l yJ3_checkIndex_8e157 (Cond.code yJ3_checkIndex_8e157 cJ3_checkIndex_8e157 3 (some .int) :: wJ) { frames := 0, cells := 0, slots := 0, locals := 0 } (va_Pc [.int a0, .int a1, .ref q0] (sP Z A)) (vp_Si (fun x : Int32 => x = r)) 0 0 (fun _ => False) := by
  refine Met.ofW (cc := cJ3_checkIndex_8e157) (maxL := 3) (ret := (some .int)) (by decide) rfl ?_
  intro p e s m args below meth c s₁ B hml hv
  obtain ⟨rfl, hE⟩ := hv
  have hr := B.returns
  have hlocks := B.notSynchronized
  have hts := atoms_spec (ws := Cond.code yJ3_checkIndex_8e157 cJ3_checkIndex_8e157 3 (some .int) :: wJ) B.pre
  have hC : jX p c cJ3_checkIndex_8e157 3 s m _ RJ3 Z A := ⟨B.exec, B.bytes, hml, findClass_of_methodNamed B.named, fun w h => hts w (List.mem_cons_of_mem _ h), hE⟩
  have hx := hC.1
  have hb := hC.2.1
  have hl := lv_entry ([.int a0, .int a1, .ref q0]) (n := 3) (Nat.le_of_ble_eq_true rfl)
  rw [lg_entry_eq]
  generalize (lg_sl ([.int a0, .int a1, .ref q0]) ++ List.replicate (3 - (lg_sl ([.int a0, .int a1, .ref q0])).length) Slot.unset).toArray = ls at hl ⊢
  have hl : lv_has ls 3 [(0, .int a0), (1, .int a1), (2, .ref q0)] := hl
  unfold fj_chk3 at hF
  refine lv_iload_n hx hb dJ3_checkIndex_8e157_0 rfl (lv_at hl 0 rfl) ?_
  refine lv_if_lt (tgt := 9) hx hb dJ3_checkIndex_8e157_1 (by decide) (fun c_1 => ?_) (fun c_1 => ?_)
  · rw [if_pos c_1] at hF
    cases hF
  · rw [if_neg c_1] at hF
    refine lv_iload_n hx hb dJ3_checkIndex_8e157_4 rfl (lv_at hl 0 rfl) ?_
    refine lv_iload_n hx hb dJ3_checkIndex_8e157_5 rfl (lv_at hl 1 rfl) ?_
    refine lv_icmp_lt (tgt := 16) hx hb dJ3_checkIndex_8e157_6 (by decide) (fun c_2 => ?_) (fun c_2 => ?_)
    · rw [if_pos c_2] at hF
      refine lv_iload_n hx hb dJ3_checkIndex_8e157_16 rfl (lv_at hl 0 rfl) ?_
      exact W.iret (v := a0) hx hb hr (fun t ht hW => ⟨_, rfl, Option.some.inj hF, ht⟩) (fun q h => absurd h List.not_mem_nil) dJ3_checkIndex_8e157_17
    · rw [if_neg c_2] at hF
      cases hF
def fj_chk (a0 : Int32) (a1 : Int32) : Option Int32 := oi (fj_chk3 a0 a1) (fun r_3 => some 0)
set_option maxHeartbeats 4000000 in
theorem j_chk (l : Launch) (Z : gM) (A : Nat → Prop) (a0 : Int32) (a1 : Int32) (r : Int32) (hF : fj_chk a0 a1 = some r) : Met l yJ0_checkIndex_df160 (Cond.code yJ0_checkIndex_df160 cJ0_checkIndex_df160 2 none :: wJ) { frames := 1, cells := 0, slots := 0, locals := 22 } (va_Pc [.int a0, .int a1] (sP Z A)) (va_Sv (fun _ => True)) 0 0 (fun _ => False) := by
  refine Met.ofW (cc := cJ0_checkIndex_df160) (maxL := 2) (ret := none) (by decide) rfl ?_
  intro p e s m args below meth c s₁ B hml hv
  obtain ⟨rfl, hE⟩ := hv
  have hr := B.returns
  have hlocks := B.notSynchronized
  have hts := atoms_spec (ws := Cond.code yJ0_checkIndex_df160 cJ0_checkIndex_df160 2 none :: wJ) B.pre
  have hC : jX p c cJ0_checkIndex_df160 2 s m _ RJ0 Z A := ⟨B.exec, B.bytes, hml, findClass_of_methodNamed B.named, fun w h => hts w (List.mem_cons_of_mem _ h), hE⟩
  have hx := hC.1
  have hb := hC.2.1
  have hl := lv_entry ([.int a0, .int a1]) (n := 2) (Nat.le_of_ble_eq_true rfl)
  rw [lg_entry_eq]
  generalize (lg_sl ([.int a0, .int a1]) ++ List.replicate (2 - (lg_sl ([.int a0, .int a1])).length) Slot.unset).toArray = ls at hl ⊢
  have hl : lv_has ls 2 [(0, .int a0), (1, .int a1)] := hl
  unfold fj_chk at hF
  refine lv_iload_n hx hb dJ0_checkIndex_df160_0 rfl (lv_at hl 0 rfl) ?_
  refine lv_iload_n hx hb dJ0_checkIndex_df160_1 rfl (lv_at hl 1 rfl) ?_
  have hz9 := hC.2.2.2.2.2.1.2.1
  rcases hC.2.2.2.2.2.1.2.2 with h9 | ⟨q0, h9⟩
  · rw [h9] at hz9
    refine va_gets hx hb hz9 va_S.rf hC.2.2.2.1 (hC.2.2.2.2.1 _ wj8) (fun _ h9 => h9) dJ0_checkIndex_df160_2 ?_
    obtain ⟨r_1, h_2, hF⟩ := oi_some hF
    refine jcS_i (As := [.int a0, .int a1, .null]) (rest := []) hC (j_chk3N l Z A a0 a1 r_1 h_2) ⟨wj9, wj10, wj11, wj12⟩ kSJ3_checkIndex_8e157 ⟨Nat.le_of_ble_eq_true rfl, Nat.le_of_ble_eq_true rfl⟩ rfl hl.1 rfl (Nat.le_of_ble_eq_true rfl) dJ0_checkIndex_df160_5 ?_
    refine lv_pop hx hb dJ0_checkIndex_df160_8 rfl ?_
    exact W.vret hx hb hr (fun t ht hW => ⟨rfl, trivial, ht⟩) (fun q h => absurd h List.not_mem_nil) dJ0_checkIndex_df160_9
  · rw [h9] at hz9
    refine va_gets hx hb hz9 va_S.rf hC.2.2.2.1 (hC.2.2.2.2.1 _ wj8) (fun _ h9 => h9) dJ0_checkIndex_df160_2 ?_
    obtain ⟨r_3, h_4, hF⟩ := oi_some hF
    refine jcS_i (As := [.int a0, .int a1, .ref q0]) (rest := []) hC (j_chk3R l Z A q0 a0 a1 r_3 h_4) ⟨wj9, wj10, wj11, wj12⟩ kSJ3_checkIndex_8e157 ⟨Nat.le_of_ble_eq_true rfl, Nat.le_of_ble_eq_true rfl⟩ rfl hl.1 rfl (Nat.le_of_ble_eq_true rfl) dJ0_checkIndex_df160_5 ?_
    refine lv_pop hx hb dJ0_checkIndex_df160_8 rfl ?_
    exact W.vret hx hb hr (fun t ht hW => ⟨rfl, trivial, ht⟩) (fun q h => absurd h List.not_mem_nil) dJ0_checkIndex_df160_9
def fj_l1charAt (k : Nat) (a1 : Int32) : Option Int32 := oi (fj_chk a1 (Int32.ofNat (sBy k).length)) (fun r_1 => og (gi a1 (sBy k).length) (og (gc (((((sBy k).getD a1.toNatClampNeg 0) &&& 255).toUInt32 % 65536).toInt32)) (some (((((sBy k).getD a1.toNatClampNeg 0) &&& 255).toUInt32 % 65536).toInt32))))
set_option maxHeartbeats 4000000 in
theorem j_l1charAt (l : Launch) (Z : gM) (A : Nat → Prop) (k : Nat) (a1 : Int32) (r : Int32) (hs : k < 38) (hF : fj_l1charAt k a1 = some r) : Met l yJ1_charAt_3b067 (Cond.code yJ1_charAt_3b067 cJ1_charAt_3b067 2 (some .char) :: wJ) { frames := 2, cells := 0, slots := 0, locals := 43 } (va_Pc [.ref (Z.2.1 k), .int a1] (sP Z A)) (vp_Si (fun x : Int32 => x = r)) 0 0 (fun _ => False) := by
  refine Met.ofW (cc := cJ1_charAt_3b067) (maxL := 2) (ret := (some .char)) (by decide) rfl ?_
  intro p e s m args below meth c s₁ B hml hv
  obtain ⟨rfl, hE⟩ := hv
  have hr := B.returns
  have hlocks := B.notSynchronized
  have hts := atoms_spec (ws := Cond.code yJ1_charAt_3b067 cJ1_charAt_3b067 2 (some .char) :: wJ) B.pre
  have hC : jX p c cJ1_charAt_3b067 2 s m _ RJ1 Z A := ⟨B.exec, B.bytes, hml, findClass_of_methodNamed B.named, fun w h => hts w (List.mem_cons_of_mem _ h), hE⟩
  have hx := hC.1
  have hb := hC.2.1
  have hl := lv_entry ([.ref (Z.2.1 k), .int a1]) (n := 2) (Nat.le_of_ble_eq_true rfl)
  rw [lg_entry_eq]
  generalize (lg_sl ([.ref (Z.2.1 k), .int a1]) ++ List.replicate (2 - (lg_sl ([.ref (Z.2.1 k), .int a1])).length) Slot.unset).toArray = ls at hl ⊢
  have hl : lv_has ls 2 [(0, .ref (Z.2.1 k)), (1, .int a1)] := hl
  unfold fj_l1charAt at hF
  refine lv_iload_n hx hb dJ1_charAt_3b067_0 rfl (lv_at hl 1 rfl) ?_
  refine lv_aload_n hx hb dJ1_charAt_3b067_1 rfl (lv_at hl 0 rfl) ?_
  refine va_tlen hx hb (hC.2.2.2.2.2.2.1 k hs).2.2.2 va_S.rf rfl dJ1_charAt_3b067_2 ?_
  obtain ⟨r_1, h_2, hF⟩ := oi_some hF
  refine jcS_v (As := [.int a1, .int (Int32.ofNat (sBy k).length)]) (rest := []) hC (j_chk l Z A a1 (Int32.ofNat (sBy k).length) r_1 h_2) ⟨wj13, wj14, wj15, wj7⟩ kSJ0_checkIndex_df160 ⟨Nat.le_of_ble_eq_true rfl, Nat.le_of_ble_eq_true rfl⟩ rfl hl.1 rfl (Nat.le_of_ble_eq_true rfl) dJ1_charAt_3b067_3 ?_
  refine lv_aload_n hx hb dJ1_charAt_3b067_6 rfl (lv_at hl 0 rfl) ?_
  refine lv_iload_n hx hb dJ1_charAt_3b067_7 rfl (lv_at hl 1 rfl) ?_
  obtain ⟨g_3, hF⟩ := og_some hF
  refine va_tb hx hb (hC.2.2.2.2.2.2.1 k hs).2.2.2 va_S.rf (gi_in g_3) rfl dJ1_charAt_3b067_8 ?_
  refine lv_sipush (v := 255) hx hb dJ1_charAt_3b067_9 (by decide) ?_
  refine lv_iand hx hb dJ1_charAt_3b067_12 ?_
  refine lv_i2c (v := ((((sBy k).getD a1.toNatClampNeg 0) &&& 255).toUInt32 % 65536).toInt32) hx hb dJ1_charAt_3b067_13 rfl ?_
  obtain ⟨g_4, hF⟩ := og_some hF
  exact W.zret (v := (((((sBy k).getD a1.toNatClampNeg 0) &&& 255).toUInt32 % 65536).toInt32)) hx hb hr (gc_nar g_4) (fun t ht hW => ⟨_, rfl, Option.some.inj hF, ht⟩) (fun q h => absurd h List.not_mem_nil) dJ1_charAt_3b067_14
def fj_charAt (k : Nat) (a1 : Int32) : Option Int32 := oi (fj_isLatin1 k) (fun r_1 => (if r_1 = 0 then none else oi (fj_l1charAt k a1) (fun r_4 => og (gc r_4) (some r_4))))
set_option maxHeartbeats 4000000 in
theorem j_charAt (l : Launch) (Z : gM) (A : Nat → Prop) (k : Nat) (a1 : Int32) (r : Int32) (hs : k < 38) (hF : fj_charAt k a1 = some r) : Met l yJ0_charAt_5068e (Cond.code yJ0_charAt_5068e cJ0_charAt_5068e 2 (some .char) :: wJ) { frames := 3, cells := 0, slots := 0, locals := 64 } (va_Pc [.ref (Z.1 k), .int a1] (sP Z A)) (vp_Si (fun x : Int32 => x = r)) 0 0 (fun _ => False) := by
  refine Met.ofW (cc := cJ0_charAt_5068e) (maxL := 2) (ret := (some .char)) (by decide) rfl ?_
  intro p e s m args below meth c s₁ B hml hv
  obtain ⟨rfl, hE⟩ := hv
  have hr := B.returns
  have hlocks := B.notSynchronized
  have hts := atoms_spec (ws := Cond.code yJ0_charAt_5068e cJ0_charAt_5068e 2 (some .char) :: wJ) B.pre
  have hC : jX p c cJ0_charAt_5068e 2 s m _ RJ0 Z A := ⟨B.exec, B.bytes, hml, findClass_of_methodNamed B.named, fun w h => hts w (List.mem_cons_of_mem _ h), hE⟩
  have hx := hC.1
  have hb := hC.2.1
  have hl := lv_entry ([.ref (Z.1 k), .int a1]) (n := 2) (Nat.le_of_ble_eq_true rfl)
  rw [lg_entry_eq]
  generalize (lg_sl ([.ref (Z.1 k), .int a1]) ++ List.replicate (2 - (lg_sl ([.ref (Z.1 k), .int a1])).length) Slot.unset).toArray = ls at hl ⊢
  have hl : lv_has ls 2 [(0, .ref (Z.1 k)), (1, .int a1)] := hl
  unfold fj_charAt at hF
  refine lv_aload_n hx hb dJ0_charAt_5068e_0 rfl (lv_at hl 0 rfl) ?_
  obtain ⟨r_1, h_2, hF⟩ := oi_some hF
  refine jcV_i (As := []) (rest := []) hs hC (j_isLatin1 l Z A k r_1 hs h_2) ⟨wj16, wj17, wj18, wj19, wj7⟩ kVJ0_isLatin1_aae02 ⟨Nat.le_of_ble_eq_true rfl, Nat.le_of_ble_eq_true rfl⟩ rfl hl.1 rfl (Nat.le_of_ble_eq_true rfl) dJ0_charAt_5068e_1 ?_
  refine lv_if_eq (tgt := 16) hx hb dJ0_charAt_5068e_4 (by decide) (fun c_3 => ?_) (fun c_3 => ?_)
  · rw [if_pos c_3] at hF
    cases hF
  · rw [if_neg c_3] at hF
    refine lv_aload_n hx hb dJ0_charAt_5068e_7 rfl (lv_at hl 0 rfl) ?_
    refine vk_getf hx hb (hC.2.2.2.2.2.2.1 k hs).2.2.1 va_S.rf hC.2.2.2.1 (hC.2.2.2.2.1 _ wj2) (fun _ h9 => h9) dJ0_charAt_5068e_8 ?_
    refine lv_iload_n hx hb dJ0_charAt_5068e_11 rfl (lv_at hl 1 rfl) ?_
    obtain ⟨r_4, h_5, hF⟩ := oi_some hF
    refine jcS_i (As := [.ref (Z.2.1 k), .int a1]) (rest := []) hC (j_l1charAt l Z A k a1 r_4 hs h_5) ⟨wj20, wj21, wj22, wj23⟩ kSJ1_charAt_3b067 ⟨Nat.le_of_ble_eq_true rfl, Nat.le_of_ble_eq_true rfl⟩ rfl hl.1 rfl (Nat.le_of_ble_eq_true rfl) dJ0_charAt_5068e_12 ?_
    obtain ⟨g_6, hF⟩ := og_some hF
    exact W.zret (v := r_4) hx hb hr (gc_nar g_6) (fun t ht hW => ⟨_, rfl, Option.some.inj hF, ht⟩) (fun q h => absurd h List.not_mem_nil) dJ0_charAt_5068e_15
def fj_canEncode (a0 : Int32) : Option Int32 := (if a0 < 0 then some 0 else (if 255 < a0 then some 0 else some 1))
set_option maxHeartbeats 4000000 in
theorem j_canEncode (l : Launch) (Z : gM) (A : Nat → Prop) (a0 : Int32) (r : Int32) (hF : fj_canEncode a0 = some r) : Met l yJ1_canEncode_9a6ad (Cond.code yJ1_canEncode_9a6ad cJ1_canEncode_9a6ad 1 (some .boolean) :: wJ) { frames := 0, cells := 0, slots := 0, locals := 0 } (va_Pc [.int a0] (sP Z A)) (vp_Si (fun x : Int32 => x = r)) 0 0 (fun _ => False) := by
  refine Met.ofW (cc := cJ1_canEncode_9a6ad) (maxL := 1) (ret := (some .boolean)) (by decide) rfl ?_
  intro p e s m args below meth c s₁ B hml hv
  obtain ⟨rfl, hE⟩ := hv
  have hr := B.returns
  have hlocks := B.notSynchronized
  have hts := atoms_spec (ws := Cond.code yJ1_canEncode_9a6ad cJ1_canEncode_9a6ad 1 (some .boolean) :: wJ) B.pre
  have hC : jX p c cJ1_canEncode_9a6ad 1 s m _ RJ1 Z A := ⟨B.exec, B.bytes, hml, findClass_of_methodNamed B.named, fun w h => hts w (List.mem_cons_of_mem _ h), hE⟩
  have hx := hC.1
  have hb := hC.2.1
  have hl := lv_entry ([.int a0]) (n := 1) (Nat.le_of_ble_eq_true rfl)
  rw [lg_entry_eq]
  generalize (lg_sl ([.int a0]) ++ List.replicate (1 - (lg_sl ([.int a0])).length) Slot.unset).toArray = ls at hl ⊢
  have hl : lv_has ls 1 [(0, .int a0)] := hl
  unfold fj_canEncode at hF
  refine lv_iload_n hx hb dJ1_canEncode_9a6ad_0 rfl (lv_at hl 0 rfl) ?_
  refine lv_if_lt (tgt := 15) hx hb dJ1_canEncode_9a6ad_1 (by decide) (fun c_1 => ?_) (fun c_1 => ?_)
  · rw [if_pos c_1] at hF
    refine lv_iconst (v := 0) hx hb dJ1_canEncode_9a6ad_15 (by decide) ?_
    exact W.zret (v := 0) hx hb hr rfl (fun t ht hW => ⟨_, rfl, Option.some.inj hF, ht⟩) (fun q h => absurd h List.not_mem_nil) dJ1_canEncode_9a6ad_16
  · rw [if_neg c_1] at hF
    refine lv_iload_n hx hb dJ1_canEncode_9a6ad_4 rfl (lv_at hl 0 rfl) ?_
    refine lv_sipush (v := 255) hx hb dJ1_canEncode_9a6ad_5 (by decide) ?_
    refine lv_icmp_gt (tgt := 15) hx hb dJ1_canEncode_9a6ad_8 (by decide) (fun c_2 => ?_) (fun c_2 => ?_)
    · rw [if_pos c_2] at hF
      refine lv_iconst (v := 0) hx hb dJ1_canEncode_9a6ad_15 (by decide) ?_
      exact W.zret (v := 0) hx hb hr rfl (fun t ht hW => ⟨_, rfl, Option.some.inj hF, ht⟩) (fun q h => absurd h List.not_mem_nil) dJ1_canEncode_9a6ad_16
    · rw [if_neg c_2] at hF
      refine lv_iconst (v := 1) hx hb dJ1_canEncode_9a6ad_11 (by decide) ?_
      refine lv_goto (tgt := 16) hx hb dJ1_canEncode_9a6ad_12 (by decide) ?_
      exact W.zret (v := 1) hx hb hr rfl (fun t ht hW => ⟨_, rfl, Option.some.inj hF, ht⟩) (fun q h => absurd h List.not_mem_nil) dJ1_canEncode_9a6ad_16
def jl_ioc (k : Nat) (a1 a2 a3 v4 : Int32) : Nat → Int32 → Option Int32
  | 0, _ => none
  | n + 1, v5 => (if a3 ≤ v5 then some (-1) else og (gi v5 (sBy k).length) ((if ((sBy k).getD v5.toNatClampNeg 0) = v4 then some v5 else li (v5 + 1) (fun x_6 => jl_ioc k a1 a2 a3 v4 n x_6))))
def fj_ioc (k : Nat) (a1 : Int32) (a2 : Int32) (a3 : Int32) : Option Int32 := li a1.toInt8.toInt32 (fun x_1 => jl_ioc k a1 a2 a3 x_1 fuel a2)
set_option maxHeartbeats 4000000 in
theorem j_ioc (l : Launch) (Z : gM) (A : Nat → Prop) (k : Nat) (a1 : Int32) (a2 : Int32) (a3 : Int32) (r : Int32) (hs : k < 38) (hF : fj_ioc k a1 a2 a3 = some r) : Met l yJ1_indexOfChar_4cfef (Cond.code yJ1_indexOfChar_4cfef cJ1_indexOfChar_4cfef 6 (some .int) :: wJ) { frames := 0, cells := 0, slots := 0, locals := 0 } (va_Pc [.ref (Z.2.1 k), .int a1, .int a2, .int a3] (sP Z A)) (vp_Si (fun x : Int32 => x = r)) 0 0 (fun _ => False) := by
  refine Met.ofW (cc := cJ1_indexOfChar_4cfef) (maxL := 6) (ret := (some .int)) (by decide) rfl ?_
  intro p e s m args below meth c s₁ B hml hv
  obtain ⟨rfl, hE⟩ := hv
  have hr := B.returns
  have hlocks := B.notSynchronized
  have hts := atoms_spec (ws := Cond.code yJ1_indexOfChar_4cfef cJ1_indexOfChar_4cfef 6 (some .int) :: wJ) B.pre
  have hC : jX p c cJ1_indexOfChar_4cfef 6 s m _ RJ1 Z A := ⟨B.exec, B.bytes, hml, findClass_of_methodNamed B.named, fun w h => hts w (List.mem_cons_of_mem _ h), hE⟩
  have hx := hC.1
  have hb := hC.2.1
  have hl := lv_entry ([.ref (Z.2.1 k), .int a1, .int a2, .int a3]) (n := 6) (Nat.le_of_ble_eq_true rfl)
  rw [lg_entry_eq]
  generalize (lg_sl ([.ref (Z.2.1 k), .int a1, .int a2, .int a3]) ++ List.replicate (6 - (lg_sl ([.ref (Z.2.1 k), .int a1, .int a2, .int a3])).length) Slot.unset).toArray = ls at hl ⊢
  have hl : lv_has ls 6 [(0, .ref (Z.2.1 k)), (1, .int a1), (2, .int a2), (3, .int a3)] := hl
  unfold fj_ioc at hF
  refine lv_iload_n hx hb dJ1_indexOfChar_4cfef_0 rfl (lv_at hl 1 rfl) ?_
  refine lv_i2b (v := a1.toInt8.toInt32) hx hb dJ1_indexOfChar_4cfef_1 rfl ?_
  obtain ⟨x_1, e_2, hF⟩ := li_some hF
  refine gx_ti e_2 ?_
  refine lv_istore (lv' := [(4, .int x_1), (0, .ref (Z.2.1 k)), (1, .int a1), (2, .int a2), (3, .int a3)]) hx hb dJ1_indexOfChar_4cfef_2 hl (by decide) rfl (fun ls hl => ?_)
  refine lv_iload_n hx hb dJ1_indexOfChar_4cfef_4 rfl (lv_at hl 3 rfl) ?_
  refine lv_istore (lv' := [(5, .int a2), (4, .int x_1), (0, .ref (Z.2.1 k)), (1, .int a1), (2, .int a2), (3, .int a3)]) hx hb dJ1_indexOfChar_4cfef_5 hl (by decide) rfl (fun ls hl => ?_)
  have hL : ∀ (v4 : Int32) (n : Nat) (v5 : Int32) (ls : Array Slot), lv_has ls 6 [(0, .ref (Z.2.1 k)), (1, .int a1), (2, .int a2), (3, .int a3), (4, .int v4), (5, .int v5)] → jl_ioc k a1 a2 a3 v4 n v5 = some r → W p l e (headSpec (Cond.code yJ1_indexOfChar_4cfef cJ1_indexOfChar_4cfef 6 (some .int) :: wJ) { frames := 0, cells := 0, slots := 0, locals := 0 }).room s m [.ref (Z.2.1 k), .int a1, .int a2, .int a3].toArray below meth c s.heap [] 0 0 (MQ below (vp_Si (fun x : Int32 => x = r)) [.ref (Z.2.1 k), .int a1, .int a2, .int a3].toArray s 0 0 (fun _ => False)) (F0 m 7 ls []) := by
    intro v4 n
    induction n with
    | zero => intro v5 ls hl hF; cases hF
    | succ n ih =>
      intro v5 ls hl hF
      unfold jl_ioc at hF
      refine lv_iload hx hb dJ1_indexOfChar_4cfef_7 (lv_at hl 5 rfl) ?_
      refine lv_iload_n hx hb dJ1_indexOfChar_4cfef_9 rfl (lv_at hl 3 rfl) ?_
      refine lv_icmp_ge (tgt := 31) hx hb dJ1_indexOfChar_4cfef_10 (by decide) (fun c_3 => ?_) (fun c_3 => ?_)
      · rw [if_pos c_3] at hF
        refine lv_iconst (v := (-1)) hx hb dJ1_indexOfChar_4cfef_31 (by decide) ?_
        exact W.iret (v := (-1)) hx hb hr (fun t ht hW => ⟨_, rfl, Option.some.inj hF, ht⟩) (fun q h => absurd h List.not_mem_nil) dJ1_indexOfChar_4cfef_32
      · rw [if_neg c_3] at hF
        refine lv_aload_n hx hb dJ1_indexOfChar_4cfef_13 rfl (lv_at hl 0 rfl) ?_
        refine lv_iload hx hb dJ1_indexOfChar_4cfef_14 (lv_at hl 5 rfl) ?_
        obtain ⟨g_4, hF⟩ := og_some hF
        refine va_tb hx hb (hC.2.2.2.2.2.2.1 k hs).2.2.2 va_S.rf (gi_in g_4) rfl dJ1_indexOfChar_4cfef_16 ?_
        refine lv_iload hx hb dJ1_indexOfChar_4cfef_17 (lv_at hl 4 rfl) ?_
        refine lv_icmp_ne (tgt := 25) hx hb dJ1_indexOfChar_4cfef_19 (by decide) (fun c_5 => ?_) (fun c_5 => ?_)
        · rw [if_neg c_5] at hF
          obtain ⟨x_6, e_7, hF⟩ := li_some hF
          refine lv_iinc (v := x_6) (lv' := [(5, .int x_6), (0, .ref (Z.2.1 k)), (1, .int a1), (2, .int a2), (3, .int a3), (4, .int v4)]) hx hb dJ1_indexOfChar_4cfef_25 hl (k := 5) rfl e_7 (by decide) rfl (fun ls hl => ?_)
          refine lv_goto (tgt := 7) hx hb dJ1_indexOfChar_4cfef_28 (by decide) ?_
          exact ih x_6 _ (lv_sub hl [1, 2, 3, 4, 5, 0] rfl) hF
        · rw [if_pos c_5] at hF
          refine lv_iload hx hb dJ1_indexOfChar_4cfef_22 (lv_at hl 5 rfl) ?_
          exact W.iret (v := v5) hx hb hr (fun t ht hW => ⟨_, rfl, Option.some.inj hF, ht⟩) (fun q h => absurd h List.not_mem_nil) dJ1_indexOfChar_4cfef_24
  exact hL x_1 fuel a2 _ (lv_sub hl [2, 3, 4, 5, 1, 0] rfl) hF
def fj_l1indexOf (k : Nat) (a1 : Int32) (a2 : Int32) (a3 : Int32) : Option Int32 := oi (fj_canEncode a1) (fun r_1 => (if r_1 = 0 then some (-1) else li (if a2 < 0 then 0 else a2) (fun x_4 => li (if (Int32.ofNat (sBy k).length) < a3 then (Int32.ofNat (sBy k).length) else a3) (fun x_6 => (if x_4 < x_6 then oi (fj_ioc k a1 x_4 x_6) (fun r_9 => some r_9) else some (-1))))))
set_option maxHeartbeats 4000000 in
theorem j_l1indexOf (l : Launch) (Z : gM) (A : Nat → Prop) (k : Nat) (a1 : Int32) (a2 : Int32) (a3 : Int32) (r : Int32) (hs : k < 38) (hF : fj_l1indexOf k a1 a2 a3 = some r) : Met l yJ1_indexOf_4cfef (Cond.code yJ1_indexOf_4cfef cJ1_indexOf_4cfef 4 (some .int) :: wJ) { frames := 1, cells := 0, slots := 0, locals := 25 } (va_Pc [.ref (Z.2.1 k), .int a1, .int a2, .int a3] (sP Z A)) (vp_Si (fun x : Int32 => x = r)) 0 0 (fun _ => False) := by
  refine Met.ofW (cc := cJ1_indexOf_4cfef) (maxL := 4) (ret := (some .int)) (by decide) rfl ?_
  intro p e s m args below meth c s₁ B hml hv
  obtain ⟨rfl, hE⟩ := hv
  have hr := B.returns
  have hlocks := B.notSynchronized
  have hts := atoms_spec (ws := Cond.code yJ1_indexOf_4cfef cJ1_indexOf_4cfef 4 (some .int) :: wJ) B.pre
  have hC : jX p c cJ1_indexOf_4cfef 4 s m _ RJ1 Z A := ⟨B.exec, B.bytes, hml, findClass_of_methodNamed B.named, fun w h => hts w (List.mem_cons_of_mem _ h), hE⟩
  have hx := hC.1
  have hb := hC.2.1
  have hl := lv_entry ([.ref (Z.2.1 k), .int a1, .int a2, .int a3]) (n := 4) (Nat.le_of_ble_eq_true rfl)
  rw [lg_entry_eq]
  generalize (lg_sl ([.ref (Z.2.1 k), .int a1, .int a2, .int a3]) ++ List.replicate (4 - (lg_sl ([.ref (Z.2.1 k), .int a1, .int a2, .int a3])).length) Slot.unset).toArray = ls at hl ⊢
  have hl : lv_has ls 4 [(0, .ref (Z.2.1 k)), (1, .int a1), (2, .int a2), (3, .int a3)] := hl
  unfold fj_l1indexOf at hF
  refine lv_iload_n hx hb dJ1_indexOf_4cfef_0 rfl (lv_at hl 1 rfl) ?_
  obtain ⟨r_1, h_2, hF⟩ := oi_some hF
  refine jcS_i (As := [.int a1]) (rest := []) hC (j_canEncode l Z A a1 r_1 h_2) ⟨wj24, wj25, wj26, wj23⟩ kSJ1_canEncode_9a6ad ⟨Nat.le_of_ble_eq_true rfl, Nat.le_of_ble_eq_true rfl⟩ rfl hl.1 rfl (Nat.le_of_ble_eq_true rfl) dJ1_indexOf_4cfef_1 ?_
  refine lv_if_ne (tgt := 9) hx hb dJ1_indexOf_4cfef_4 (by decide) (fun c_3 => ?_) (fun c_3 => ?_)
  · rw [if_neg c_3] at hF
    refine lv_iload_n hx hb dJ1_indexOf_4cfef_9 rfl (lv_at hl 2 rfl) ?_
    refine lv_iconst (v := 0) hx hb dJ1_indexOf_4cfef_10 (by decide) ?_
    refine va_mmax hx hb (hC.2.2.1.trans hl.1.symm) hC.2.2.2.1 (hC.2.2.2.2.1 _ wj27) (hC.2.2.2.2.1 _ wj28) (hC.2.2.2.2.1 _ wj29) (hC.2.2.2.2.1 _ wj30) (Nat.le_of_ble_eq_true rfl) (Nat.le_of_ble_eq_true rfl) (Nat.le_of_ble_eq_true rfl) (Nat.le_of_ble_eq_true rfl) dJ1_indexOf_4cfef_11 ?_
    obtain ⟨x_4, e_5, hF⟩ := li_some hF
    refine gx_ti e_5 ?_
    refine lv_istore_n (lv' := [(2, .int x_4), (0, .ref (Z.2.1 k)), (1, .int a1), (3, .int a3)]) hx hb dJ1_indexOf_4cfef_14 rfl hl (by decide) rfl (fun ls hl => ?_)
    refine lv_iload_n hx hb dJ1_indexOf_4cfef_15 rfl (lv_at hl 3 rfl) ?_
    refine lv_aload_n hx hb dJ1_indexOf_4cfef_16 rfl (lv_at hl 1 rfl) ?_
    refine va_tlen hx hb (hC.2.2.2.2.2.2.1 k hs).2.2.2 va_S.rf rfl dJ1_indexOf_4cfef_17 ?_
    refine va_mmin hx hb (hC.2.2.1.trans hl.1.symm) hC.2.2.2.1 (hC.2.2.2.2.1 _ wj31) (hC.2.2.2.2.1 _ wj32) (hC.2.2.2.2.1 _ wj29) (hC.2.2.2.2.1 _ wj33) (Nat.le_of_ble_eq_true rfl) (Nat.le_of_ble_eq_true rfl) (Nat.le_of_ble_eq_true rfl) (Nat.le_of_ble_eq_true rfl) dJ1_indexOf_4cfef_18 ?_
    obtain ⟨x_6, e_7, hF⟩ := li_some hF
    refine gx_ti e_7 ?_
    refine lv_istore_n (lv' := [(3, .int x_6), (2, .int x_4), (0, .ref (Z.2.1 k)), (1, .int a1)]) hx hb dJ1_indexOf_4cfef_21 rfl hl (by decide) rfl (fun ls hl => ?_)
    refine lv_iload_n hx hb dJ1_indexOf_4cfef_22 rfl (lv_at hl 1 rfl) ?_
    refine lv_iload_n hx hb dJ1_indexOf_4cfef_23 rfl (lv_at hl 0 rfl) ?_
    refine lv_icmp_lt (tgt := 29) hx hb dJ1_indexOf_4cfef_24 (by decide) (fun c_8 => ?_) (fun c_8 => ?_)
    · rw [if_pos c_8] at hF
      refine lv_aload_n hx hb dJ1_indexOf_4cfef_29 rfl (lv_at hl 2 rfl) ?_
      refine lv_iload_n hx hb dJ1_indexOf_4cfef_30 rfl (lv_at hl 3 rfl) ?_
      refine lv_iload_n hx hb dJ1_indexOf_4cfef_31 rfl (lv_at hl 1 rfl) ?_
      refine lv_iload_n hx hb dJ1_indexOf_4cfef_32 rfl (lv_at hl 0 rfl) ?_
      obtain ⟨r_9, h_10, hF⟩ := oi_some hF
      refine jcS_i (As := [.ref (Z.2.1 k), .int a1, .int x_4, .int x_6]) (rest := []) hC (j_ioc l Z A k a1 x_4 x_6 r_9 hs h_10) ⟨wj34, wj35, wj36, wj23⟩ kSJ1_indexOfChar_4cfef ⟨Nat.le_of_ble_eq_true rfl, Nat.le_of_ble_eq_true rfl⟩ rfl hl.1 rfl (Nat.le_of_ble_eq_true rfl) dJ1_indexOf_4cfef_33 ?_
      exact W.iret (v := r_9) hx hb hr (fun t ht hW => ⟨_, rfl, Option.some.inj hF, ht⟩) (fun q h => absurd h List.not_mem_nil) dJ1_indexOf_4cfef_36
    · rw [if_neg c_8] at hF
      refine lv_iconst (v := (-1)) hx hb dJ1_indexOf_4cfef_27 (by decide) ?_
      exact W.iret (v := (-1)) hx hb hr (fun t ht hW => ⟨_, rfl, Option.some.inj hF, ht⟩) (fun q h => absurd h List.not_mem_nil) dJ1_indexOf_4cfef_28
  · rw [if_pos c_3] at hF
    refine lv_iconst (v := (-1)) hx hb dJ1_indexOf_4cfef_7 (by decide) ?_
    exact W.iret (v := (-1)) hx hb hr (fun t ht hW => ⟨_, rfl, Option.some.inj hF, ht⟩) (fun q h => absurd h List.not_mem_nil) dJ1_indexOf_4cfef_8
def fj_indexOf2 (k : Nat) (a1 : Int32) (a2 : Int32) : Option Int32 := oi (fj_isLatin1 k) (fun r_1 => (if r_1 = 0 then none else oi (fj_len k) (fun r_4 => oi (fj_l1indexOf k a1 a2 r_4) (fun r_6 => some r_6))))
set_option maxHeartbeats 4000000 in
theorem j_indexOf2 (l : Launch) (Z : gM) (A : Nat → Prop) (k : Nat) (a1 : Int32) (a2 : Int32) (r : Int32) (hs : k < 38) (hF : fj_indexOf2 k a1 a2 = some r) : Met l yJ0_indexOf_7cf53 (Cond.code yJ0_indexOf_7cf53 cJ0_indexOf_7cf53 3 (some .int) :: wJ) { frames := 2, cells := 0, slots := 0, locals := 48 } (va_Pc [.ref (Z.1 k), .int a1, .int a2] (sP Z A)) (vp_Si (fun x : Int32 => x = r)) 0 0 (fun _ => False) := by
  refine Met.ofW (cc := cJ0_indexOf_7cf53) (maxL := 3) (ret := (some .int)) (by decide) rfl ?_
  intro p e s m args below meth c s₁ B hml hv
  obtain ⟨rfl, hE⟩ := hv
  have hr := B.returns
  have hlocks := B.notSynchronized
  have hts := atoms_spec (ws := Cond.code yJ0_indexOf_7cf53 cJ0_indexOf_7cf53 3 (some .int) :: wJ) B.pre
  have hC : jX p c cJ0_indexOf_7cf53 3 s m _ RJ0 Z A := ⟨B.exec, B.bytes, hml, findClass_of_methodNamed B.named, fun w h => hts w (List.mem_cons_of_mem _ h), hE⟩
  have hx := hC.1
  have hb := hC.2.1
  have hl := lv_entry ([.ref (Z.1 k), .int a1, .int a2]) (n := 3) (Nat.le_of_ble_eq_true rfl)
  rw [lg_entry_eq]
  generalize (lg_sl ([.ref (Z.1 k), .int a1, .int a2]) ++ List.replicate (3 - (lg_sl ([.ref (Z.1 k), .int a1, .int a2])).length) Slot.unset).toArray = ls at hl ⊢
  have hl : lv_has ls 3 [(0, .ref (Z.1 k)), (1, .int a1), (2, .int a2)] := hl
  unfold fj_indexOf2 at hF
  refine lv_aload_n hx hb dJ0_indexOf_7cf53_0 rfl (lv_at hl 0 rfl) ?_
  obtain ⟨r_1, h_2, hF⟩ := oi_some hF
  refine jcV_i (As := []) (rest := []) hs hC (j_isLatin1 l Z A k r_1 hs h_2) ⟨wj16, wj17, wj18, wj19, wj7⟩ kVJ0_isLatin1_aae02 ⟨Nat.le_of_ble_eq_true rfl, Nat.le_of_ble_eq_true rfl⟩ rfl hl.1 rfl (Nat.le_of_ble_eq_true rfl) dJ0_indexOf_7cf53_1 ?_
  refine lv_if_eq (tgt := 23) hx hb dJ0_indexOf_7cf53_4 (by decide) (fun c_3 => ?_) (fun c_3 => ?_)
  · rw [if_pos c_3] at hF
    cases hF
  · rw [if_neg c_3] at hF
    refine lv_aload_n hx hb dJ0_indexOf_7cf53_7 rfl (lv_at hl 0 rfl) ?_
    refine vk_getf hx hb (hC.2.2.2.2.2.2.1 k hs).2.2.1 va_S.rf hC.2.2.2.1 (hC.2.2.2.2.1 _ wj2) (fun _ h9 => h9) dJ0_indexOf_7cf53_8 ?_
    refine lv_iload_n hx hb dJ0_indexOf_7cf53_11 rfl (lv_at hl 1 rfl) ?_
    refine lv_iload_n hx hb dJ0_indexOf_7cf53_12 rfl (lv_at hl 2 rfl) ?_
    refine lv_aload_n hx hb dJ0_indexOf_7cf53_13 rfl (lv_at hl 0 rfl) ?_
    obtain ⟨r_4, h_5, hF⟩ := oi_some hF
    refine jcV_i (As := []) (rest := [.int a2, .int a1, .ref (Z.2.1 k)]) hs hC (j_len l Z A k r_4 hs h_5) ⟨wj37, wj38, wj39, wj40, wj7⟩ kVJ0_length_8abf5 ⟨Nat.le_of_ble_eq_true rfl, Nat.le_of_ble_eq_true rfl⟩ rfl hl.1 rfl (Nat.le_of_ble_eq_true rfl) dJ0_indexOf_7cf53_14 ?_
    obtain ⟨r_6, h_7, hF⟩ := oi_some hF
    refine jcS_i (As := [.ref (Z.2.1 k), .int a1, .int a2, .int r_4]) (rest := []) hC (j_l1indexOf l Z A k a1 a2 r_4 r_6 hs h_7) ⟨wj41, wj42, wj43, wj23⟩ kSJ1_indexOf_4cfef ⟨Nat.le_of_ble_eq_true rfl, Nat.le_of_ble_eq_true rfl⟩ rfl hl.1 rfl (Nat.le_of_ble_eq_true rfl) dJ0_indexOf_7cf53_17 ?_
    refine lv_goto (tgt := 36) hx hb dJ0_indexOf_7cf53_20 (by decide) ?_
    exact W.iret (v := r_6) hx hb hr (fun t ht hW => ⟨_, rfl, Option.some.inj hF, ht⟩) (fun q h => absurd h List.not_mem_nil) dJ0_indexOf_7cf53_36
def fj_indexOf (k : Nat) (a1 : Int32) : Option Int32 := oi (fj_indexOf2 k a1 0) (fun r_1 => some r_1)
set_option maxHeartbeats 4000000 in
theorem j_indexOf (l : Launch) (Z : gM) (A : Nat → Prop) (k : Nat) (a1 : Int32) (r : Int32) (hs : k < 38) (hF : fj_indexOf k a1 = some r) : Met l yJ0_indexOf_0f7a4 (Cond.code yJ0_indexOf_0f7a4 cJ0_indexOf_0f7a4 2 (some .int) :: wJ) { frames := 3, cells := 0, slots := 0, locals := 70 } (va_Pc [.ref (Z.1 k), .int a1] (sP Z A)) (vp_Si (fun x : Int32 => x = r)) 0 0 (fun _ => False) := by
  refine Met.ofW (cc := cJ0_indexOf_0f7a4) (maxL := 2) (ret := (some .int)) (by decide) rfl ?_
  intro p e s m args below meth c s₁ B hml hv
  obtain ⟨rfl, hE⟩ := hv
  have hr := B.returns
  have hlocks := B.notSynchronized
  have hts := atoms_spec (ws := Cond.code yJ0_indexOf_0f7a4 cJ0_indexOf_0f7a4 2 (some .int) :: wJ) B.pre
  have hC : jX p c cJ0_indexOf_0f7a4 2 s m _ RJ0 Z A := ⟨B.exec, B.bytes, hml, findClass_of_methodNamed B.named, fun w h => hts w (List.mem_cons_of_mem _ h), hE⟩
  have hx := hC.1
  have hb := hC.2.1
  have hl := lv_entry ([.ref (Z.1 k), .int a1]) (n := 2) (Nat.le_of_ble_eq_true rfl)
  rw [lg_entry_eq]
  generalize (lg_sl ([.ref (Z.1 k), .int a1]) ++ List.replicate (2 - (lg_sl ([.ref (Z.1 k), .int a1])).length) Slot.unset).toArray = ls at hl ⊢
  have hl : lv_has ls 2 [(0, .ref (Z.1 k)), (1, .int a1)] := hl
  unfold fj_indexOf at hF
  refine lv_aload_n hx hb dJ0_indexOf_0f7a4_0 rfl (lv_at hl 0 rfl) ?_
  refine lv_iload_n hx hb dJ0_indexOf_0f7a4_1 rfl (lv_at hl 1 rfl) ?_
  refine lv_iconst (v := 0) hx hb dJ0_indexOf_0f7a4_2 (by decide) ?_
  obtain ⟨r_1, h_2, hF⟩ := oi_some hF
  refine jcV_i (As := [.int a1, .int 0]) (rest := []) hs hC (j_indexOf2 l Z A k a1 0 r_1 hs h_2) ⟨wj44, wj45, wj46, wj47, wj7⟩ kVJ0_indexOf_7cf53 ⟨Nat.le_of_ble_eq_true rfl, Nat.le_of_ble_eq_true rfl⟩ rfl hl.1 rfl (Nat.le_of_ble_eq_true rfl) dJ0_indexOf_0f7a4_3 ?_
  exact W.iret (v := r_1) hx hb hr (fun t ht hW => ⟨_, rfl, Option.some.inj hF, ht⟩) (fun q h => absurd h List.not_mem_nil) dJ0_indexOf_0f7a4_6

