section
theorem dX13_base_0 : decode cX13_base 0 = .ok (.aload_n 0, 1) := D_42 (by decide +kernel)
theorem dX13_base_1 : decode cX13_base 1 = .ok (.getfield 40, 3) := D_180 (by decide +kernel)
theorem dX13_base_4 : decode cX13_base 4 = .ok (.iload_n 1, 1) := D_27 (by decide +kernel)
theorem dX13_base_5 : decode cX13_base 5 = .ok (.iaload, 1) := D_46 (by decide +kernel)
theorem dX13_base_6 : decode cX13_base 6 = .ok (.aload_n 0, 1) := D_42 (by decide +kernel)
theorem dX13_base_7 : decode cX13_base 7 = .ok (.getfield 40, 3) := D_180 (by decide +kernel)
theorem dX13_base_10 : decode cX13_base 10 = .ok (.iload_n 1, 1) := D_27 (by decide +kernel)
theorem dX13_base_11 : decode cX13_base 11 = .ok (.iaload, 1) := D_46 (by decide +kernel)
theorem dX13_base_12 : decode cX13_base 12 = .ok (.iload_n 2, 1) := D_28 (by decide +kernel)
theorem dX13_base_13 : decode cX13_base 13 = .ok (.ishr, 1) := D_122 (by decide +kernel)
theorem dX13_base_14 : decode cX13_base 14 = .ok (.isub, 1) := D_100 (by decide +kernel)
theorem dX13_base_15 : decode cX13_base 15 = .ok (.ireturn, 1) := D_172 (by decide +kernel)
theorem kSX13_base : yX13_base.cls ≠ "java/lang/invoke/MethodHandle" ∧ yX13_base.cls ≠ "java/lang/invoke/VarHandle" ∧ (parseMethodDescriptor yX13_base.desc).map (fun d => d.parameters.length) = some 2 := by decide +kernel
theorem kVX13_base : yX13_base.cls = RX13 ∧ yX13_base.cls ≠ "java/lang/invoke/MethodHandle" ∧ yX13_base.cls ≠ "java/lang/invoke/VarHandle" ∧ (parseMethodDescriptor yX13_base.desc).map (fun d => d.parameters.length) = some 2 := ⟨rfl, kSX13_base⟩
theorem dX13_isSecond_0 : decode cX13_isSecond 0 = .ok (.aload_n 0, 1) := D_42 (by decide +kernel)
theorem dX13_isSecond_1 : decode cX13_isSecond 1 = .ok (.getfield 37, 3) := D_180 (by decide +kernel)
theorem dX13_isSecond_4 : decode cX13_isSecond 4 = .ok (.iload_n 1, 1) := D_27 (by decide +kernel)
theorem dX13_isSecond_5 : decode cX13_isSecond 5 = .ok (.iaload, 1) := D_46 (by decide +kernel)
theorem dX13_isSecond_6 : decode cX13_isSecond 6 = .ok (.iconst 2, 1) := D_5 (by decide +kernel)
theorem dX13_isSecond_7 : decode cX13_isSecond 7 = .ok (.if_icmp .ne 19, 3) := D_160 (by decide +kernel)
theorem dX13_isSecond_10 : decode cX13_isSecond 10 = .ok (.iload_n 2, 1) := D_28 (by decide +kernel)
theorem dX13_isSecond_11 : decode cX13_isSecond 11 = .ok (.aload_n 0, 1) := D_42 (by decide +kernel)
theorem dX13_isSecond_12 : decode cX13_isSecond 12 = .ok (.getfield 40, 3) := D_180 (by decide +kernel)
theorem dX13_isSecond_15 : decode cX13_isSecond 15 = .ok (.iload_n 1, 1) := D_27 (by decide +kernel)
theorem dX13_isSecond_16 : decode cX13_isSecond 16 = .ok (.iaload, 1) := D_46 (by decide +kernel)
theorem dX13_isSecond_17 : decode cX13_isSecond 17 = .ok (.iconst 1, 1) := D_4 (by decide +kernel)
theorem dX13_isSecond_18 : decode cX13_isSecond 18 = .ok (.isub, 1) := D_100 (by decide +kernel)
theorem dX13_isSecond_19 : decode cX13_isSecond 19 = .ok (.if_icmp .lt 7, 3) := D_161 (by decide +kernel)
theorem dX13_isSecond_22 : decode cX13_isSecond 22 = .ok (.iconst 1, 1) := D_4 (by decide +kernel)
theorem dX13_isSecond_23 : decode cX13_isSecond 23 = .ok (.goto 4, 3) := D_167 (by decide +kernel)
theorem dX13_isSecond_26 : decode cX13_isSecond 26 = .ok (.iconst 0, 1) := D_3 (by decide +kernel)
theorem dX13_isSecond_27 : decode cX13_isSecond 27 = .ok (.ireturn, 1) := D_172 (by decide +kernel)
theorem kSX13_isSecond : yX13_isSecond.cls ≠ "java/lang/invoke/MethodHandle" ∧ yX13_isSecond.cls ≠ "java/lang/invoke/VarHandle" ∧ (parseMethodDescriptor yX13_isSecond.desc).map (fun d => d.parameters.length) = some 2 := by decide +kernel
theorem kVX13_isSecond : yX13_isSecond.cls = RX13 ∧ yX13_isSecond.cls ≠ "java/lang/invoke/MethodHandle" ∧ yX13_isSecond.cls ≠ "java/lang/invoke/VarHandle" ∧ (parseMethodDescriptor yX13_isSecond.desc).map (fun d => d.parameters.length) = some 2 := ⟨rfl, kSX13_isSecond⟩
theorem dX13_finalOf_0 : decode cX13_finalOf 0 = .ok (.aload_n 0, 1) := D_42 (by decide +kernel)
theorem dX13_finalOf_1 : decode cX13_finalOf 1 = .ok (.getfield 40, 3) := D_180 (by decide +kernel)
theorem dX13_finalOf_4 : decode cX13_finalOf 4 = .ok (.iload_n 1, 1) := D_27 (by decide +kernel)
theorem dX13_finalOf_5 : decode cX13_finalOf 5 = .ok (.iaload, 1) := D_46 (by decide +kernel)
theorem dX13_finalOf_6 : decode cX13_finalOf 6 = .ok (.iconst 2, 1) := D_5 (by decide +kernel)
theorem dX13_finalOf_7 : decode cX13_finalOf 7 = .ok (.isub, 1) := D_100 (by decide +kernel)
theorem dX13_finalOf_8 : decode cX13_finalOf 8 = .ok (.ireturn, 1) := D_172 (by decide +kernel)
theorem kSX13_finalOf : yX13_finalOf.cls ≠ "java/lang/invoke/MethodHandle" ∧ yX13_finalOf.cls ≠ "java/lang/invoke/VarHandle" ∧ (parseMethodDescriptor yX13_finalOf.desc).map (fun d => d.parameters.length) = some 1 := by decide +kernel
theorem kVX13_finalOf : yX13_finalOf.cls = RX13 ∧ yX13_finalOf.cls ≠ "java/lang/invoke/MethodHandle" ∧ yX13_finalOf.cls ≠ "java/lang/invoke/VarHandle" ∧ (parseMethodDescriptor yX13_finalOf.desc).map (fun d => d.parameters.length) = some 1 := ⟨rfl, kSX13_finalOf⟩
theorem dX13_roundOf_0 : decode cX13_roundOf 0 = .ok (.iconst 0, 1) := D_3 (by decide +kernel)
theorem dX13_roundOf_1 : decode cX13_roundOf 1 = .ok (.istore_n 3, 1) := D_62 (by decide +kernel)
theorem dX13_roundOf_2 : decode cX13_roundOf 2 = .ok (.iload_n 2, 1) := D_28 (by decide +kernel)
theorem dX13_roundOf_3 : decode cX13_roundOf 3 = .ok (.aload_n 0, 1) := D_42 (by decide +kernel)
theorem dX13_roundOf_4 : decode cX13_roundOf 4 = .ok (.iload_n 1, 1) := D_27 (by decide +kernel)
theorem dX13_roundOf_5 : decode cX13_roundOf 5 = .ok (.iload_n 3, 1) := D_29 (by decide +kernel)
theorem dX13_roundOf_6 : decode cX13_roundOf 6 = .ok (.iconst 1, 1) := D_4 (by decide +kernel)
theorem dX13_roundOf_7 : decode cX13_roundOf 7 = .ok (.iadd, 1) := D_96 (by decide +kernel)
theorem dX13_roundOf_8 : decode cX13_roundOf 8 = .ok (.invokevirtual 221, 3) := D_182 (by decide +kernel)
theorem dX13_roundOf_11 : decode cX13_roundOf 11 = .ok (.if_icmp .lt 9, 3) := D_161 (by decide +kernel)
theorem dX13_roundOf_14 : decode cX13_roundOf 14 = .ok (.iinc 3 1, 3) := by decide +kernel
theorem dX13_roundOf_17 : decode cX13_roundOf 17 = .ok (.goto (-15), 3) := D_167 (by decide +kernel)
theorem dX13_roundOf_20 : decode cX13_roundOf 20 = .ok (.iload_n 3, 1) := D_29 (by decide +kernel)
theorem dX13_roundOf_21 : decode cX13_roundOf 21 = .ok (.ireturn, 1) := D_172 (by decide +kernel)
theorem kSX13_roundOf : yX13_roundOf.cls ≠ "java/lang/invoke/MethodHandle" ∧ yX13_roundOf.cls ≠ "java/lang/invoke/VarHandle" ∧ (parseMethodDescriptor yX13_roundOf.desc).map (fun d => d.parameters.length) = some 2 := by decide +kernel
theorem kVX13_roundOf : yX13_roundOf.cls = RX13 ∧ yX13_roundOf.cls ≠ "java/lang/invoke/MethodHandle" ∧ yX13_roundOf.cls ≠ "java/lang/invoke/VarHandle" ∧ (parseMethodDescriptor yX13_roundOf.desc).map (fun d => d.parameters.length) = some 2 := ⟨rfl, kSX13_roundOf⟩
theorem dX13_halfOf_0 : decode cX13_halfOf 0 = .ok (.iload_n 2, 1) := D_28 (by decide +kernel)
theorem dX13_halfOf_1 : decode cX13_halfOf 1 = .ok (.aload_n 0, 1) := D_42 (by decide +kernel)
theorem dX13_halfOf_2 : decode cX13_halfOf 2 = .ok (.getfield 40, 3) := D_180 (by decide +kernel)
theorem dX13_halfOf_5 : decode cX13_halfOf 5 = .ok (.iload_n 1, 1) := D_27 (by decide +kernel)
theorem dX13_halfOf_6 : decode cX13_halfOf 6 = .ok (.iaload, 1) := D_46 (by decide +kernel)
theorem dX13_halfOf_7 : decode cX13_halfOf 7 = .ok (.isub, 1) := D_100 (by decide +kernel)
theorem dX13_halfOf_8 : decode cX13_halfOf 8 = .ok (.iconst 1, 1) := D_4 (by decide +kernel)
theorem dX13_halfOf_9 : decode cX13_halfOf 9 = .ok (.iadd, 1) := D_96 (by decide +kernel)
theorem dX13_halfOf_10 : decode cX13_halfOf 10 = .ok (.aload_n 0, 1) := D_42 (by decide +kernel)
theorem dX13_halfOf_11 : decode cX13_halfOf 11 = .ok (.iload_n 1, 1) := D_27 (by decide +kernel)
theorem dX13_halfOf_12 : decode cX13_halfOf 12 = .ok (.invokevirtual 211, 3) := D_182 (by decide +kernel)
theorem dX13_halfOf_15 : decode cX13_halfOf 15 = .ok (.iconst 1, 1) := D_4 (by decide +kernel)
theorem dX13_halfOf_16 : decode cX13_halfOf 16 = .ok (.isub, 1) := D_100 (by decide +kernel)
theorem dX13_halfOf_17 : decode cX13_halfOf 17 = .ok (.idiv, 1) := D_108 (by decide +kernel)
theorem dX13_halfOf_18 : decode cX13_halfOf 18 = .ok (.ireturn, 1) := D_172 (by decide +kernel)
theorem kSX13_halfOf : yX13_halfOf.cls ≠ "java/lang/invoke/MethodHandle" ∧ yX13_halfOf.cls ≠ "java/lang/invoke/VarHandle" ∧ (parseMethodDescriptor yX13_halfOf.desc).map (fun d => d.parameters.length) = some 2 := by decide +kernel
theorem kVX13_halfOf : yX13_halfOf.cls = RX13 ∧ yX13_halfOf.cls ≠ "java/lang/invoke/MethodHandle" ∧ yX13_halfOf.cls ≠ "java/lang/invoke/VarHandle" ∧ (parseMethodDescriptor yX13_halfOf.desc).map (fun d => d.parameters.length) = some 2 := ⟨rfl, kSX13_halfOf⟩
theorem dX13_stepOf_0 : decode cX13_stepOf 0 = .ok (.iload_n 2, 1) := D_28 (by decide +kernel)
theorem dX13_stepOf_1 : decode cX13_stepOf 1 = .ok (.aload_n 0, 1) := D_42 (by decide +kernel)
theorem dX13_stepOf_2 : decode cX13_stepOf 2 = .ok (.getfield 40, 3) := D_180 (by decide +kernel)
theorem dX13_stepOf_5 : decode cX13_stepOf 5 = .ok (.iload_n 1, 1) := D_27 (by decide +kernel)
theorem dX13_stepOf_6 : decode cX13_stepOf 6 = .ok (.iaload, 1) := D_46 (by decide +kernel)
theorem dX13_stepOf_7 : decode cX13_stepOf 7 = .ok (.isub, 1) := D_100 (by decide +kernel)
theorem dX13_stepOf_8 : decode cX13_stepOf 8 = .ok (.iconst 1, 1) := D_4 (by decide +kernel)
theorem dX13_stepOf_9 : decode cX13_stepOf 9 = .ok (.iadd, 1) := D_96 (by decide +kernel)
theorem dX13_stepOf_10 : decode cX13_stepOf 10 = .ok (.aload_n 0, 1) := D_42 (by decide +kernel)
theorem dX13_stepOf_11 : decode cX13_stepOf 11 = .ok (.iload_n 1, 1) := D_27 (by decide +kernel)
theorem dX13_stepOf_12 : decode cX13_stepOf 12 = .ok (.invokevirtual 211, 3) := D_182 (by decide +kernel)
theorem dX13_stepOf_15 : decode cX13_stepOf 15 = .ok (.iconst 1, 1) := D_4 (by decide +kernel)
theorem dX13_stepOf_16 : decode cX13_stepOf 16 = .ok (.isub, 1) := D_100 (by decide +kernel)
theorem dX13_stepOf_17 : decode cX13_stepOf 17 = .ok (.irem, 1) := D_112 (by decide +kernel)
theorem dX13_stepOf_18 : decode cX13_stepOf 18 = .ok (.iconst 1, 1) := D_4 (by decide +kernel)
theorem dX13_stepOf_19 : decode cX13_stepOf 19 = .ok (.iadd, 1) := D_96 (by decide +kernel)
theorem dX13_stepOf_20 : decode cX13_stepOf 20 = .ok (.ireturn, 1) := D_172 (by decide +kernel)
theorem kSX13_stepOf : yX13_stepOf.cls ≠ "java/lang/invoke/MethodHandle" ∧ yX13_stepOf.cls ≠ "java/lang/invoke/VarHandle" ∧ (parseMethodDescriptor yX13_stepOf.desc).map (fun d => d.parameters.length) = some 2 := by decide +kernel
theorem kVX13_stepOf : yX13_stepOf.cls = RX13 ∧ yX13_stepOf.cls ≠ "java/lang/invoke/MethodHandle" ∧ yX13_stepOf.cls ≠ "java/lang/invoke/VarHandle" ∧ (parseMethodDescriptor yX13_stepOf.desc).map (fun d => d.parameters.length) = some 2 := ⟨rfl, kSX13_stepOf⟩
theorem dX13_sideOf_0 : decode cX13_sideOf 0 = .ok (.aload_n 0, 1) := D_42 (by decide +kernel)
theorem dX13_sideOf_1 : decode cX13_sideOf 1 = .ok (.getfield 37, 3) := D_180 (by decide +kernel)
theorem dX13_sideOf_4 : decode cX13_sideOf 4 = .ok (.iload_n 1, 1) := D_27 (by decide +kernel)
theorem dX13_sideOf_5 : decode cX13_sideOf 5 = .ok (.iaload, 1) := D_46 (by decide +kernel)
theorem dX13_sideOf_6 : decode cX13_sideOf 6 = .ok (.iconst 1, 1) := D_4 (by decide +kernel)
theorem dX13_sideOf_7 : decode cX13_sideOf 7 = .ok (.if_icmp .ne 21, 3) := D_160 (by decide +kernel)
theorem dX13_sideOf_10 : decode cX13_sideOf 10 = .ok (.aload_n 0, 1) := D_42 (by decide +kernel)
theorem dX13_sideOf_11 : decode cX13_sideOf 11 = .ok (.getfield 43, 3) := D_180 (by decide +kernel)
theorem dX13_sideOf_14 : decode cX13_sideOf 14 = .ok (.bipush 32, 2) := D_16 (by decide +kernel)
theorem dX13_sideOf_16 : decode cX13_sideOf 16 = .ok (.iload_n 1, 1) := D_27 (by decide +kernel)
theorem dX13_sideOf_17 : decode cX13_sideOf 17 = .ok (.imul, 1) := D_104 (by decide +kernel)
theorem dX13_sideOf_18 : decode cX13_sideOf 18 = .ok (.aload_n 0, 1) := D_42 (by decide +kernel)
theorem dX13_sideOf_19 : decode cX13_sideOf 19 = .ok (.iload_n 1, 1) := D_27 (by decide +kernel)
theorem dX13_sideOf_20 : decode cX13_sideOf 20 = .ok (.iload_n 2, 1) := D_28 (by decide +kernel)
theorem dX13_sideOf_21 : decode cX13_sideOf 21 = .ok (.iload_n 3, 1) := D_29 (by decide +kernel)
theorem dX13_sideOf_22 : decode cX13_sideOf 22 = .ok (.invokevirtual 225, 3) := D_182 (by decide +kernel)
theorem dX13_sideOf_25 : decode cX13_sideOf 25 = .ok (.iadd, 1) := D_96 (by decide +kernel)
theorem dX13_sideOf_26 : decode cX13_sideOf 26 = .ok (.iaload, 1) := D_46 (by decide +kernel)
theorem dX13_sideOf_27 : decode cX13_sideOf 27 = .ok (.ireturn, 1) := D_172 (by decide +kernel)
theorem dX13_sideOf_28 : decode cX13_sideOf 28 = .ok (.aload_n 0, 1) := D_42 (by decide +kernel)
theorem dX13_sideOf_29 : decode cX13_sideOf 29 = .ok (.iload_n 1, 1) := D_27 (by decide +kernel)
theorem dX13_sideOf_30 : decode cX13_sideOf 30 = .ok (.iload_n 2, 1) := D_28 (by decide +kernel)
theorem dX13_sideOf_31 : decode cX13_sideOf 31 = .ok (.invokevirtual 229, 3) := D_182 (by decide +kernel)
theorem dX13_sideOf_34 : decode cX13_sideOf 34 = .ok (.ifCond .eq 22, 3) := D_153 (by decide +kernel)
theorem dX13_sideOf_37 : decode cX13_sideOf 37 = .ok (.aload_n 0, 1) := D_42 (by decide +kernel)
theorem dX13_sideOf_38 : decode cX13_sideOf 38 = .ok (.iload_n 1, 1) := D_27 (by decide +kernel)
theorem dX13_sideOf_39 : decode cX13_sideOf 39 = .ok (.aload_n 0, 1) := D_42 (by decide +kernel)
theorem dX13_sideOf_40 : decode cX13_sideOf 40 = .ok (.iload_n 1, 1) := D_27 (by decide +kernel)
theorem dX13_sideOf_41 : decode cX13_sideOf 41 = .ok (.iload_n 2, 1) := D_28 (by decide +kernel)
theorem dX13_sideOf_42 : decode cX13_sideOf 42 = .ok (.invokevirtual 233, 3) := D_182 (by decide +kernel)
theorem dX13_sideOf_45 : decode cX13_sideOf 45 = .ok (.aload_n 0, 1) := D_42 (by decide +kernel)
theorem dX13_sideOf_46 : decode cX13_sideOf 46 = .ok (.iload_n 1, 1) := D_27 (by decide +kernel)
theorem dX13_sideOf_47 : decode cX13_sideOf 47 = .ok (.iload_n 2, 1) := D_28 (by decide +kernel)
theorem dX13_sideOf_48 : decode cX13_sideOf 48 = .ok (.invokevirtual 236, 3) := D_182 (by decide +kernel)
theorem dX13_sideOf_51 : decode cX13_sideOf 51 = .ok (.iload_n 3, 1) := D_29 (by decide +kernel)
theorem dX13_sideOf_52 : decode cX13_sideOf 52 = .ok (.invokevirtual 239, 3) := D_182 (by decide +kernel)
theorem dX13_sideOf_55 : decode cX13_sideOf 55 = .ok (.ireturn, 1) := D_172 (by decide +kernel)
theorem dX13_sideOf_56 : decode cX13_sideOf 56 = .ok (.aload_n 0, 1) := D_42 (by decide +kernel)
theorem dX13_sideOf_57 : decode cX13_sideOf 57 = .ok (.iload_n 1, 1) := D_27 (by decide +kernel)
theorem dX13_sideOf_58 : decode cX13_sideOf 58 = .ok (.iload_n 2, 1) := D_28 (by decide +kernel)
theorem dX13_sideOf_59 : decode cX13_sideOf 59 = .ok (.invokevirtual 243, 3) := D_182 (by decide +kernel)
theorem dX13_sideOf_62 : decode cX13_sideOf 62 = .ok (.istore 4, 2) := D_54 (by decide +kernel)
theorem dX13_sideOf_64 : decode cX13_sideOf 64 = .ok (.iload_n 2, 1) := D_28 (by decide +kernel)
theorem dX13_sideOf_65 : decode cX13_sideOf 65 = .ok (.aload_n 0, 1) := D_42 (by decide +kernel)
theorem dX13_sideOf_66 : decode cX13_sideOf 66 = .ok (.iload_n 1, 1) := D_27 (by decide +kernel)
theorem dX13_sideOf_67 : decode cX13_sideOf 67 = .ok (.iload 4, 2) := D_21 (by decide +kernel)
theorem dX13_sideOf_69 : decode cX13_sideOf 69 = .ok (.invokevirtual 221, 3) := D_182 (by decide +kernel)
theorem dX13_sideOf_72 : decode cX13_sideOf 72 = .ok (.isub, 1) := D_100 (by decide +kernel)
theorem dX13_sideOf_73 : decode cX13_sideOf 73 = .ok (.istore 5, 2) := D_54 (by decide +kernel)
theorem dX13_sideOf_75 : decode cX13_sideOf 75 = .ok (.iload 4, 2) := D_21 (by decide +kernel)
theorem dX13_sideOf_77 : decode cX13_sideOf 77 = .ok (.ifCond .ne 35, 3) := D_154 (by decide +kernel)
theorem dX13_sideOf_80 : decode cX13_sideOf 80 = .ok (.aload_n 0, 1) := D_42 (by decide +kernel)
theorem dX13_sideOf_81 : decode cX13_sideOf 81 = .ok (.getfield 43, 3) := D_180 (by decide +kernel)
theorem dX13_sideOf_84 : decode cX13_sideOf 84 = .ok (.bipush 32, 2) := D_16 (by decide +kernel)
theorem dX13_sideOf_86 : decode cX13_sideOf 86 = .ok (.iload_n 1, 1) := D_27 (by decide +kernel)
theorem dX13_sideOf_87 : decode cX13_sideOf 87 = .ok (.imul, 1) := D_104 (by decide +kernel)
theorem dX13_sideOf_88 : decode cX13_sideOf 88 = .ok (.iconst 2, 1) := D_5 (by decide +kernel)
theorem dX13_sideOf_89 : decode cX13_sideOf 89 = .ok (.iload 5, 2) := D_21 (by decide +kernel)
theorem dX13_sideOf_91 : decode cX13_sideOf 91 = .ok (.imul, 1) := D_104 (by decide +kernel)
theorem dX13_sideOf_92 : decode cX13_sideOf 92 = .ok (.iadd, 1) := D_96 (by decide +kernel)
theorem dX13_sideOf_93 : decode cX13_sideOf 93 = .ok (.iload_n 3, 1) := D_29 (by decide +kernel)
theorem dX13_sideOf_94 : decode cX13_sideOf 94 = .ok (.iadd, 1) := D_96 (by decide +kernel)
theorem dX13_sideOf_95 : decode cX13_sideOf 95 = .ok (.iaload, 1) := D_46 (by decide +kernel)
theorem dX13_sideOf_96 : decode cX13_sideOf 96 = .ok (.istore 6, 2) := D_54 (by decide +kernel)
theorem dX13_sideOf_98 : decode cX13_sideOf 98 = .ok (.iload 6, 2) := D_21 (by decide +kernel)
theorem dX13_sideOf_100 : decode cX13_sideOf 100 = .ok (.iconst (-1), 1) := D_2 (by decide +kernel)
theorem dX13_sideOf_101 : decode cX13_sideOf 101 = .ok (.if_icmp .ne 8, 3) := D_160 (by decide +kernel)
theorem dX13_sideOf_104 : decode cX13_sideOf 104 = .ok (.bipush (-2), 2) := D_16 (by decide +kernel)
theorem dX13_sideOf_106 : decode cX13_sideOf 106 = .ok (.goto 5, 3) := D_167 (by decide +kernel)
theorem dX13_sideOf_109 : decode cX13_sideOf 109 = .ok (.iload 6, 2) := D_21 (by decide +kernel)
theorem dX13_sideOf_111 : decode cX13_sideOf 111 = .ok (.ireturn, 1) := D_172 (by decide +kernel)
theorem dX13_sideOf_112 : decode cX13_sideOf 112 = .ok (.aload_n 0, 1) := D_42 (by decide +kernel)
theorem dX13_sideOf_113 : decode cX13_sideOf 113 = .ok (.iload_n 1, 1) := D_27 (by decide +kernel)
theorem dX13_sideOf_114 : decode cX13_sideOf 114 = .ok (.aload_n 0, 1) := D_42 (by decide +kernel)
theorem dX13_sideOf_115 : decode cX13_sideOf 115 = .ok (.iload_n 1, 1) := D_27 (by decide +kernel)
theorem dX13_sideOf_116 : decode cX13_sideOf 116 = .ok (.iload 4, 2) := D_21 (by decide +kernel)
theorem dX13_sideOf_118 : decode cX13_sideOf 118 = .ok (.iconst 1, 1) := D_4 (by decide +kernel)
theorem dX13_sideOf_119 : decode cX13_sideOf 119 = .ok (.isub, 1) := D_100 (by decide +kernel)
theorem dX13_sideOf_120 : decode cX13_sideOf 120 = .ok (.invokevirtual 221, 3) := D_182 (by decide +kernel)
theorem dX13_sideOf_123 : decode cX13_sideOf 123 = .ok (.iconst 2, 1) := D_5 (by decide +kernel)
theorem dX13_sideOf_124 : decode cX13_sideOf 124 = .ok (.iload 5, 2) := D_21 (by decide +kernel)
theorem dX13_sideOf_126 : decode cX13_sideOf 126 = .ok (.imul, 1) := D_104 (by decide +kernel)
theorem dX13_sideOf_127 : decode cX13_sideOf 127 = .ok (.iadd, 1) := D_96 (by decide +kernel)
theorem dX13_sideOf_128 : decode cX13_sideOf 128 = .ok (.iload_n 3, 1) := D_29 (by decide +kernel)
theorem dX13_sideOf_129 : decode cX13_sideOf 129 = .ok (.iadd, 1) := D_96 (by decide +kernel)
theorem dX13_sideOf_130 : decode cX13_sideOf 130 = .ok (.invokevirtual 246, 3) := D_182 (by decide +kernel)
theorem dX13_sideOf_133 : decode cX13_sideOf 133 = .ok (.ireturn, 1) := D_172 (by decide +kernel)
theorem kSX13_sideOf : yX13_sideOf.cls ≠ "java/lang/invoke/MethodHandle" ∧ yX13_sideOf.cls ≠ "java/lang/invoke/VarHandle" ∧ (parseMethodDescriptor yX13_sideOf.desc).map (fun d => d.parameters.length) = some 3 := by decide +kernel
theorem kVX13_sideOf : yX13_sideOf.cls = RX13 ∧ yX13_sideOf.cls ≠ "java/lang/invoke/MethodHandle" ∧ yX13_sideOf.cls ≠ "java/lang/invoke/VarHandle" ∧ (parseMethodDescriptor yX13_sideOf.desc).map (fun d => d.parameters.length) = some 3 := ⟨rfl, kSX13_sideOf⟩
theorem dX13_pair_0 : decode cX13_pair 0 = .ok (.iload_n 2, 1) := D_28 (by decide +kernel)
theorem dX13_pair_1 : decode cX13_pair 1 = .ok (.istore 4, 2) := D_54 (by decide +kernel)
theorem dX13_pair_3 : decode cX13_pair 3 = .ok (.iconst 1, 1) := D_4 (by decide +kernel)
theorem dX13_pair_4 : decode cX13_pair 4 = .ok (.istore 5, 2) := D_54 (by decide +kernel)
theorem dX13_pair_6 : decode cX13_pair 6 = .ok (.iload 4, 2) := D_21 (by decide +kernel)
theorem dX13_pair_8 : decode cX13_pair 8 = .ok (.aload_n 0, 1) := D_42 (by decide +kernel)
theorem dX13_pair_9 : decode cX13_pair 9 = .ok (.getfield 40, 3) := D_180 (by decide +kernel)
theorem dX13_pair_12 : decode cX13_pair 12 = .ok (.iload_n 1, 1) := D_27 (by decide +kernel)
theorem dX13_pair_13 : decode cX13_pair 13 = .ok (.iaload, 1) := D_46 (by decide +kernel)
theorem dX13_pair_14 : decode cX13_pair 14 = .ok (.iload 5, 2) := D_21 (by decide +kernel)
theorem dX13_pair_16 : decode cX13_pair 16 = .ok (.isub, 1) := D_100 (by decide +kernel)
theorem dX13_pair_17 : decode cX13_pair 17 = .ok (.if_icmp .lt 23, 3) := D_161 (by decide +kernel)
theorem dX13_pair_20 : decode cX13_pair 20 = .ok (.iload 4, 2) := D_21 (by decide +kernel)
theorem dX13_pair_22 : decode cX13_pair 22 = .ok (.aload_n 0, 1) := D_42 (by decide +kernel)
theorem dX13_pair_23 : decode cX13_pair 23 = .ok (.getfield 40, 3) := D_180 (by decide +kernel)
theorem dX13_pair_26 : decode cX13_pair 26 = .ok (.iload_n 1, 1) := D_27 (by decide +kernel)
theorem dX13_pair_27 : decode cX13_pair 27 = .ok (.iaload, 1) := D_46 (by decide +kernel)
theorem dX13_pair_28 : decode cX13_pair 28 = .ok (.iload 5, 2) := D_21 (by decide +kernel)
theorem dX13_pair_30 : decode cX13_pair 30 = .ok (.isub, 1) := D_100 (by decide +kernel)
theorem dX13_pair_31 : decode cX13_pair 31 = .ok (.isub, 1) := D_100 (by decide +kernel)
theorem dX13_pair_32 : decode cX13_pair 32 = .ok (.istore 4, 2) := D_54 (by decide +kernel)
theorem dX13_pair_34 : decode cX13_pair 34 = .ok (.iinc 5 1, 3) := by decide +kernel
theorem dX13_pair_37 : decode cX13_pair 37 = .ok (.goto (-31), 3) := D_167 (by decide +kernel)
theorem dX13_pair_40 : decode cX13_pair 40 = .ok (.iload_n 3, 1) := D_29 (by decide +kernel)
theorem dX13_pair_41 : decode cX13_pair 41 = .ok (.ifCond .ne 8, 3) := D_154 (by decide +kernel)
theorem dX13_pair_44 : decode cX13_pair 44 = .ok (.iload 4, 2) := D_21 (by decide +kernel)
theorem dX13_pair_46 : decode cX13_pair 46 = .ok (.goto 8, 3) := D_167 (by decide +kernel)
theorem dX13_pair_49 : decode cX13_pair 49 = .ok (.iload 4, 2) := D_21 (by decide +kernel)
theorem dX13_pair_51 : decode cX13_pair 51 = .ok (.iload 5, 2) := D_21 (by decide +kernel)
theorem dX13_pair_53 : decode cX13_pair 53 = .ok (.iadd, 1) := D_96 (by decide +kernel)
theorem dX13_pair_54 : decode cX13_pair 54 = .ok (.ireturn, 1) := D_172 (by decide +kernel)
theorem kSX13_pair : yX13_pair.cls ≠ "java/lang/invoke/MethodHandle" ∧ yX13_pair.cls ≠ "java/lang/invoke/VarHandle" ∧ (parseMethodDescriptor yX13_pair.desc).map (fun d => d.parameters.length) = some 3 := by decide +kernel
theorem kVX13_pair : yX13_pair.cls = RX13 ∧ yX13_pair.cls ≠ "java/lang/invoke/MethodHandle" ∧ yX13_pair.cls ≠ "java/lang/invoke/VarHandle" ∧ (parseMethodDescriptor yX13_pair.desc).map (fun d => d.parameters.length) = some 3 := ⟨rfl, kSX13_pair⟩
theorem dX13_second_0 : decode cX13_second 0 = .ok (.iload 4, 2) := D_21 (by decide +kernel)
theorem dX13_second_2 : decode cX13_second 2 = .ok (.iconst 1, 1) := D_4 (by decide +kernel)
theorem dX13_second_3 : decode cX13_second 3 = .ok (.if_icmp .ne 11, 3) := D_160 (by decide +kernel)
theorem dX13_second_6 : decode cX13_second 6 = .ok (.aload_n 0, 1) := D_42 (by decide +kernel)
theorem dX13_second_7 : decode cX13_second 7 = .ok (.iload_n 1, 1) := D_27 (by decide +kernel)
theorem dX13_second_8 : decode cX13_second 8 = .ok (.iload_n 2, 1) := D_28 (by decide +kernel)
theorem dX13_second_9 : decode cX13_second 9 = .ok (.iload_n 3, 1) := D_29 (by decide +kernel)
theorem dX13_second_10 : decode cX13_second 10 = .ok (.invokevirtual 249, 3) := D_182 (by decide +kernel)
theorem dX13_second_13 : decode cX13_second 13 = .ok (.ireturn, 1) := D_172 (by decide +kernel)
theorem dX13_second_14 : decode cX13_second 14 = .ok (.iload_n 3, 1) := D_29 (by decide +kernel)
theorem dX13_second_15 : decode cX13_second 15 = .ok (.iconst 1, 1) := D_4 (by decide +kernel)
theorem dX13_second_16 : decode cX13_second 16 = .ok (.if_icmp .le 31, 3) := D_164 (by decide +kernel)
theorem dX13_second_19 : decode cX13_second 19 = .ok (.aload_n 0, 1) := D_42 (by decide +kernel)
theorem dX13_second_20 : decode cX13_second 20 = .ok (.iload_n 1, 1) := D_27 (by decide +kernel)
theorem dX13_second_21 : decode cX13_second 21 = .ok (.aload_n 0, 1) := D_42 (by decide +kernel)
theorem dX13_second_22 : decode cX13_second 22 = .ok (.getfield 40, 3) := D_180 (by decide +kernel)
theorem dX13_second_25 : decode cX13_second 25 = .ok (.iload_n 1, 1) := D_27 (by decide +kernel)
theorem dX13_second_26 : decode cX13_second 26 = .ok (.iaload, 1) := D_46 (by decide +kernel)
theorem dX13_second_27 : decode cX13_second 27 = .ok (.iconst 1, 1) := D_4 (by decide +kernel)
theorem dX13_second_28 : decode cX13_second 28 = .ok (.isub, 1) := D_100 (by decide +kernel)
theorem dX13_second_29 : decode cX13_second 29 = .ok (.iload_n 2, 1) := D_28 (by decide +kernel)
theorem dX13_second_30 : decode cX13_second 30 = .ok (.aload_n 0, 1) := D_42 (by decide +kernel)
theorem dX13_second_31 : decode cX13_second 31 = .ok (.iload_n 1, 1) := D_27 (by decide +kernel)
theorem dX13_second_32 : decode cX13_second 32 = .ok (.invokevirtual 211, 3) := D_182 (by decide +kernel)
theorem dX13_second_35 : decode cX13_second 35 = .ok (.iconst 1, 1) := D_4 (by decide +kernel)
theorem dX13_second_36 : decode cX13_second 36 = .ok (.isub, 1) := D_100 (by decide +kernel)
theorem dX13_second_37 : decode cX13_second 37 = .ok (.imul, 1) := D_104 (by decide +kernel)
theorem dX13_second_38 : decode cX13_second 38 = .ok (.iadd, 1) := D_96 (by decide +kernel)
theorem dX13_second_39 : decode cX13_second 39 = .ok (.iload_n 3, 1) := D_29 (by decide +kernel)
theorem dX13_second_40 : decode cX13_second 40 = .ok (.iadd, 1) := D_96 (by decide +kernel)
theorem dX13_second_41 : decode cX13_second 41 = .ok (.iconst 2, 1) := D_5 (by decide +kernel)
theorem dX13_second_42 : decode cX13_second 42 = .ok (.isub, 1) := D_100 (by decide +kernel)
theorem dX13_second_43 : decode cX13_second 43 = .ok (.invokevirtual 246, 3) := D_182 (by decide +kernel)
theorem dX13_second_46 : decode cX13_second 46 = .ok (.ireturn, 1) := D_172 (by decide +kernel)
theorem dX13_second_47 : decode cX13_second 47 = .ok (.aload_n 0, 1) := D_42 (by decide +kernel)
theorem dX13_second_48 : decode cX13_second 48 = .ok (.iload_n 1, 1) := D_27 (by decide +kernel)
theorem dX13_second_49 : decode cX13_second 49 = .ok (.iload_n 2, 1) := D_28 (by decide +kernel)
theorem dX13_second_50 : decode cX13_second 50 = .ok (.iconst 0, 1) := D_3 (by decide +kernel)
theorem dX13_second_51 : decode cX13_second 51 = .ok (.invokevirtual 249, 3) := D_182 (by decide +kernel)
theorem dX13_second_54 : decode cX13_second 54 = .ok (.ireturn, 1) := D_172 (by decide +kernel)
theorem kSX13_second : yX13_second.cls ≠ "java/lang/invoke/MethodHandle" ∧ yX13_second.cls ≠ "java/lang/invoke/VarHandle" ∧ (parseMethodDescriptor yX13_second.desc).map (fun d => d.parameters.length) = some 4 := by decide +kernel
theorem kVX13_second : yX13_second.cls = RX13 ∧ yX13_second.cls ≠ "java/lang/invoke/MethodHandle" ∧ yX13_second.cls ≠ "java/lang/invoke/VarHandle" ∧ (parseMethodDescriptor yX13_second.desc).map (fun d => d.parameters.length) = some 4 := ⟨rfl, kSX13_second⟩
theorem dX13_loserTo_0 : decode cX13_loserTo 0 = .ok (.aload_n 0, 1) := D_42 (by decide +kernel)
theorem dX13_loserTo_1 : decode cX13_loserTo 1 = .ok (.iload_n 1, 1) := D_27 (by decide +kernel)
theorem dX13_loserTo_2 : decode cX13_loserTo 2 = .ok (.aload_n 0, 1) := D_42 (by decide +kernel)
theorem dX13_loserTo_3 : decode cX13_loserTo 3 = .ok (.iload_n 1, 1) := D_27 (by decide +kernel)
theorem dX13_loserTo_4 : decode cX13_loserTo 4 = .ok (.aload_n 0, 1) := D_42 (by decide +kernel)
theorem dX13_loserTo_5 : decode cX13_loserTo 5 = .ok (.iload_n 1, 1) := D_27 (by decide +kernel)
theorem dX13_loserTo_6 : decode cX13_loserTo 6 = .ok (.invokevirtual 211, 3) := D_182 (by decide +kernel)
theorem dX13_loserTo_9 : decode cX13_loserTo 9 = .ok (.iconst 1, 1) := D_4 (by decide +kernel)
theorem dX13_loserTo_10 : decode cX13_loserTo 10 = .ok (.isub, 1) := D_100 (by decide +kernel)
theorem dX13_loserTo_11 : decode cX13_loserTo 11 = .ok (.invokevirtual 221, 3) := D_182 (by decide +kernel)
theorem dX13_loserTo_14 : decode cX13_loserTo 14 = .ok (.iload_n 2, 1) := D_28 (by decide +kernel)
theorem dX13_loserTo_15 : decode cX13_loserTo 15 = .ok (.iadd, 1) := D_96 (by decide +kernel)
theorem dX13_loserTo_16 : decode cX13_loserTo 16 = .ok (.invokevirtual 246, 3) := D_182 (by decide +kernel)
theorem dX13_loserTo_19 : decode cX13_loserTo 19 = .ok (.istore 4, 2) := D_54 (by decide +kernel)
theorem dX13_loserTo_21 : decode cX13_loserTo 21 = .ok (.iload 4, 2) := D_21 (by decide +kernel)
theorem dX13_loserTo_23 : decode cX13_loserTo 23 = .ok (.iconst (-1), 1) := D_2 (by decide +kernel)
theorem dX13_loserTo_24 : decode cX13_loserTo 24 = .ok (.if_icmp .ne 5, 3) := D_160 (by decide +kernel)
theorem dX13_loserTo_27 : decode cX13_loserTo 27 = .ok (.iconst (-1), 1) := D_2 (by decide +kernel)
theorem dX13_loserTo_28 : decode cX13_loserTo 28 = .ok (.ireturn, 1) := D_172 (by decide +kernel)
theorem dX13_loserTo_29 : decode cX13_loserTo 29 = .ok (.aload_n 0, 1) := D_42 (by decide +kernel)
theorem dX13_loserTo_30 : decode cX13_loserTo 30 = .ok (.iload_n 1, 1) := D_27 (by decide +kernel)
theorem dX13_loserTo_31 : decode cX13_loserTo 31 = .ok (.iload_n 3, 1) := D_29 (by decide +kernel)
theorem dX13_loserTo_32 : decode cX13_loserTo 32 = .ok (.invokevirtual 221, 3) := D_182 (by decide +kernel)
theorem dX13_loserTo_35 : decode cX13_loserTo 35 = .ok (.aload_n 0, 1) := D_42 (by decide +kernel)
theorem dX13_loserTo_36 : decode cX13_loserTo 36 = .ok (.getfield 31, 3) := D_180 (by decide +kernel)
theorem dX13_loserTo_39 : decode cX13_loserTo 39 = .ok (.iload 4, 2) := D_21 (by decide +kernel)
theorem dX13_loserTo_41 : decode cX13_loserTo 41 = .ok (.iaload, 1) := D_46 (by decide +kernel)
theorem dX13_loserTo_42 : decode cX13_loserTo 42 = .ok (.iload_n 3, 1) := D_29 (by decide +kernel)
theorem dX13_loserTo_43 : decode cX13_loserTo 43 = .ok (.iconst 1, 1) := D_4 (by decide +kernel)
theorem dX13_loserTo_44 : decode cX13_loserTo 44 = .ok (.iadd, 1) := D_96 (by decide +kernel)
theorem dX13_loserTo_45 : decode cX13_loserTo 45 = .ok (.ishr, 1) := D_122 (by decide +kernel)
theorem dX13_loserTo_46 : decode cX13_loserTo 46 = .ok (.iadd, 1) := D_96 (by decide +kernel)
theorem dX13_loserTo_47 : decode cX13_loserTo 47 = .ok (.istore 5, 2) := D_54 (by decide +kernel)
theorem dX13_loserTo_49 : decode cX13_loserTo 49 = .ok (.aload_n 0, 1) := D_42 (by decide +kernel)
theorem dX13_loserTo_50 : decode cX13_loserTo 50 = .ok (.iload_n 1, 1) := D_27 (by decide +kernel)
theorem dX13_loserTo_51 : decode cX13_loserTo 51 = .ok (.iload 5, 2) := D_21 (by decide +kernel)
theorem dX13_loserTo_53 : decode cX13_loserTo 53 = .ok (.iconst 0, 1) := D_3 (by decide +kernel)
theorem dX13_loserTo_54 : decode cX13_loserTo 54 = .ok (.invokevirtual 252, 3) := D_182 (by decide +kernel)
theorem dX13_loserTo_57 : decode cX13_loserTo 57 = .ok (.istore 6, 2) := D_54 (by decide +kernel)
theorem dX13_loserTo_59 : decode cX13_loserTo 59 = .ok (.iload 6, 2) := D_21 (by decide +kernel)
theorem dX13_loserTo_61 : decode cX13_loserTo 61 = .ok (.iload 4, 2) := D_21 (by decide +kernel)
theorem dX13_loserTo_63 : decode cX13_loserTo 63 = .ok (.if_icmp .ne 14, 3) := D_160 (by decide +kernel)
theorem dX13_loserTo_66 : decode cX13_loserTo 66 = .ok (.aload_n 0, 1) := D_42 (by decide +kernel)
theorem dX13_loserTo_67 : decode cX13_loserTo 67 = .ok (.iload_n 1, 1) := D_27 (by decide +kernel)
theorem dX13_loserTo_68 : decode cX13_loserTo 68 = .ok (.iload 5, 2) := D_21 (by decide +kernel)
theorem dX13_loserTo_70 : decode cX13_loserTo 70 = .ok (.iconst 1, 1) := D_4 (by decide +kernel)
theorem dX13_loserTo_71 : decode cX13_loserTo 71 = .ok (.invokevirtual 252, 3) := D_182 (by decide +kernel)
theorem dX13_loserTo_74 : decode cX13_loserTo 74 = .ok (.goto 5, 3) := D_167 (by decide +kernel)
theorem dX13_loserTo_77 : decode cX13_loserTo 77 = .ok (.iload 6, 2) := D_21 (by decide +kernel)
theorem dX13_loserTo_79 : decode cX13_loserTo 79 = .ok (.ireturn, 1) := D_172 (by decide +kernel)
theorem kSX13_loserTo : yX13_loserTo.cls ≠ "java/lang/invoke/MethodHandle" ∧ yX13_loserTo.cls ≠ "java/lang/invoke/VarHandle" ∧ (parseMethodDescriptor yX13_loserTo.desc).map (fun d => d.parameters.length) = some 3 := by decide +kernel
theorem kVX13_loserTo : yX13_loserTo.cls = RX13 ∧ yX13_loserTo.cls ≠ "java/lang/invoke/MethodHandle" ∧ yX13_loserTo.cls ≠ "java/lang/invoke/VarHandle" ∧ (parseMethodDescriptor yX13_loserTo.desc).map (fun d => d.parameters.length) = some 3 := ⟨rfl, kSX13_loserTo⟩
theorem dX13_winnerOf_0 : decode cX13_winnerOf 0 = .ok (.aload_n 0, 1) := D_42 (by decide +kernel)
theorem dX13_winnerOf_1 : decode cX13_winnerOf 1 = .ok (.getfield 46, 3) := D_180 (by decide +kernel)
theorem dX13_winnerOf_4 : decode cX13_winnerOf 4 = .ok (.bipush 40, 2) := D_16 (by decide +kernel)
theorem dX13_winnerOf_6 : decode cX13_winnerOf 6 = .ok (.iload_n 1, 1) := D_27 (by decide +kernel)
theorem dX13_winnerOf_7 : decode cX13_winnerOf 7 = .ok (.imul, 1) := D_104 (by decide +kernel)
theorem dX13_winnerOf_8 : decode cX13_winnerOf 8 = .ok (.iload_n 2, 1) := D_28 (by decide +kernel)
theorem dX13_winnerOf_9 : decode cX13_winnerOf 9 = .ok (.iadd, 1) := D_96 (by decide +kernel)
theorem dX13_winnerOf_10 : decode cX13_winnerOf 10 = .ok (.iaload, 1) := D_46 (by decide +kernel)
theorem dX13_winnerOf_11 : decode cX13_winnerOf 11 = .ok (.iconst 2, 1) := D_5 (by decide +kernel)
theorem dX13_winnerOf_12 : decode cX13_winnerOf 12 = .ok (.if_icmp .ne 15, 3) := D_160 (by decide +kernel)
theorem dX13_winnerOf_15 : decode cX13_winnerOf 15 = .ok (.aload_n 0, 1) := D_42 (by decide +kernel)
theorem dX13_winnerOf_16 : decode cX13_winnerOf 16 = .ok (.getfield 55, 3) := D_180 (by decide +kernel)
theorem dX13_winnerOf_19 : decode cX13_winnerOf 19 = .ok (.bipush 40, 2) := D_16 (by decide +kernel)
theorem dX13_winnerOf_21 : decode cX13_winnerOf 21 = .ok (.iload_n 1, 1) := D_27 (by decide +kernel)
theorem dX13_winnerOf_22 : decode cX13_winnerOf 22 = .ok (.imul, 1) := D_104 (by decide +kernel)
theorem dX13_winnerOf_23 : decode cX13_winnerOf 23 = .ok (.iload_n 2, 1) := D_28 (by decide +kernel)
theorem dX13_winnerOf_24 : decode cX13_winnerOf 24 = .ok (.iadd, 1) := D_96 (by decide +kernel)
theorem dX13_winnerOf_25 : decode cX13_winnerOf 25 = .ok (.iaload, 1) := D_46 (by decide +kernel)
theorem dX13_winnerOf_26 : decode cX13_winnerOf 26 = .ok (.ireturn, 1) := D_172 (by decide +kernel)
theorem dX13_winnerOf_27 : decode cX13_winnerOf 27 = .ok (.aload_n 0, 1) := D_42 (by decide +kernel)
theorem dX13_winnerOf_28 : decode cX13_winnerOf 28 = .ok (.iload_n 1, 1) := D_27 (by decide +kernel)
theorem dX13_winnerOf_29 : decode cX13_winnerOf 29 = .ok (.iload_n 2, 1) := D_28 (by decide +kernel)
theorem dX13_winnerOf_30 : decode cX13_winnerOf 30 = .ok (.iconst 0, 1) := D_3 (by decide +kernel)
theorem dX13_winnerOf_31 : decode cX13_winnerOf 31 = .ok (.invokevirtual 252, 3) := D_182 (by decide +kernel)
theorem dX13_winnerOf_34 : decode cX13_winnerOf 34 = .ok (.istore_n 3, 1) := D_62 (by decide +kernel)
theorem dX13_winnerOf_35 : decode cX13_winnerOf 35 = .ok (.aload_n 0, 1) := D_42 (by decide +kernel)
theorem dX13_winnerOf_36 : decode cX13_winnerOf 36 = .ok (.iload_n 1, 1) := D_27 (by decide +kernel)
theorem dX13_winnerOf_37 : decode cX13_winnerOf 37 = .ok (.iload_n 2, 1) := D_28 (by decide +kernel)
theorem dX13_winnerOf_38 : decode cX13_winnerOf 38 = .ok (.iconst 1, 1) := D_4 (by decide +kernel)
theorem dX13_winnerOf_39 : decode cX13_winnerOf 39 = .ok (.invokevirtual 252, 3) := D_182 (by decide +kernel)
theorem dX13_winnerOf_42 : decode cX13_winnerOf 42 = .ok (.istore 4, 2) := D_54 (by decide +kernel)
theorem dX13_winnerOf_44 : decode cX13_winnerOf 44 = .ok (.iload_n 3, 1) := D_29 (by decide +kernel)
theorem dX13_winnerOf_45 : decode cX13_winnerOf 45 = .ok (.bipush (-2), 2) := D_16 (by decide +kernel)
theorem dX13_winnerOf_47 : decode cX13_winnerOf 47 = .ok (.if_icmp .ne 8, 3) := D_160 (by decide +kernel)
theorem dX13_winnerOf_50 : decode cX13_winnerOf 50 = .ok (.iload 4, 2) := D_21 (by decide +kernel)
theorem dX13_winnerOf_52 : decode cX13_winnerOf 52 = .ok (.goto 15, 3) := D_167 (by decide +kernel)
theorem dX13_winnerOf_55 : decode cX13_winnerOf 55 = .ok (.iload 4, 2) := D_21 (by decide +kernel)
theorem dX13_winnerOf_57 : decode cX13_winnerOf 57 = .ok (.bipush (-2), 2) := D_16 (by decide +kernel)
theorem dX13_winnerOf_59 : decode cX13_winnerOf 59 = .ok (.if_icmp .ne 7, 3) := D_160 (by decide +kernel)
theorem dX13_winnerOf_62 : decode cX13_winnerOf 62 = .ok (.iload_n 3, 1) := D_29 (by decide +kernel)
theorem dX13_winnerOf_63 : decode cX13_winnerOf 63 = .ok (.goto 4, 3) := D_167 (by decide +kernel)
theorem dX13_winnerOf_66 : decode cX13_winnerOf 66 = .ok (.iconst (-1), 1) := D_2 (by decide +kernel)
theorem dX13_winnerOf_67 : decode cX13_winnerOf 67 = .ok (.ireturn, 1) := D_172 (by decide +kernel)
theorem kSX13_winnerOf : yX13_winnerOf.cls ≠ "java/lang/invoke/MethodHandle" ∧ yX13_winnerOf.cls ≠ "java/lang/invoke/VarHandle" ∧ (parseMethodDescriptor yX13_winnerOf.desc).map (fun d => d.parameters.length) = some 2 := by decide +kernel
theorem kVX13_winnerOf : yX13_winnerOf.cls = RX13 ∧ yX13_winnerOf.cls ≠ "java/lang/invoke/MethodHandle" ∧ yX13_winnerOf.cls ≠ "java/lang/invoke/VarHandle" ∧ (parseMethodDescriptor yX13_winnerOf.desc).map (fun d => d.parameters.length) = some 2 := ⟨rfl, kSX13_winnerOf⟩
theorem dX13_isWalk_0 : decode cX13_isWalk 0 = .ok (.aload_n 0, 1) := D_42 (by decide +kernel)
theorem dX13_isWalk_1 : decode cX13_isWalk 1 = .ok (.getfield 46, 3) := D_180 (by decide +kernel)
theorem dX13_isWalk_4 : decode cX13_isWalk 4 = .ok (.bipush 40, 2) := D_16 (by decide +kernel)
theorem dX13_isWalk_6 : decode cX13_isWalk 6 = .ok (.iload_n 1, 1) := D_27 (by decide +kernel)
theorem dX13_isWalk_7 : decode cX13_isWalk 7 = .ok (.imul, 1) := D_104 (by decide +kernel)
theorem dX13_isWalk_8 : decode cX13_isWalk 8 = .ok (.iload_n 2, 1) := D_28 (by decide +kernel)
theorem dX13_isWalk_9 : decode cX13_isWalk 9 = .ok (.iadd, 1) := D_96 (by decide +kernel)
theorem dX13_isWalk_10 : decode cX13_isWalk 10 = .ok (.iaload, 1) := D_46 (by decide +kernel)
theorem dX13_isWalk_11 : decode cX13_isWalk 11 = .ok (.ifCond .eq 5, 3) := D_153 (by decide +kernel)
theorem dX13_isWalk_14 : decode cX13_isWalk 14 = .ok (.iconst 0, 1) := D_3 (by decide +kernel)
theorem dX13_isWalk_15 : decode cX13_isWalk 15 = .ok (.ireturn, 1) := D_172 (by decide +kernel)
theorem dX13_isWalk_16 : decode cX13_isWalk 16 = .ok (.aload_n 0, 1) := D_42 (by decide +kernel)
theorem dX13_isWalk_17 : decode cX13_isWalk 17 = .ok (.iload_n 1, 1) := D_27 (by decide +kernel)
theorem dX13_isWalk_18 : decode cX13_isWalk 18 = .ok (.iload_n 2, 1) := D_28 (by decide +kernel)
theorem dX13_isWalk_19 : decode cX13_isWalk 19 = .ok (.iconst 0, 1) := D_3 (by decide +kernel)
theorem dX13_isWalk_20 : decode cX13_isWalk 20 = .ok (.invokevirtual 252, 3) := D_182 (by decide +kernel)
theorem dX13_isWalk_23 : decode cX13_isWalk 23 = .ok (.istore_n 3, 1) := D_62 (by decide +kernel)
theorem dX13_isWalk_24 : decode cX13_isWalk 24 = .ok (.aload_n 0, 1) := D_42 (by decide +kernel)
theorem dX13_isWalk_25 : decode cX13_isWalk 25 = .ok (.iload_n 1, 1) := D_27 (by decide +kernel)
theorem dX13_isWalk_26 : decode cX13_isWalk 26 = .ok (.iload_n 2, 1) := D_28 (by decide +kernel)
theorem dX13_isWalk_27 : decode cX13_isWalk 27 = .ok (.iconst 1, 1) := D_4 (by decide +kernel)
theorem dX13_isWalk_28 : decode cX13_isWalk 28 = .ok (.invokevirtual 252, 3) := D_182 (by decide +kernel)
theorem dX13_isWalk_31 : decode cX13_isWalk 31 = .ok (.istore 4, 2) := D_54 (by decide +kernel)
theorem dX13_isWalk_33 : decode cX13_isWalk 33 = .ok (.iload_n 3, 1) := D_29 (by decide +kernel)
theorem dX13_isWalk_34 : decode cX13_isWalk 34 = .ok (.bipush (-2), 2) := D_16 (by decide +kernel)
theorem dX13_isWalk_36 : decode cX13_isWalk 36 = .ok (.if_icmp .ne 8, 3) := D_160 (by decide +kernel)
theorem dX13_isWalk_39 : decode cX13_isWalk 39 = .ok (.iload 4, 2) := D_21 (by decide +kernel)
theorem dX13_isWalk_41 : decode cX13_isWalk 41 = .ok (.ifCond .ge 14, 3) := D_156 (by decide +kernel)
theorem dX13_isWalk_44 : decode cX13_isWalk 44 = .ok (.iload 4, 2) := D_21 (by decide +kernel)
theorem dX13_isWalk_46 : decode cX13_isWalk 46 = .ok (.bipush (-2), 2) := D_16 (by decide +kernel)
theorem dX13_isWalk_48 : decode cX13_isWalk 48 = .ok (.if_icmp .ne 11, 3) := D_160 (by decide +kernel)
theorem dX13_isWalk_51 : decode cX13_isWalk 51 = .ok (.iload_n 3, 1) := D_29 (by decide +kernel)
theorem dX13_isWalk_52 : decode cX13_isWalk 52 = .ok (.ifCond .lt 7, 3) := D_155 (by decide +kernel)
theorem dX13_isWalk_55 : decode cX13_isWalk 55 = .ok (.iconst 1, 1) := D_4 (by decide +kernel)
theorem dX13_isWalk_56 : decode cX13_isWalk 56 = .ok (.goto 4, 3) := D_167 (by decide +kernel)
theorem dX13_isWalk_59 : decode cX13_isWalk 59 = .ok (.iconst 0, 1) := D_3 (by decide +kernel)
theorem dX13_isWalk_60 : decode cX13_isWalk 60 = .ok (.ireturn, 1) := D_172 (by decide +kernel)
theorem kSX13_isWalk : yX13_isWalk.cls ≠ "java/lang/invoke/MethodHandle" ∧ yX13_isWalk.cls ≠ "java/lang/invoke/VarHandle" ∧ (parseMethodDescriptor yX13_isWalk.desc).map (fun d => d.parameters.length) = some 2 := by decide +kernel
theorem kVX13_isWalk : yX13_isWalk.cls = RX13 ∧ yX13_isWalk.cls ≠ "java/lang/invoke/MethodHandle" ∧ yX13_isWalk.cls ≠ "java/lang/invoke/VarHandle" ∧ (parseMethodDescriptor yX13_isWalk.desc).map (fun d => d.parameters.length) = some 2 := ⟨rfl, kSX13_isWalk⟩
theorem dX13_isReady_0 : decode cX13_isReady 0 = .ok (.aload_n 0, 1) := D_42 (by decide +kernel)
theorem dX13_isReady_1 : decode cX13_isReady 1 = .ok (.getfield 46, 3) := D_180 (by decide +kernel)
theorem dX13_isReady_4 : decode cX13_isReady 4 = .ok (.bipush 40, 2) := D_16 (by decide +kernel)
theorem dX13_isReady_6 : decode cX13_isReady 6 = .ok (.iload_n 1, 1) := D_27 (by decide +kernel)
theorem dX13_isReady_7 : decode cX13_isReady 7 = .ok (.imul, 1) := D_104 (by decide +kernel)
theorem dX13_isReady_8 : decode cX13_isReady 8 = .ok (.iload_n 2, 1) := D_28 (by decide +kernel)
theorem dX13_isReady_9 : decode cX13_isReady 9 = .ok (.iadd, 1) := D_96 (by decide +kernel)
theorem dX13_isReady_10 : decode cX13_isReady 10 = .ok (.iaload, 1) := D_46 (by decide +kernel)
theorem dX13_isReady_11 : decode cX13_isReady 11 = .ok (.ifCond .ne 27, 3) := D_154 (by decide +kernel)
theorem dX13_isReady_14 : decode cX13_isReady 14 = .ok (.aload_n 0, 1) := D_42 (by decide +kernel)
theorem dX13_isReady_15 : decode cX13_isReady 15 = .ok (.iload_n 1, 1) := D_27 (by decide +kernel)
theorem dX13_isReady_16 : decode cX13_isReady 16 = .ok (.iload_n 2, 1) := D_28 (by decide +kernel)
theorem dX13_isReady_17 : decode cX13_isReady 17 = .ok (.iconst 0, 1) := D_3 (by decide +kernel)
theorem dX13_isReady_18 : decode cX13_isReady 18 = .ok (.invokevirtual 252, 3) := D_182 (by decide +kernel)
theorem dX13_isReady_21 : decode cX13_isReady 21 = .ok (.ifCond .lt 17, 3) := D_155 (by decide +kernel)
theorem dX13_isReady_24 : decode cX13_isReady 24 = .ok (.aload_n 0, 1) := D_42 (by decide +kernel)
theorem dX13_isReady_25 : decode cX13_isReady 25 = .ok (.iload_n 1, 1) := D_27 (by decide +kernel)
theorem dX13_isReady_26 : decode cX13_isReady 26 = .ok (.iload_n 2, 1) := D_28 (by decide +kernel)
theorem dX13_isReady_27 : decode cX13_isReady 27 = .ok (.iconst 1, 1) := D_4 (by decide +kernel)
theorem dX13_isReady_28 : decode cX13_isReady 28 = .ok (.invokevirtual 252, 3) := D_182 (by decide +kernel)
theorem dX13_isReady_31 : decode cX13_isReady 31 = .ok (.ifCond .lt 7, 3) := D_155 (by decide +kernel)
theorem dX13_isReady_34 : decode cX13_isReady 34 = .ok (.iconst 1, 1) := D_4 (by decide +kernel)
theorem dX13_isReady_35 : decode cX13_isReady 35 = .ok (.goto 4, 3) := D_167 (by decide +kernel)
theorem dX13_isReady_38 : decode cX13_isReady 38 = .ok (.iconst 0, 1) := D_3 (by decide +kernel)
theorem dX13_isReady_39 : decode cX13_isReady 39 = .ok (.ireturn, 1) := D_172 (by decide +kernel)
theorem kSX13_isReady : yX13_isReady.cls ≠ "java/lang/invoke/MethodHandle" ∧ yX13_isReady.cls ≠ "java/lang/invoke/VarHandle" ∧ (parseMethodDescriptor yX13_isReady.desc).map (fun d => d.parameters.length) = some 2 := by decide +kernel
theorem kVX13_isReady : yX13_isReady.cls = RX13 ∧ yX13_isReady.cls ≠ "java/lang/invoke/MethodHandle" ∧ yX13_isReady.cls ≠ "java/lang/invoke/VarHandle" ∧ (parseMethodDescriptor yX13_isReady.desc).map (fun d => d.parameters.length) = some 2 := ⟨rfl, kSX13_isReady⟩
theorem dX13_holds_0 : decode cX13_holds 0 = .ok (.iconst 0, 1) := D_3 (by decide +kernel)
theorem dX13_holds_1 : decode cX13_holds 1 = .ok (.istore 5, 2) := D_54 (by decide +kernel)
theorem dX13_holds_3 : decode cX13_holds 3 = .ok (.aload_n 0, 1) := D_42 (by decide +kernel)
theorem dX13_holds_4 : decode cX13_holds 4 = .ok (.getfield 90, 3) := D_180 (by decide +kernel)
theorem dX13_holds_7 : decode cX13_holds 7 = .ok (.iload_n 1, 1) := D_27 (by decide +kernel)
theorem dX13_holds_8 : decode cX13_holds 8 = .ok (.iaload, 1) := D_46 (by decide +kernel)
theorem dX13_holds_9 : decode cX13_holds 9 = .ok (.istore 6, 2) := D_54 (by decide +kernel)
theorem dX13_holds_11 : decode cX13_holds 11 = .ok (.iload 6, 2) := D_21 (by decide +kernel)
theorem dX13_holds_13 : decode cX13_holds 13 = .ok (.aload_n 0, 1) := D_42 (by decide +kernel)
theorem dX13_holds_14 : decode cX13_holds 14 = .ok (.getfield 90, 3) := D_180 (by decide +kernel)
theorem dX13_holds_17 : decode cX13_holds 17 = .ok (.iload_n 1, 1) := D_27 (by decide +kernel)
theorem dX13_holds_18 : decode cX13_holds 18 = .ok (.iconst 1, 1) := D_4 (by decide +kernel)
theorem dX13_holds_19 : decode cX13_holds 19 = .ok (.iadd, 1) := D_96 (by decide +kernel)
theorem dX13_holds_20 : decode cX13_holds 20 = .ok (.iaload, 1) := D_46 (by decide +kernel)
theorem dX13_holds_21 : decode cX13_holds 21 = .ok (.if_icmp .ge 122, 3) := D_162 (by decide +kernel)
theorem dX13_holds_24 : decode cX13_holds 24 = .ok (.aload_n 0, 1) := D_42 (by decide +kernel)
theorem dX13_holds_25 : decode cX13_holds 25 = .ok (.getfield 96, 3) := D_180 (by decide +kernel)
theorem dX13_holds_28 : decode cX13_holds 28 = .ok (.iload 6, 2) := D_21 (by decide +kernel)
theorem dX13_holds_30 : decode cX13_holds 30 = .ok (.iaload, 1) := D_46 (by decide +kernel)
theorem dX13_holds_31 : decode cX13_holds 31 = .ok (.iconst 5, 1) := D_8 (by decide +kernel)
theorem dX13_holds_32 : decode cX13_holds 32 = .ok (.if_icmp .gt 26, 3) := D_163 (by decide +kernel)
theorem dX13_holds_35 : decode cX13_holds 35 = .ok (.aload_n 0, 1) := D_42 (by decide +kernel)
theorem dX13_holds_36 : decode cX13_holds 36 = .ok (.getfield 102, 3) := D_180 (by decide +kernel)
theorem dX13_holds_39 : decode cX13_holds 39 = .ok (.iload 5, 2) := D_21 (by decide +kernel)
theorem dX13_holds_41 : decode cX13_holds 41 = .ok (.aload_n 0, 1) := D_42 (by decide +kernel)
theorem dX13_holds_42 : decode cX13_holds 42 = .ok (.iload 6, 2) := D_21 (by decide +kernel)
theorem dX13_holds_44 : decode cX13_holds 44 = .ok (.iload_n 2, 1) := D_28 (by decide +kernel)
theorem dX13_holds_45 : decode cX13_holds 45 = .ok (.iload_n 3, 1) := D_29 (by decide +kernel)
theorem dX13_holds_46 : decode cX13_holds 46 = .ok (.iload 4, 2) := D_21 (by decide +kernel)
theorem dX13_holds_48 : decode cX13_holds 48 = .ok (.invokevirtual 255, 3) := D_182 (by decide +kernel)
theorem dX13_holds_51 : decode cX13_holds 51 = .ok (.iastore, 1) := D_79 (by decide +kernel)
theorem dX13_holds_52 : decode cX13_holds 52 = .ok (.iinc 5 1, 3) := by decide +kernel
theorem dX13_holds_55 : decode cX13_holds 55 = .ok (.goto 82, 3) := D_167 (by decide +kernel)
theorem dX13_holds_58 : decode cX13_holds 58 = .ok (.aload_n 0, 1) := D_42 (by decide +kernel)
theorem dX13_holds_59 : decode cX13_holds 59 = .ok (.getfield 96, 3) := D_180 (by decide +kernel)
theorem dX13_holds_62 : decode cX13_holds 62 = .ok (.iload 6, 2) := D_21 (by decide +kernel)
theorem dX13_holds_64 : decode cX13_holds 64 = .ok (.iaload, 1) := D_46 (by decide +kernel)
theorem dX13_holds_65 : decode cX13_holds 65 = .ok (.bipush 6, 2) := D_16 (by decide +kernel)
theorem dX13_holds_67 : decode cX13_holds 67 = .ok (.if_icmp .ne 32, 3) := D_160 (by decide +kernel)
theorem dX13_holds_70 : decode cX13_holds 70 = .ok (.aload_n 0, 1) := D_42 (by decide +kernel)
theorem dX13_holds_71 : decode cX13_holds 71 = .ok (.getfield 102, 3) := D_180 (by decide +kernel)
theorem dX13_holds_74 : decode cX13_holds 74 = .ok (.iload 5, 2) := D_21 (by decide +kernel)
theorem dX13_holds_76 : decode cX13_holds 76 = .ok (.iconst 1, 1) := D_4 (by decide +kernel)
theorem dX13_holds_77 : decode cX13_holds 77 = .ok (.isub, 1) := D_100 (by decide +kernel)
theorem dX13_holds_78 : decode cX13_holds 78 = .ok (.aload_n 0, 1) := D_42 (by decide +kernel)
theorem dX13_holds_79 : decode cX13_holds 79 = .ok (.getfield 102, 3) := D_180 (by decide +kernel)
theorem dX13_holds_82 : decode cX13_holds 82 = .ok (.iload 5, 2) := D_21 (by decide +kernel)
theorem dX13_holds_84 : decode cX13_holds 84 = .ok (.iconst 1, 1) := D_4 (by decide +kernel)
theorem dX13_holds_85 : decode cX13_holds 85 = .ok (.isub, 1) := D_100 (by decide +kernel)
theorem dX13_holds_86 : decode cX13_holds 86 = .ok (.iaload, 1) := D_46 (by decide +kernel)
theorem dX13_holds_87 : decode cX13_holds 87 = .ok (.ifCond .ne 7, 3) := D_154 (by decide +kernel)
theorem dX13_holds_90 : decode cX13_holds 90 = .ok (.iconst 1, 1) := D_4 (by decide +kernel)
theorem dX13_holds_91 : decode cX13_holds 91 = .ok (.goto 4, 3) := D_167 (by decide +kernel)
theorem dX13_holds_94 : decode cX13_holds 94 = .ok (.iconst 0, 1) := D_3 (by decide +kernel)
theorem dX13_holds_95 : decode cX13_holds 95 = .ok (.iastore, 1) := D_79 (by decide +kernel)
theorem dX13_holds_96 : decode cX13_holds 96 = .ok (.goto 41, 3) := D_167 (by decide +kernel)
theorem dX13_holds_99 : decode cX13_holds 99 = .ok (.iinc 5 (-1), 3) := by decide +kernel
theorem dX13_holds_102 : decode cX13_holds 102 = .ok (.aload_n 0, 1) := D_42 (by decide +kernel)
theorem dX13_holds_103 : decode cX13_holds 103 = .ok (.getfield 102, 3) := D_180 (by decide +kernel)
theorem dX13_holds_106 : decode cX13_holds 106 = .ok (.iload 5, 2) := D_21 (by decide +kernel)
theorem dX13_holds_108 : decode cX13_holds 108 = .ok (.iconst 1, 1) := D_4 (by decide +kernel)
theorem dX13_holds_109 : decode cX13_holds 109 = .ok (.isub, 1) := D_100 (by decide +kernel)
theorem dX13_holds_110 : decode cX13_holds 110 = .ok (.aload_n 0, 1) := D_42 (by decide +kernel)
theorem dX13_holds_111 : decode cX13_holds 111 = .ok (.getfield 96, 3) := D_180 (by decide +kernel)
theorem dX13_holds_114 : decode cX13_holds 114 = .ok (.iload 6, 2) := D_21 (by decide +kernel)
theorem dX13_holds_116 : decode cX13_holds 116 = .ok (.iaload, 1) := D_46 (by decide +kernel)
theorem dX13_holds_117 : decode cX13_holds 117 = .ok (.aload_n 0, 1) := D_42 (by decide +kernel)
theorem dX13_holds_118 : decode cX13_holds 118 = .ok (.getfield 102, 3) := D_180 (by decide +kernel)
theorem dX13_holds_121 : decode cX13_holds 121 = .ok (.iload 5, 2) := D_21 (by decide +kernel)
theorem dX13_holds_123 : decode cX13_holds 123 = .ok (.iconst 1, 1) := D_4 (by decide +kernel)
theorem dX13_holds_124 : decode cX13_holds 124 = .ok (.isub, 1) := D_100 (by decide +kernel)
theorem dX13_holds_125 : decode cX13_holds 125 = .ok (.iaload, 1) := D_46 (by decide +kernel)
theorem dX13_holds_126 : decode cX13_holds 126 = .ok (.aload_n 0, 1) := D_42 (by decide +kernel)
theorem dX13_holds_127 : decode cX13_holds 127 = .ok (.getfield 102, 3) := D_180 (by decide +kernel)
theorem dX13_holds_130 : decode cX13_holds 130 = .ok (.iload 5, 2) := D_21 (by decide +kernel)
theorem dX13_holds_132 : decode cX13_holds 132 = .ok (.iaload, 1) := D_46 (by decide +kernel)
theorem dX13_holds_133 : decode cX13_holds 133 = .ok (.invokestatic 259, 3) := D_184 (by decide +kernel)
theorem dX13_holds_136 : decode cX13_holds 136 = .ok (.iastore, 1) := D_79 (by decide +kernel)
theorem dX13_holds_137 : decode cX13_holds 137 = .ok (.iinc 6 1, 3) := by decide +kernel
theorem dX13_holds_140 : decode cX13_holds 140 = .ok (.goto (-129), 3) := D_167 (by decide +kernel)
theorem dX13_holds_143 : decode cX13_holds 143 = .ok (.aload_n 0, 1) := D_42 (by decide +kernel)
theorem dX13_holds_144 : decode cX13_holds 144 = .ok (.getfield 102, 3) := D_180 (by decide +kernel)
theorem dX13_holds_147 : decode cX13_holds 147 = .ok (.iconst 0, 1) := D_3 (by decide +kernel)
theorem dX13_holds_148 : decode cX13_holds 148 = .ok (.iaload, 1) := D_46 (by decide +kernel)
theorem dX13_holds_149 : decode cX13_holds 149 = .ok (.ifCond .eq 7, 3) := D_153 (by decide +kernel)
theorem dX13_holds_152 : decode cX13_holds 152 = .ok (.iconst 1, 1) := D_4 (by decide +kernel)
theorem dX13_holds_153 : decode cX13_holds 153 = .ok (.goto 4, 3) := D_167 (by decide +kernel)
theorem dX13_holds_156 : decode cX13_holds 156 = .ok (.iconst 0, 1) := D_3 (by decide +kernel)
theorem dX13_holds_157 : decode cX13_holds 157 = .ok (.ireturn, 1) := D_172 (by decide +kernel)
theorem kSX13_holds : yX13_holds.cls ≠ "java/lang/invoke/MethodHandle" ∧ yX13_holds.cls ≠ "java/lang/invoke/VarHandle" ∧ (parseMethodDescriptor yX13_holds.desc).map (fun d => d.parameters.length) = some 4 := by decide +kernel
theorem kVX13_holds : yX13_holds.cls = RX13 ∧ yX13_holds.cls ≠ "java/lang/invoke/MethodHandle" ∧ yX13_holds.cls ≠ "java/lang/invoke/VarHandle" ∧ (parseMethodDescriptor yX13_holds.desc).map (fun d => d.parameters.length) = some 4 := ⟨rfl, kSX13_holds⟩
theorem dX13_termOf_0 : decode cX13_termOf 0 = .ok (.aload_n 0, 1) := D_42 (by decide +kernel)
theorem dX13_termOf_1 : decode cX13_termOf 1 = .ok (.getfield 96, 3) := D_180 (by decide +kernel)
theorem dX13_termOf_4 : decode cX13_termOf 4 = .ok (.iload_n 1, 1) := D_27 (by decide +kernel)
theorem dX13_termOf_5 : decode cX13_termOf 5 = .ok (.iaload, 1) := D_46 (by decide +kernel)
theorem dX13_termOf_6 : decode cX13_termOf 6 = .ok (.tableswitch 103 0 4 #[34, 41, 62, 85, 92], 34) := by decide +kernel
theorem dX13_termOf_40 : decode cX13_termOf 40 = .ok (.aload_n 0, 1) := D_42 (by decide +kernel)
theorem dX13_termOf_41 : decode cX13_termOf 41 = .ok (.getfield 99, 3) := D_180 (by decide +kernel)
theorem dX13_termOf_44 : decode cX13_termOf 44 = .ok (.iload_n 1, 1) := D_27 (by decide +kernel)
theorem dX13_termOf_45 : decode cX13_termOf 45 = .ok (.iaload, 1) := D_46 (by decide +kernel)
theorem dX13_termOf_46 : decode cX13_termOf 46 = .ok (.ireturn, 1) := D_172 (by decide +kernel)
theorem dX13_termOf_47 : decode cX13_termOf 47 = .ok (.aload_n 0, 1) := D_42 (by decide +kernel)
theorem dX13_termOf_48 : decode cX13_termOf 48 = .ok (.getfield 73, 3) := D_180 (by decide +kernel)
theorem dX13_termOf_51 : decode cX13_termOf 51 = .ok (.iconst 2, 1) := D_5 (by decide +kernel)
theorem dX13_termOf_52 : decode cX13_termOf 52 = .ok (.iload_n 2, 1) := D_28 (by decide +kernel)
theorem dX13_termOf_53 : decode cX13_termOf 53 = .ok (.imul, 1) := D_104 (by decide +kernel)
theorem dX13_termOf_54 : decode cX13_termOf 54 = .ok (.iload_n 3, 1) := D_29 (by decide +kernel)
theorem dX13_termOf_55 : decode cX13_termOf 55 = .ok (.iadd, 1) := D_96 (by decide +kernel)
theorem dX13_termOf_56 : decode cX13_termOf 56 = .ok (.bipush 8, 2) := D_16 (by decide +kernel)
theorem dX13_termOf_58 : decode cX13_termOf 58 = .ok (.imul, 1) := D_104 (by decide +kernel)
theorem dX13_termOf_59 : decode cX13_termOf 59 = .ok (.aload_n 0, 1) := D_42 (by decide +kernel)
theorem dX13_termOf_60 : decode cX13_termOf 60 = .ok (.getfield 99, 3) := D_180 (by decide +kernel)
theorem dX13_termOf_63 : decode cX13_termOf 63 = .ok (.iload_n 1, 1) := D_27 (by decide +kernel)
theorem dX13_termOf_64 : decode cX13_termOf 64 = .ok (.iaload, 1) := D_46 (by decide +kernel)
theorem dX13_termOf_65 : decode cX13_termOf 65 = .ok (.iadd, 1) := D_96 (by decide +kernel)
theorem dX13_termOf_66 : decode cX13_termOf 66 = .ok (.iaload, 1) := D_46 (by decide +kernel)
theorem dX13_termOf_67 : decode cX13_termOf 67 = .ok (.ireturn, 1) := D_172 (by decide +kernel)
theorem dX13_termOf_68 : decode cX13_termOf 68 = .ok (.aload_n 0, 1) := D_42 (by decide +kernel)
theorem dX13_termOf_69 : decode cX13_termOf 69 = .ok (.getfield 73, 3) := D_180 (by decide +kernel)
theorem dX13_termOf_72 : decode cX13_termOf 72 = .ok (.iconst 2, 1) := D_5 (by decide +kernel)
theorem dX13_termOf_73 : decode cX13_termOf 73 = .ok (.iload_n 2, 1) := D_28 (by decide +kernel)
theorem dX13_termOf_74 : decode cX13_termOf 74 = .ok (.imul, 1) := D_104 (by decide +kernel)
theorem dX13_termOf_75 : decode cX13_termOf 75 = .ok (.iconst 1, 1) := D_4 (by decide +kernel)
theorem dX13_termOf_76 : decode cX13_termOf 76 = .ok (.iadd, 1) := D_96 (by decide +kernel)
theorem dX13_termOf_77 : decode cX13_termOf 77 = .ok (.iload_n 3, 1) := D_29 (by decide +kernel)
theorem dX13_termOf_78 : decode cX13_termOf 78 = .ok (.isub, 1) := D_100 (by decide +kernel)
theorem dX13_termOf_79 : decode cX13_termOf 79 = .ok (.bipush 8, 2) := D_16 (by decide +kernel)
theorem dX13_termOf_81 : decode cX13_termOf 81 = .ok (.imul, 1) := D_104 (by decide +kernel)
theorem dX13_termOf_82 : decode cX13_termOf 82 = .ok (.aload_n 0, 1) := D_42 (by decide +kernel)
theorem dX13_termOf_83 : decode cX13_termOf 83 = .ok (.getfield 99, 3) := D_180 (by decide +kernel)
theorem dX13_termOf_86 : decode cX13_termOf 86 = .ok (.iload_n 1, 1) := D_27 (by decide +kernel)
theorem dX13_termOf_87 : decode cX13_termOf 87 = .ok (.iaload, 1) := D_46 (by decide +kernel)
theorem dX13_termOf_88 : decode cX13_termOf 88 = .ok (.iadd, 1) := D_96 (by decide +kernel)
theorem dX13_termOf_89 : decode cX13_termOf 89 = .ok (.iaload, 1) := D_46 (by decide +kernel)
theorem dX13_termOf_90 : decode cX13_termOf 90 = .ok (.ireturn, 1) := D_172 (by decide +kernel)
theorem dX13_termOf_91 : decode cX13_termOf 91 = .ok (.aload_n 0, 1) := D_42 (by decide +kernel)
theorem dX13_termOf_92 : decode cX13_termOf 92 = .ok (.getfield 70, 3) := D_180 (by decide +kernel)
theorem dX13_termOf_95 : decode cX13_termOf 95 = .ok (.iload_n 2, 1) := D_28 (by decide +kernel)
theorem dX13_termOf_96 : decode cX13_termOf 96 = .ok (.iaload, 1) := D_46 (by decide +kernel)
theorem dX13_termOf_97 : decode cX13_termOf 97 = .ok (.ireturn, 1) := D_172 (by decide +kernel)
theorem dX13_termOf_98 : decode cX13_termOf 98 = .ok (.iload 4, 2) := D_21 (by decide +kernel)
theorem dX13_termOf_100 : decode cX13_termOf 100 = .ok (.ifCond .eq 7, 3) := D_153 (by decide +kernel)
theorem dX13_termOf_103 : decode cX13_termOf 103 = .ok (.iconst 1, 1) := D_4 (by decide +kernel)
theorem dX13_termOf_104 : decode cX13_termOf 104 = .ok (.goto 4, 3) := D_167 (by decide +kernel)
theorem dX13_termOf_107 : decode cX13_termOf 107 = .ok (.iconst 0, 1) := D_3 (by decide +kernel)
theorem dX13_termOf_108 : decode cX13_termOf 108 = .ok (.ireturn, 1) := D_172 (by decide +kernel)
theorem dX13_termOf_109 : decode cX13_termOf 109 = .ok (.aload_n 0, 1) := D_42 (by decide +kernel)
theorem dX13_termOf_110 : decode cX13_termOf 110 = .ok (.getfield 76, 3) := D_180 (by decide +kernel)
theorem dX13_termOf_113 : decode cX13_termOf 113 = .ok (.iload_n 2, 1) := D_28 (by decide +kernel)
theorem dX13_termOf_114 : decode cX13_termOf 114 = .ok (.baload, 1) := D_51 (by decide +kernel)
theorem dX13_termOf_115 : decode cX13_termOf 115 = .ok (.ifCond .eq 7, 3) := D_153 (by decide +kernel)
theorem dX13_termOf_118 : decode cX13_termOf 118 = .ok (.iconst 1, 1) := D_4 (by decide +kernel)
theorem dX13_termOf_119 : decode cX13_termOf 119 = .ok (.goto 4, 3) := D_167 (by decide +kernel)
theorem dX13_termOf_122 : decode cX13_termOf 122 = .ok (.iconst 0, 1) := D_3 (by decide +kernel)
theorem dX13_termOf_123 : decode cX13_termOf 123 = .ok (.ireturn, 1) := D_172 (by decide +kernel)
theorem kSX13_termOf : yX13_termOf.cls ≠ "java/lang/invoke/MethodHandle" ∧ yX13_termOf.cls ≠ "java/lang/invoke/VarHandle" ∧ (parseMethodDescriptor yX13_termOf.desc).map (fun d => d.parameters.length) = some 4 := by decide +kernel
theorem kVX13_termOf : yX13_termOf.cls = RX13 ∧ yX13_termOf.cls ≠ "java/lang/invoke/MethodHandle" ∧ yX13_termOf.cls ≠ "java/lang/invoke/VarHandle" ∧ (parseMethodDescriptor yX13_termOf.desc).map (fun d => d.parameters.length) = some 4 := ⟨rfl, kSX13_termOf⟩
theorem dX13_joined_0 : decode cX13_joined 0 = .ok (.iload_n 0, 1) := D_26 (by decide +kernel)
theorem dX13_joined_1 : decode cX13_joined 1 = .ok (.tableswitch 139 7 15 #[51, 55, 59, 70, 81, 92, 103, 114, 125], 51) := by decide +kernel
theorem dX13_joined_52 : decode cX13_joined 52 = .ok (.iload_n 1, 1) := D_27 (by decide +kernel)
theorem dX13_joined_53 : decode cX13_joined 53 = .ok (.iload_n 2, 1) := D_28 (by decide +kernel)
theorem dX13_joined_54 : decode cX13_joined 54 = .ok (.iadd, 1) := D_96 (by decide +kernel)
theorem dX13_joined_55 : decode cX13_joined 55 = .ok (.ireturn, 1) := D_172 (by decide +kernel)
theorem dX13_joined_56 : decode cX13_joined 56 = .ok (.iload_n 1, 1) := D_27 (by decide +kernel)
theorem dX13_joined_57 : decode cX13_joined 57 = .ok (.iload_n 2, 1) := D_28 (by decide +kernel)
theorem dX13_joined_58 : decode cX13_joined 58 = .ok (.isub, 1) := D_100 (by decide +kernel)
theorem dX13_joined_59 : decode cX13_joined 59 = .ok (.ireturn, 1) := D_172 (by decide +kernel)
theorem dX13_joined_60 : decode cX13_joined 60 = .ok (.iload_n 1, 1) := D_27 (by decide +kernel)
theorem dX13_joined_61 : decode cX13_joined 61 = .ok (.iload_n 2, 1) := D_28 (by decide +kernel)
theorem dX13_joined_62 : decode cX13_joined 62 = .ok (.if_icmp .ge 7, 3) := D_162 (by decide +kernel)
theorem dX13_joined_65 : decode cX13_joined 65 = .ok (.iconst 1, 1) := D_4 (by decide +kernel)
theorem dX13_joined_66 : decode cX13_joined 66 = .ok (.goto 4, 3) := D_167 (by decide +kernel)
theorem dX13_joined_69 : decode cX13_joined 69 = .ok (.iconst 0, 1) := D_3 (by decide +kernel)
theorem dX13_joined_70 : decode cX13_joined 70 = .ok (.ireturn, 1) := D_172 (by decide +kernel)
theorem dX13_joined_71 : decode cX13_joined 71 = .ok (.iload_n 1, 1) := D_27 (by decide +kernel)
theorem dX13_joined_72 : decode cX13_joined 72 = .ok (.iload_n 2, 1) := D_28 (by decide +kernel)
theorem dX13_joined_73 : decode cX13_joined 73 = .ok (.if_icmp .gt 7, 3) := D_163 (by decide +kernel)
theorem dX13_joined_76 : decode cX13_joined 76 = .ok (.iconst 1, 1) := D_4 (by decide +kernel)
theorem dX13_joined_77 : decode cX13_joined 77 = .ok (.goto 4, 3) := D_167 (by decide +kernel)
theorem dX13_joined_80 : decode cX13_joined 80 = .ok (.iconst 0, 1) := D_3 (by decide +kernel)
theorem dX13_joined_81 : decode cX13_joined 81 = .ok (.ireturn, 1) := D_172 (by decide +kernel)
theorem dX13_joined_82 : decode cX13_joined 82 = .ok (.iload_n 1, 1) := D_27 (by decide +kernel)
theorem dX13_joined_83 : decode cX13_joined 83 = .ok (.iload_n 2, 1) := D_28 (by decide +kernel)
theorem dX13_joined_84 : decode cX13_joined 84 = .ok (.if_icmp .le 7, 3) := D_164 (by decide +kernel)
theorem dX13_joined_87 : decode cX13_joined 87 = .ok (.iconst 1, 1) := D_4 (by decide +kernel)
theorem dX13_joined_88 : decode cX13_joined 88 = .ok (.goto 4, 3) := D_167 (by decide +kernel)
theorem dX13_joined_91 : decode cX13_joined 91 = .ok (.iconst 0, 1) := D_3 (by decide +kernel)
theorem dX13_joined_92 : decode cX13_joined 92 = .ok (.ireturn, 1) := D_172 (by decide +kernel)
theorem dX13_joined_93 : decode cX13_joined 93 = .ok (.iload_n 1, 1) := D_27 (by decide +kernel)
theorem dX13_joined_94 : decode cX13_joined 94 = .ok (.iload_n 2, 1) := D_28 (by decide +kernel)
theorem dX13_joined_95 : decode cX13_joined 95 = .ok (.if_icmp .lt 7, 3) := D_161 (by decide +kernel)
theorem dX13_joined_98 : decode cX13_joined 98 = .ok (.iconst 1, 1) := D_4 (by decide +kernel)
theorem dX13_joined_99 : decode cX13_joined 99 = .ok (.goto 4, 3) := D_167 (by decide +kernel)
theorem dX13_joined_102 : decode cX13_joined 102 = .ok (.iconst 0, 1) := D_3 (by decide +kernel)
theorem dX13_joined_103 : decode cX13_joined 103 = .ok (.ireturn, 1) := D_172 (by decide +kernel)
theorem dX13_joined_104 : decode cX13_joined 104 = .ok (.iload_n 1, 1) := D_27 (by decide +kernel)
theorem dX13_joined_105 : decode cX13_joined 105 = .ok (.iload_n 2, 1) := D_28 (by decide +kernel)
theorem dX13_joined_106 : decode cX13_joined 106 = .ok (.if_icmp .ne 7, 3) := D_160 (by decide +kernel)
theorem dX13_joined_109 : decode cX13_joined 109 = .ok (.iconst 1, 1) := D_4 (by decide +kernel)
theorem dX13_joined_110 : decode cX13_joined 110 = .ok (.goto 4, 3) := D_167 (by decide +kernel)
theorem dX13_joined_113 : decode cX13_joined 113 = .ok (.iconst 0, 1) := D_3 (by decide +kernel)
theorem dX13_joined_114 : decode cX13_joined 114 = .ok (.ireturn, 1) := D_172 (by decide +kernel)
theorem dX13_joined_115 : decode cX13_joined 115 = .ok (.iload_n 1, 1) := D_27 (by decide +kernel)
theorem dX13_joined_116 : decode cX13_joined 116 = .ok (.iload_n 2, 1) := D_28 (by decide +kernel)
theorem dX13_joined_117 : decode cX13_joined 117 = .ok (.if_icmp .eq 7, 3) := D_159 (by decide +kernel)
theorem dX13_joined_120 : decode cX13_joined 120 = .ok (.iconst 1, 1) := D_4 (by decide +kernel)
theorem dX13_joined_121 : decode cX13_joined 121 = .ok (.goto 4, 3) := D_167 (by decide +kernel)
theorem dX13_joined_124 : decode cX13_joined 124 = .ok (.iconst 0, 1) := D_3 (by decide +kernel)
theorem dX13_joined_125 : decode cX13_joined 125 = .ok (.ireturn, 1) := D_172 (by decide +kernel)
theorem dX13_joined_126 : decode cX13_joined 126 = .ok (.iload_n 1, 1) := D_27 (by decide +kernel)
theorem dX13_joined_127 : decode cX13_joined 127 = .ok (.ifCond .eq 11, 3) := D_153 (by decide +kernel)
theorem dX13_joined_130 : decode cX13_joined 130 = .ok (.iload_n 2, 1) := D_28 (by decide +kernel)
theorem dX13_joined_131 : decode cX13_joined 131 = .ok (.ifCond .eq 7, 3) := D_153 (by decide +kernel)
theorem dX13_joined_134 : decode cX13_joined 134 = .ok (.iconst 1, 1) := D_4 (by decide +kernel)
theorem dX13_joined_135 : decode cX13_joined 135 = .ok (.goto 4, 3) := D_167 (by decide +kernel)
theorem dX13_joined_138 : decode cX13_joined 138 = .ok (.iconst 0, 1) := D_3 (by decide +kernel)
theorem dX13_joined_139 : decode cX13_joined 139 = .ok (.ireturn, 1) := D_172 (by decide +kernel)
theorem dX13_joined_140 : decode cX13_joined 140 = .ok (.iload_n 1, 1) := D_27 (by decide +kernel)
theorem dX13_joined_141 : decode cX13_joined 141 = .ok (.ifCond .ne 7, 3) := D_154 (by decide +kernel)
theorem dX13_joined_144 : decode cX13_joined 144 = .ok (.iload_n 2, 1) := D_28 (by decide +kernel)
theorem dX13_joined_145 : decode cX13_joined 145 = .ok (.ifCond .eq 7, 3) := D_153 (by decide +kernel)
theorem dX13_joined_148 : decode cX13_joined 148 = .ok (.iconst 1, 1) := D_4 (by decide +kernel)
theorem dX13_joined_149 : decode cX13_joined 149 = .ok (.goto 4, 3) := D_167 (by decide +kernel)
theorem dX13_joined_152 : decode cX13_joined 152 = .ok (.iconst 0, 1) := D_3 (by decide +kernel)
theorem dX13_joined_153 : decode cX13_joined 153 = .ok (.ireturn, 1) := D_172 (by decide +kernel)
theorem kSX13_joined : yX13_joined.cls ≠ "java/lang/invoke/MethodHandle" ∧ yX13_joined.cls ≠ "java/lang/invoke/VarHandle" ∧ (parseMethodDescriptor yX13_joined.desc).map (fun d => d.parameters.length) = some 3 := by decide +kernel
theorem kVX13_joined : yX13_joined.cls = RX13 ∧ yX13_joined.cls ≠ "java/lang/invoke/MethodHandle" ∧ yX13_joined.cls ≠ "java/lang/invoke/VarHandle" ∧ (parseMethodDescriptor yX13_joined.desc).map (fun d => d.parameters.length) = some 3 := ⟨rfl, kSX13_joined⟩
theorem dX13_isText_0 : decode cX13_isText 0 = .ok (.aload_n 0, 1) := D_42 (by decide +kernel)
theorem dX13_isText_1 : decode cX13_isText 1 = .ok (.getfield 268, 3) := D_180 (by decide +kernel)
theorem dX13_isText_4 : decode cX13_isText 4 = .ok (.aload_n 0, 1) := D_42 (by decide +kernel)
theorem dX13_isText_5 : decode cX13_isText 5 = .ok (.getfield 271, 3) := D_180 (by decide +kernel)
theorem dX13_isText_8 : decode cX13_isText 8 = .ok (.isub, 1) := D_100 (by decide +kernel)
theorem dX13_isText_9 : decode cX13_isText 9 = .ok (.aload_n 1, 1) := D_43 (by decide +kernel)
theorem dX13_isText_10 : decode cX13_isText 10 = .ok (.invokevirtual 296, 3) := D_182 (by decide +kernel)
theorem dX13_isText_13 : decode cX13_isText 13 = .ok (.if_icmp .ne 7, 3) := D_160 (by decide +kernel)
theorem dX13_isText_16 : decode cX13_isText 16 = .ok (.iconst 1, 1) := D_4 (by decide +kernel)
theorem dX13_isText_17 : decode cX13_isText 17 = .ok (.goto 4, 3) := D_167 (by decide +kernel)
theorem dX13_isText_20 : decode cX13_isText 20 = .ok (.iconst 0, 1) := D_3 (by decide +kernel)
theorem dX13_isText_21 : decode cX13_isText 21 = .ok (.istore_n 2, 1) := D_61 (by decide +kernel)
theorem dX13_isText_22 : decode cX13_isText 22 = .ok (.iconst 0, 1) := D_3 (by decide +kernel)
theorem dX13_isText_23 : decode cX13_isText 23 = .ok (.istore_n 3, 1) := D_62 (by decide +kernel)
theorem dX13_isText_24 : decode cX13_isText 24 = .ok (.iload_n 3, 1) := D_29 (by decide +kernel)
theorem dX13_isText_25 : decode cX13_isText 25 = .ok (.aload_n 1, 1) := D_43 (by decide +kernel)
theorem dX13_isText_26 : decode cX13_isText 26 = .ok (.invokevirtual 296, 3) := D_182 (by decide +kernel)
theorem dX13_isText_29 : decode cX13_isText 29 = .ok (.if_icmp .ge 38, 3) := D_162 (by decide +kernel)
theorem dX13_isText_32 : decode cX13_isText 32 = .ok (.iload_n 2, 1) := D_28 (by decide +kernel)
theorem dX13_isText_33 : decode cX13_isText 33 = .ok (.ifCond .eq 34, 3) := D_153 (by decide +kernel)
theorem dX13_isText_36 : decode cX13_isText 36 = .ok (.aload_n 0, 1) := D_42 (by decide +kernel)
theorem dX13_isText_37 : decode cX13_isText 37 = .ok (.getfield 115, 3) := D_180 (by decide +kernel)
theorem dX13_isText_40 : decode cX13_isText 40 = .ok (.aload_n 0, 1) := D_42 (by decide +kernel)
theorem dX13_isText_41 : decode cX13_isText 41 = .ok (.getfield 271, 3) := D_180 (by decide +kernel)
theorem dX13_isText_44 : decode cX13_isText 44 = .ok (.iload_n 3, 1) := D_29 (by decide +kernel)
theorem dX13_isText_45 : decode cX13_isText 45 = .ok (.iadd, 1) := D_96 (by decide +kernel)
theorem dX13_isText_46 : decode cX13_isText 46 = .ok (.baload, 1) := D_51 (by decide +kernel)
theorem dX13_isText_47 : decode cX13_isText 47 = .ok (.aload_n 1, 1) := D_43 (by decide +kernel)
theorem dX13_isText_48 : decode cX13_isText 48 = .ok (.iload_n 3, 1) := D_29 (by decide +kernel)
theorem dX13_isText_49 : decode cX13_isText 49 = .ok (.invokevirtual 300, 3) := D_182 (by decide +kernel)
theorem dX13_isText_52 : decode cX13_isText 52 = .ok (.if_icmp .ne 7, 3) := D_160 (by decide +kernel)
theorem dX13_isText_55 : decode cX13_isText 55 = .ok (.iconst 1, 1) := D_4 (by decide +kernel)
theorem dX13_isText_56 : decode cX13_isText 56 = .ok (.goto 4, 3) := D_167 (by decide +kernel)
theorem dX13_isText_59 : decode cX13_isText 59 = .ok (.iconst 0, 1) := D_3 (by decide +kernel)
theorem dX13_isText_60 : decode cX13_isText 60 = .ok (.istore_n 2, 1) := D_61 (by decide +kernel)
theorem dX13_isText_61 : decode cX13_isText 61 = .ok (.iinc 3 1, 3) := by decide +kernel
theorem dX13_isText_64 : decode cX13_isText 64 = .ok (.goto (-40), 3) := D_167 (by decide +kernel)
theorem dX13_isText_67 : decode cX13_isText 67 = .ok (.iload_n 2, 1) := D_28 (by decide +kernel)
theorem dX13_isText_68 : decode cX13_isText 68 = .ok (.ireturn, 1) := D_172 (by decide +kernel)
theorem kSX13_isText : yX13_isText.cls ≠ "java/lang/invoke/MethodHandle" ∧ yX13_isText.cls ≠ "java/lang/invoke/VarHandle" ∧ (parseMethodDescriptor yX13_isText.desc).map (fun d => d.parameters.length) = some 1 := by decide +kernel
theorem kVX13_isText : yX13_isText.cls = RX13 ∧ yX13_isText.cls ≠ "java/lang/invoke/MethodHandle" ∧ yX13_isText.cls ≠ "java/lang/invoke/VarHandle" ∧ (parseMethodDescriptor yX13_isText.desc).map (fun d => d.parameters.length) = some 1 := ⟨rfl, kSX13_isText⟩
theorem dX13_isQuoted_0 : decode cX13_isQuoted 0 = .ok (.aload_n 0, 1) := D_42 (by decide +kernel)
theorem dX13_isQuoted_1 : decode cX13_isQuoted 1 = .ok (.ldc_w 318, 3) := D_19 (by decide +kernel)
theorem dX13_isQuoted_4 : decode cX13_isQuoted 4 = .ok (.invokevirtual 308, 3) := D_182 (by decide +kernel)
theorem dX13_isQuoted_7 : decode cX13_isQuoted 7 = .ok (.ifCond .ne 123, 3) := D_154 (by decide +kernel)
theorem dX13_isQuoted_10 : decode cX13_isQuoted 10 = .ok (.aload_n 0, 1) := D_42 (by decide +kernel)
theorem dX13_isQuoted_11 : decode cX13_isQuoted 11 = .ok (.ldc_w 319, 3) := D_19 (by decide +kernel)
theorem dX13_isQuoted_14 : decode cX13_isQuoted 14 = .ok (.invokevirtual 308, 3) := D_182 (by decide +kernel)
theorem dX13_isQuoted_17 : decode cX13_isQuoted 17 = .ok (.ifCond .ne 113, 3) := D_154 (by decide +kernel)
theorem dX13_isQuoted_20 : decode cX13_isQuoted 20 = .ok (.aload_n 0, 1) := D_42 (by decide +kernel)
theorem dX13_isQuoted_21 : decode cX13_isQuoted 21 = .ok (.ldc_w 320, 3) := D_19 (by decide +kernel)
theorem dX13_isQuoted_24 : decode cX13_isQuoted 24 = .ok (.invokevirtual 308, 3) := D_182 (by decide +kernel)
theorem dX13_isQuoted_27 : decode cX13_isQuoted 27 = .ok (.ifCond .ne 103, 3) := D_154 (by decide +kernel)
theorem dX13_isQuoted_30 : decode cX13_isQuoted 30 = .ok (.aload_n 0, 1) := D_42 (by decide +kernel)
theorem dX13_isQuoted_31 : decode cX13_isQuoted 31 = .ok (.ldc_w 322, 3) := D_19 (by decide +kernel)
theorem dX13_isQuoted_34 : decode cX13_isQuoted 34 = .ok (.invokevirtual 308, 3) := D_182 (by decide +kernel)
theorem dX13_isQuoted_37 : decode cX13_isQuoted 37 = .ok (.ifCond .ne 93, 3) := D_154 (by decide +kernel)
theorem dX13_isQuoted_40 : decode cX13_isQuoted 40 = .ok (.aload_n 0, 1) := D_42 (by decide +kernel)
theorem dX13_isQuoted_41 : decode cX13_isQuoted 41 = .ok (.ldc_w 324, 3) := D_19 (by decide +kernel)
theorem dX13_isQuoted_44 : decode cX13_isQuoted 44 = .ok (.invokevirtual 308, 3) := D_182 (by decide +kernel)
theorem dX13_isQuoted_47 : decode cX13_isQuoted 47 = .ok (.ifCond .ne 83, 3) := D_154 (by decide +kernel)
theorem dX13_isQuoted_50 : decode cX13_isQuoted 50 = .ok (.aload_n 0, 1) := D_42 (by decide +kernel)
theorem dX13_isQuoted_51 : decode cX13_isQuoted 51 = .ok (.ldc_w 326, 3) := D_19 (by decide +kernel)
theorem dX13_isQuoted_54 : decode cX13_isQuoted 54 = .ok (.invokevirtual 308, 3) := D_182 (by decide +kernel)
theorem dX13_isQuoted_57 : decode cX13_isQuoted 57 = .ok (.ifCond .ne 73, 3) := D_154 (by decide +kernel)
theorem dX13_isQuoted_60 : decode cX13_isQuoted 60 = .ok (.aload_n 0, 1) := D_42 (by decide +kernel)
theorem dX13_isQuoted_61 : decode cX13_isQuoted 61 = .ok (.ldc_w 328, 3) := D_19 (by decide +kernel)
theorem dX13_isQuoted_64 : decode cX13_isQuoted 64 = .ok (.invokevirtual 308, 3) := D_182 (by decide +kernel)
theorem dX13_isQuoted_67 : decode cX13_isQuoted 67 = .ok (.ifCond .ne 63, 3) := D_154 (by decide +kernel)
theorem dX13_isQuoted_70 : decode cX13_isQuoted 70 = .ok (.aload_n 0, 1) := D_42 (by decide +kernel)
theorem dX13_isQuoted_71 : decode cX13_isQuoted 71 = .ok (.ldc_w 330, 3) := D_19 (by decide +kernel)
theorem dX13_isQuoted_74 : decode cX13_isQuoted 74 = .ok (.invokevirtual 308, 3) := D_182 (by decide +kernel)
theorem dX13_isQuoted_77 : decode cX13_isQuoted 77 = .ok (.ifCond .ne 53, 3) := D_154 (by decide +kernel)
theorem dX13_isQuoted_80 : decode cX13_isQuoted 80 = .ok (.aload_n 0, 1) := D_42 (by decide +kernel)
theorem dX13_isQuoted_81 : decode cX13_isQuoted 81 = .ok (.ldc_w 332, 3) := D_19 (by decide +kernel)
theorem dX13_isQuoted_84 : decode cX13_isQuoted 84 = .ok (.invokevirtual 308, 3) := D_182 (by decide +kernel)
theorem dX13_isQuoted_87 : decode cX13_isQuoted 87 = .ok (.ifCond .ne 43, 3) := D_154 (by decide +kernel)
theorem dX13_isQuoted_90 : decode cX13_isQuoted 90 = .ok (.aload_n 0, 1) := D_42 (by decide +kernel)
theorem dX13_isQuoted_91 : decode cX13_isQuoted 91 = .ok (.ldc_w 334, 3) := D_19 (by decide +kernel)
theorem dX13_isQuoted_94 : decode cX13_isQuoted 94 = .ok (.invokevirtual 308, 3) := D_182 (by decide +kernel)
theorem dX13_isQuoted_97 : decode cX13_isQuoted 97 = .ok (.ifCond .ne 33, 3) := D_154 (by decide +kernel)
theorem dX13_isQuoted_100 : decode cX13_isQuoted 100 = .ok (.aload_n 0, 1) := D_42 (by decide +kernel)
theorem dX13_isQuoted_101 : decode cX13_isQuoted 101 = .ok (.ldc_w 336, 3) := D_19 (by decide +kernel)
theorem dX13_isQuoted_104 : decode cX13_isQuoted 104 = .ok (.invokevirtual 308, 3) := D_182 (by decide +kernel)
theorem dX13_isQuoted_107 : decode cX13_isQuoted 107 = .ok (.ifCond .ne 23, 3) := D_154 (by decide +kernel)
theorem dX13_isQuoted_110 : decode cX13_isQuoted 110 = .ok (.aload_n 0, 1) := D_42 (by decide +kernel)
theorem dX13_isQuoted_111 : decode cX13_isQuoted 111 = .ok (.ldc_w 338, 3) := D_19 (by decide +kernel)
theorem dX13_isQuoted_114 : decode cX13_isQuoted 114 = .ok (.invokevirtual 308, 3) := D_182 (by decide +kernel)
theorem dX13_isQuoted_117 : decode cX13_isQuoted 117 = .ok (.ifCond .ne 13, 3) := D_154 (by decide +kernel)
theorem dX13_isQuoted_120 : decode cX13_isQuoted 120 = .ok (.aload_n 0, 1) := D_42 (by decide +kernel)
theorem dX13_isQuoted_121 : decode cX13_isQuoted 121 = .ok (.ldc_w 340, 3) := D_19 (by decide +kernel)
theorem dX13_isQuoted_124 : decode cX13_isQuoted 124 = .ok (.invokevirtual 308, 3) := D_182 (by decide +kernel)
theorem dX13_isQuoted_127 : decode cX13_isQuoted 127 = .ok (.ifCond .eq 7, 3) := D_153 (by decide +kernel)
theorem dX13_isQuoted_130 : decode cX13_isQuoted 130 = .ok (.iconst 1, 1) := D_4 (by decide +kernel)
theorem dX13_isQuoted_131 : decode cX13_isQuoted 131 = .ok (.goto 4, 3) := D_167 (by decide +kernel)
theorem dX13_isQuoted_134 : decode cX13_isQuoted 134 = .ok (.iconst 0, 1) := D_3 (by decide +kernel)
theorem dX13_isQuoted_135 : decode cX13_isQuoted 135 = .ok (.ireturn, 1) := D_172 (by decide +kernel)
theorem kSX13_isQuoted : yX13_isQuoted.cls ≠ "java/lang/invoke/MethodHandle" ∧ yX13_isQuoted.cls ≠ "java/lang/invoke/VarHandle" ∧ (parseMethodDescriptor yX13_isQuoted.desc).map (fun d => d.parameters.length) = some 0 := by decide +kernel
theorem kVX13_isQuoted : yX13_isQuoted.cls = RX13 ∧ yX13_isQuoted.cls ≠ "java/lang/invoke/MethodHandle" ∧ yX13_isQuoted.cls ≠ "java/lang/invoke/VarHandle" ∧ (parseMethodDescriptor yX13_isQuoted.desc).map (fun d => d.parameters.length) = some 0 := ⟨rfl, kSX13_isQuoted⟩
theorem dX13_findSign_0 : decode cX13_findSign 0 = .ok (.iconst 0, 1) := D_3 (by decide +kernel)
theorem dX13_findSign_1 : decode cX13_findSign 1 = .ok (.istore_n 1, 1) := D_60 (by decide +kernel)
theorem dX13_findSign_2 : decode cX13_findSign 2 = .ok (.iload_n 1, 1) := D_27 (by decide +kernel)
theorem dX13_findSign_3 : decode cX13_findSign 3 = .ok (.aload_n 0, 1) := D_42 (by decide +kernel)
theorem dX13_findSign_4 : decode cX13_findSign 4 = .ok (.getfield 186, 3) := D_180 (by decide +kernel)
theorem dX13_findSign_7 : decode cX13_findSign 7 = .ok (.if_icmp .ge 92, 3) := D_162 (by decide +kernel)
theorem dX13_findSign_10 : decode cX13_findSign 10 = .ok (.aload_n 0, 1) := D_42 (by decide +kernel)
theorem dX13_findSign_11 : decode cX13_findSign 11 = .ok (.getfield 87, 3) := D_180 (by decide +kernel)
theorem dX13_findSign_14 : decode cX13_findSign 14 = .ok (.iload_n 1, 1) := D_27 (by decide +kernel)
theorem dX13_findSign_15 : decode cX13_findSign 15 = .ok (.iaload, 1) := D_46 (by decide +kernel)
theorem dX13_findSign_16 : decode cX13_findSign 16 = .ok (.aload_n 0, 1) := D_42 (by decide +kernel)
theorem dX13_findSign_17 : decode cX13_findSign 17 = .ok (.getfield 268, 3) := D_180 (by decide +kernel)
theorem dX13_findSign_20 : decode cX13_findSign 20 = .ok (.aload_n 0, 1) := D_42 (by decide +kernel)
theorem dX13_findSign_21 : decode cX13_findSign 21 = .ok (.getfield 271, 3) := D_180 (by decide +kernel)
theorem dX13_findSign_24 : decode cX13_findSign 24 = .ok (.isub, 1) := D_100 (by decide +kernel)
theorem dX13_findSign_25 : decode cX13_findSign 25 = .ok (.if_icmp .ne 7, 3) := D_160 (by decide +kernel)
theorem dX13_findSign_28 : decode cX13_findSign 28 = .ok (.iconst 1, 1) := D_4 (by decide +kernel)
theorem dX13_findSign_29 : decode cX13_findSign 29 = .ok (.goto 4, 3) := D_167 (by decide +kernel)
theorem dX13_findSign_32 : decode cX13_findSign 32 = .ok (.iconst 0, 1) := D_3 (by decide +kernel)
theorem dX13_findSign_33 : decode cX13_findSign 33 = .ok (.istore_n 2, 1) := D_61 (by decide +kernel)
theorem dX13_findSign_34 : decode cX13_findSign 34 = .ok (.iconst 0, 1) := D_3 (by decide +kernel)
theorem dX13_findSign_35 : decode cX13_findSign 35 = .ok (.istore_n 3, 1) := D_62 (by decide +kernel)
theorem dX13_findSign_36 : decode cX13_findSign 36 = .ok (.iload_n 3, 1) := D_29 (by decide +kernel)
theorem dX13_findSign_37 : decode cX13_findSign 37 = .ok (.aload_n 0, 1) := D_42 (by decide +kernel)
theorem dX13_findSign_38 : decode cX13_findSign 38 = .ok (.getfield 87, 3) := D_180 (by decide +kernel)
theorem dX13_findSign_41 : decode cX13_findSign 41 = .ok (.iload_n 1, 1) := D_27 (by decide +kernel)
theorem dX13_findSign_42 : decode cX13_findSign 42 = .ok (.iaload, 1) := D_46 (by decide +kernel)
theorem dX13_findSign_43 : decode cX13_findSign 43 = .ok (.if_icmp .ge 44, 3) := D_162 (by decide +kernel)
theorem dX13_findSign_46 : decode cX13_findSign 46 = .ok (.iload_n 2, 1) := D_28 (by decide +kernel)
theorem dX13_findSign_47 : decode cX13_findSign 47 = .ok (.ifCond .eq 40, 3) := D_153 (by decide +kernel)
theorem dX13_findSign_50 : decode cX13_findSign 50 = .ok (.aload_n 0, 1) := D_42 (by decide +kernel)
theorem dX13_findSign_51 : decode cX13_findSign 51 = .ok (.getfield 83, 3) := D_180 (by decide +kernel)
theorem dX13_findSign_54 : decode cX13_findSign 54 = .ok (.bipush 10, 2) := D_16 (by decide +kernel)
theorem dX13_findSign_56 : decode cX13_findSign 56 = .ok (.iload_n 1, 1) := D_27 (by decide +kernel)
theorem dX13_findSign_57 : decode cX13_findSign 57 = .ok (.imul, 1) := D_104 (by decide +kernel)
theorem dX13_findSign_58 : decode cX13_findSign 58 = .ok (.iload_n 3, 1) := D_29 (by decide +kernel)
theorem dX13_findSign_59 : decode cX13_findSign 59 = .ok (.iadd, 1) := D_96 (by decide +kernel)
theorem dX13_findSign_60 : decode cX13_findSign 60 = .ok (.baload, 1) := D_51 (by decide +kernel)
theorem dX13_findSign_61 : decode cX13_findSign 61 = .ok (.aload_n 0, 1) := D_42 (by decide +kernel)
theorem dX13_findSign_62 : decode cX13_findSign 62 = .ok (.getfield 115, 3) := D_180 (by decide +kernel)
theorem dX13_findSign_65 : decode cX13_findSign 65 = .ok (.aload_n 0, 1) := D_42 (by decide +kernel)
theorem dX13_findSign_66 : decode cX13_findSign 66 = .ok (.getfield 271, 3) := D_180 (by decide +kernel)
theorem dX13_findSign_69 : decode cX13_findSign 69 = .ok (.iload_n 3, 1) := D_29 (by decide +kernel)
theorem dX13_findSign_70 : decode cX13_findSign 70 = .ok (.iadd, 1) := D_96 (by decide +kernel)
theorem dX13_findSign_71 : decode cX13_findSign 71 = .ok (.baload, 1) := D_51 (by decide +kernel)
theorem dX13_findSign_72 : decode cX13_findSign 72 = .ok (.if_icmp .ne 7, 3) := D_160 (by decide +kernel)
theorem dX13_findSign_75 : decode cX13_findSign 75 = .ok (.iconst 1, 1) := D_4 (by decide +kernel)
theorem dX13_findSign_76 : decode cX13_findSign 76 = .ok (.goto 4, 3) := D_167 (by decide +kernel)
theorem dX13_findSign_79 : decode cX13_findSign 79 = .ok (.iconst 0, 1) := D_3 (by decide +kernel)
theorem dX13_findSign_80 : decode cX13_findSign 80 = .ok (.istore_n 2, 1) := D_61 (by decide +kernel)
theorem dX13_findSign_81 : decode cX13_findSign 81 = .ok (.iinc 3 1, 3) := by decide +kernel
theorem dX13_findSign_84 : decode cX13_findSign 84 = .ok (.goto (-48), 3) := D_167 (by decide +kernel)
theorem dX13_findSign_87 : decode cX13_findSign 87 = .ok (.iload_n 2, 1) := D_28 (by decide +kernel)
theorem dX13_findSign_88 : decode cX13_findSign 88 = .ok (.ifCond .eq 5, 3) := D_153 (by decide +kernel)
theorem dX13_findSign_91 : decode cX13_findSign 91 = .ok (.iload_n 1, 1) := D_27 (by decide +kernel)
theorem dX13_findSign_92 : decode cX13_findSign 92 = .ok (.ireturn, 1) := D_172 (by decide +kernel)
theorem dX13_findSign_93 : decode cX13_findSign 93 = .ok (.iinc 1 1, 3) := by decide +kernel
theorem dX13_findSign_96 : decode cX13_findSign 96 = .ok (.goto (-94), 3) := D_167 (by decide +kernel)
theorem dX13_findSign_99 : decode cX13_findSign 99 = .ok (.iconst (-1), 1) := D_2 (by decide +kernel)
theorem dX13_findSign_100 : decode cX13_findSign 100 = .ok (.ireturn, 1) := D_172 (by decide +kernel)
theorem kSX13_findSign : yX13_findSign.cls ≠ "java/lang/invoke/MethodHandle" ∧ yX13_findSign.cls ≠ "java/lang/invoke/VarHandle" ∧ (parseMethodDescriptor yX13_findSign.desc).map (fun d => d.parameters.length) = some 0 := by decide +kernel
theorem kVX13_findSign : yX13_findSign.cls = RX13 ∧ yX13_findSign.cls ≠ "java/lang/invoke/MethodHandle" ∧ yX13_findSign.cls ≠ "java/lang/invoke/VarHandle" ∧ (parseMethodDescriptor yX13_findSign.desc).map (fun d => d.parameters.length) = some 0 := ⟨rfl, kSX13_findSign⟩
theorem dX13_name_0 : decode cX13_name 0 = .ok (.aload_n 0, 1) := D_42 (by decide +kernel)
theorem dX13_name_1 : decode cX13_name 1 = .ok (.getfield 277, 3) := D_180 (by decide +kernel)
theorem dX13_name_4 : decode cX13_name 4 = .ok (.iconst 1, 1) := D_4 (by decide +kernel)
theorem dX13_name_5 : decode cX13_name 5 = .ok (.if_icmp .ne 10, 3) := D_160 (by decide +kernel)
theorem dX13_name_8 : decode cX13_name 8 = .ok (.aload_n 0, 1) := D_42 (by decide +kernel)
theorem dX13_name_9 : decode cX13_name 9 = .ok (.invokevirtual 341, 3) := D_182 (by decide +kernel)
theorem dX13_name_12 : decode cX13_name 12 = .ok (.ifCond .eq 13, 3) := D_153 (by decide +kernel)
theorem dX13_name_15 : decode cX13_name 15 = .ok (.aload_n 0, 1) := D_42 (by decide +kernel)
theorem dX13_name_16 : decode cX13_name 16 = .ok (.iconst 1, 1) := D_4 (by decide +kernel)
theorem dX13_name_17 : decode cX13_name 17 = .ok (.aload_n 0, 1) := D_42 (by decide +kernel)
theorem dX13_name_18 : decode cX13_name 18 = .ok (.getfield 271, 3) := D_180 (by decide +kernel)
theorem dX13_name_21 : decode cX13_name 21 = .ok (.invokevirtual 311, 3) := D_182 (by decide +kernel)
theorem dX13_name_24 : decode cX13_name 24 = .ok (.athrow, 1) := D_191 (by decide +kernel)
theorem dX13_name_25 : decode cX13_name 25 = .ok (.return_, 1) := D_177 (by decide +kernel)
theorem kSX13_name : yX13_name.cls ≠ "java/lang/invoke/MethodHandle" ∧ yX13_name.cls ≠ "java/lang/invoke/VarHandle" ∧ (parseMethodDescriptor yX13_name.desc).map (fun d => d.parameters.length) = some 0 := by decide +kernel
theorem kVX13_name : yX13_name.cls = RX13 ∧ yX13_name.cls ≠ "java/lang/invoke/MethodHandle" ∧ yX13_name.cls ≠ "java/lang/invoke/VarHandle" ∧ (parseMethodDescriptor yX13_name.desc).map (fun d => d.parameters.length) = some 0 := ⟨rfl, kSX13_name⟩
theorem dX13_counts_0 : decode cX13_counts 0 = .ok (.aload_n 0, 1) := D_42 (by decide +kernel)
theorem dX13_counts_1 : decode cX13_counts 1 = .ok (.getfield 192, 3) := D_180 (by decide +kernel)
theorem dX13_counts_4 : decode cX13_counts 4 = .ok (.aload_n 0, 1) := D_42 (by decide +kernel)
theorem dX13_counts_5 : decode cX13_counts 5 = .ok (.getfield 345, 3) := D_180 (by decide +kernel)
theorem dX13_counts_8 : decode cX13_counts 8 = .ok (.iadd, 1) := D_96 (by decide +kernel)
theorem dX13_counts_9 : decode cX13_counts 9 = .ok (.sipush 300, 3) := D_17 (by decide +kernel)
theorem dX13_counts_12 : decode cX13_counts 12 = .ok (.if_icmp .ne 13, 3) := D_160 (by decide +kernel)
theorem dX13_counts_15 : decode cX13_counts 15 = .ok (.aload_n 0, 1) := D_42 (by decide +kernel)
theorem dX13_counts_16 : decode cX13_counts 16 = .ok (.iconst 3, 1) := D_6 (by decide +kernel)
theorem dX13_counts_17 : decode cX13_counts 17 = .ok (.aload_n 0, 1) := D_42 (by decide +kernel)
theorem dX13_counts_18 : decode cX13_counts 18 = .ok (.getfield 271, 3) := D_180 (by decide +kernel)
theorem dX13_counts_21 : decode cX13_counts 21 = .ok (.invokevirtual 311, 3) := D_182 (by decide +kernel)
theorem dX13_counts_24 : decode cX13_counts 24 = .ok (.athrow, 1) := D_191 (by decide +kernel)
theorem dX13_counts_25 : decode cX13_counts 25 = .ok (.return_, 1) := D_177 (by decide +kernel)
theorem kSX13_counts : yX13_counts.cls ≠ "java/lang/invoke/MethodHandle" ∧ yX13_counts.cls ≠ "java/lang/invoke/VarHandle" ∧ (parseMethodDescriptor yX13_counts.desc).map (fun d => d.parameters.length) = some 0 := by decide +kernel
theorem kVX13_counts : yX13_counts.cls = RX13 ∧ yX13_counts.cls ≠ "java/lang/invoke/MethodHandle" ∧ yX13_counts.cls ≠ "java/lang/invoke/VarHandle" ∧ (parseMethodDescriptor yX13_counts.desc).map (fun d => d.parameters.length) = some 0 := ⟨rfl, kSX13_counts⟩
theorem dX13_put_0 : decode cX13_put 0 = .ok (.aload_n 0, 1) := D_42 (by decide +kernel)
theorem dX13_put_1 : decode cX13_put 1 = .ok (.getfield 96, 3) := D_180 (by decide +kernel)
theorem dX13_put_4 : decode cX13_put 4 = .ok (.aload_n 0, 1) := D_42 (by decide +kernel)
theorem dX13_put_5 : decode cX13_put 5 = .ok (.getfield 192, 3) := D_180 (by decide +kernel)
theorem dX13_put_8 : decode cX13_put 8 = .ok (.iload_n 1, 1) := D_27 (by decide +kernel)
theorem dX13_put_9 : decode cX13_put 9 = .ok (.iastore, 1) := D_79 (by decide +kernel)
theorem dX13_put_10 : decode cX13_put 10 = .ok (.aload_n 0, 1) := D_42 (by decide +kernel)
theorem dX13_put_11 : decode cX13_put 11 = .ok (.getfield 99, 3) := D_180 (by decide +kernel)
theorem dX13_put_14 : decode cX13_put 14 = .ok (.aload_n 0, 1) := D_42 (by decide +kernel)
theorem dX13_put_15 : decode cX13_put 15 = .ok (.getfield 192, 3) := D_180 (by decide +kernel)
theorem dX13_put_18 : decode cX13_put 18 = .ok (.iload_n 2, 1) := D_28 (by decide +kernel)
theorem dX13_put_19 : decode cX13_put 19 = .ok (.iastore, 1) := D_79 (by decide +kernel)
theorem dX13_put_20 : decode cX13_put 20 = .ok (.aload_n 0, 1) := D_42 (by decide +kernel)
theorem dX13_put_21 : decode cX13_put 21 = .ok (.dup, 1) := D_89 (by decide +kernel)
theorem dX13_put_22 : decode cX13_put 22 = .ok (.getfield 192, 3) := D_180 (by decide +kernel)
theorem dX13_put_25 : decode cX13_put 25 = .ok (.iconst 1, 1) := D_4 (by decide +kernel)
theorem dX13_put_26 : decode cX13_put 26 = .ok (.iadd, 1) := D_96 (by decide +kernel)
theorem dX13_put_27 : decode cX13_put 27 = .ok (.putfield 192, 3) := D_181 (by decide +kernel)
theorem dX13_put_30 : decode cX13_put 30 = .ok (.return_, 1) := D_177 (by decide +kernel)
theorem kSX13_put : yX13_put.cls ≠ "java/lang/invoke/MethodHandle" ∧ yX13_put.cls ≠ "java/lang/invoke/VarHandle" ∧ (parseMethodDescriptor yX13_put.desc).map (fun d => d.parameters.length) = some 2 := by decide +kernel
theorem kVX13_put : yX13_put.cls = RX13 ∧ yX13_put.cls ≠ "java/lang/invoke/MethodHandle" ∧ yX13_put.cls ≠ "java/lang/invoke/VarHandle" ∧ (parseMethodDescriptor yX13_put.desc).map (fun d => d.parameters.length) = some 2 := ⟨rfl, kSX13_put⟩
theorem dX13_hold_0 : decode cX13_hold 0 = .ok (.aload_n 0, 1) := D_42 (by decide +kernel)
theorem dX13_hold_1 : decode cX13_hold 1 = .ok (.invokevirtual 369, 3) := D_182 (by decide +kernel)
theorem dX13_hold_4 : decode cX13_hold 4 = .ok (.aload_n 0, 1) := D_42 (by decide +kernel)
theorem dX13_hold_5 : decode cX13_hold 5 = .ok (.dup, 1) := D_89 (by decide +kernel)
theorem dX13_hold_6 : decode cX13_hold 6 = .ok (.getfield 345, 3) := D_180 (by decide +kernel)
theorem dX13_hold_9 : decode cX13_hold 9 = .ok (.iconst 1, 1) := D_4 (by decide +kernel)
theorem dX13_hold_10 : decode cX13_hold 10 = .ok (.iadd, 1) := D_96 (by decide +kernel)
theorem dX13_hold_11 : decode cX13_hold 11 = .ok (.putfield 345, 3) := D_181 (by decide +kernel)
theorem dX13_hold_14 : decode cX13_hold 14 = .ok (.return_, 1) := D_177 (by decide +kernel)
theorem kSX13_hold : yX13_hold.cls ≠ "java/lang/invoke/MethodHandle" ∧ yX13_hold.cls ≠ "java/lang/invoke/VarHandle" ∧ (parseMethodDescriptor yX13_hold.desc).map (fun d => d.parameters.length) = some 0 := by decide +kernel
theorem kVX13_hold : yX13_hold.cls = RX13 ∧ yX13_hold.cls ≠ "java/lang/invoke/MethodHandle" ∧ yX13_hold.cls ≠ "java/lang/invoke/VarHandle" ∧ (parseMethodDescriptor yX13_hold.desc).map (fun d => d.parameters.length) = some 0 := ⟨rfl, kSX13_hold⟩
theorem dX13_release_0 : decode cX13_release 0 = .ok (.aload_n 0, 1) := D_42 (by decide +kernel)
theorem dX13_release_1 : decode cX13_release 1 = .ok (.dup, 1) := D_89 (by decide +kernel)
theorem dX13_release_2 : decode cX13_release 2 = .ok (.getfield 345, 3) := D_180 (by decide +kernel)
theorem dX13_release_5 : decode cX13_release 5 = .ok (.iconst 1, 1) := D_4 (by decide +kernel)
theorem dX13_release_6 : decode cX13_release 6 = .ok (.isub, 1) := D_100 (by decide +kernel)
theorem dX13_release_7 : decode cX13_release 7 = .ok (.putfield 345, 3) := D_181 (by decide +kernel)
theorem dX13_release_10 : decode cX13_release 10 = .ok (.aload_n 0, 1) := D_42 (by decide +kernel)
theorem dX13_release_11 : decode cX13_release 11 = .ok (.iload_n 1, 1) := D_27 (by decide +kernel)
theorem dX13_release_12 : decode cX13_release 12 = .ok (.iconst 0, 1) := D_3 (by decide +kernel)
theorem dX13_release_13 : decode cX13_release 13 = .ok (.invokevirtual 372, 3) := D_182 (by decide +kernel)
theorem dX13_release_16 : decode cX13_release 16 = .ok (.return_, 1) := D_177 (by decide +kernel)
theorem kSX13_release : yX13_release.cls ≠ "java/lang/invoke/MethodHandle" ∧ yX13_release.cls ≠ "java/lang/invoke/VarHandle" ∧ (parseMethodDescriptor yX13_release.desc).map (fun d => d.parameters.length) = some 1 := by decide +kernel
theorem kVX13_release : yX13_release.cls = RX13 ∧ yX13_release.cls ≠ "java/lang/invoke/MethodHandle" ∧ yX13_release.cls ≠ "java/lang/invoke/VarHandle" ∧ (parseMethodDescriptor yX13_release.desc).map (fun d => d.parameters.length) = some 1 := ⟨rfl, kSX13_release⟩
theorem dX13_readOr_0 : decode cX13_readOr 0 = .ok (.aload_n 0, 1) := D_42 (by decide +kernel)
theorem dX13_readOr_1 : decode cX13_readOr 1 = .ok (.invokevirtual 376, 3) := D_182 (by decide +kernel)
theorem dX13_readOr_4 : decode cX13_readOr 4 = .ok (.aload_n 0, 1) := D_42 (by decide +kernel)
theorem dX13_readOr_5 : decode cX13_readOr 5 = .ok (.ldc_w 326, 3) := D_19 (by decide +kernel)
theorem dX13_readOr_8 : decode cX13_readOr 8 = .ok (.invokevirtual 308, 3) := D_182 (by decide +kernel)
theorem dX13_readOr_11 : decode cX13_readOr 11 = .ok (.ifCond .eq 24, 3) := D_153 (by decide +kernel)
theorem dX13_readOr_14 : decode cX13_readOr 14 = .ok (.aload_n 0, 1) := D_42 (by decide +kernel)
theorem dX13_readOr_15 : decode cX13_readOr 15 = .ok (.invokevirtual 379, 3) := D_182 (by decide +kernel)
theorem dX13_readOr_18 : decode cX13_readOr 18 = .ok (.aload_n 0, 1) := D_42 (by decide +kernel)
theorem dX13_readOr_19 : decode cX13_readOr 19 = .ok (.invokevirtual 315, 3) := D_182 (by decide +kernel)
theorem dX13_readOr_22 : decode cX13_readOr 22 = .ok (.aload_n 0, 1) := D_42 (by decide +kernel)
theorem dX13_readOr_23 : decode cX13_readOr 23 = .ok (.invokevirtual 376, 3) := D_182 (by decide +kernel)
theorem dX13_readOr_26 : decode cX13_readOr 26 = .ok (.aload_n 0, 1) := D_42 (by decide +kernel)
theorem dX13_readOr_27 : decode cX13_readOr 27 = .ok (.bipush 16, 2) := D_16 (by decide +kernel)
theorem dX13_readOr_29 : decode cX13_readOr 29 = .ok (.invokevirtual 382, 3) := D_182 (by decide +kernel)
theorem dX13_readOr_32 : decode cX13_readOr 32 = .ok (.goto (-28), 3) := D_167 (by decide +kernel)
theorem dX13_readOr_35 : decode cX13_readOr 35 = .ok (.return_, 1) := D_177 (by decide +kernel)
theorem kSX13_readOr : yX13_readOr.cls ≠ "java/lang/invoke/MethodHandle" ∧ yX13_readOr.cls ≠ "java/lang/invoke/VarHandle" ∧ (parseMethodDescriptor yX13_readOr.desc).map (fun d => d.parameters.length) = some 0 := by decide +kernel
theorem kVX13_readOr : yX13_readOr.cls = RX13 ∧ yX13_readOr.cls ≠ "java/lang/invoke/MethodHandle" ∧ yX13_readOr.cls ≠ "java/lang/invoke/VarHandle" ∧ (parseMethodDescriptor yX13_readOr.desc).map (fun d => d.parameters.length) = some 0 := ⟨rfl, kSX13_readOr⟩
theorem dX13_readAnd_0 : decode cX13_readAnd 0 = .ok (.aload_n 0, 1) := D_42 (by decide +kernel)
theorem dX13_readAnd_1 : decode cX13_readAnd 1 = .ok (.invokevirtual 386, 3) := D_182 (by decide +kernel)
theorem dX13_readAnd_4 : decode cX13_readAnd 4 = .ok (.aload_n 0, 1) := D_42 (by decide +kernel)
theorem dX13_readAnd_5 : decode cX13_readAnd 5 = .ok (.ldc_w 328, 3) := D_19 (by decide +kernel)
theorem dX13_readAnd_8 : decode cX13_readAnd 8 = .ok (.invokevirtual 308, 3) := D_182 (by decide +kernel)
theorem dX13_readAnd_11 : decode cX13_readAnd 11 = .ok (.ifCond .eq 24, 3) := D_153 (by decide +kernel)
theorem dX13_readAnd_14 : decode cX13_readAnd 14 = .ok (.aload_n 0, 1) := D_42 (by decide +kernel)
theorem dX13_readAnd_15 : decode cX13_readAnd 15 = .ok (.invokevirtual 379, 3) := D_182 (by decide +kernel)
theorem dX13_readAnd_18 : decode cX13_readAnd 18 = .ok (.aload_n 0, 1) := D_42 (by decide +kernel)
theorem dX13_readAnd_19 : decode cX13_readAnd 19 = .ok (.invokevirtual 315, 3) := D_182 (by decide +kernel)
theorem dX13_readAnd_22 : decode cX13_readAnd 22 = .ok (.aload_n 0, 1) := D_42 (by decide +kernel)
theorem dX13_readAnd_23 : decode cX13_readAnd 23 = .ok (.invokevirtual 386, 3) := D_182 (by decide +kernel)
theorem dX13_readAnd_26 : decode cX13_readAnd 26 = .ok (.aload_n 0, 1) := D_42 (by decide +kernel)
theorem dX13_readAnd_27 : decode cX13_readAnd 27 = .ok (.bipush 15, 2) := D_16 (by decide +kernel)
theorem dX13_readAnd_29 : decode cX13_readAnd 29 = .ok (.invokevirtual 382, 3) := D_182 (by decide +kernel)
theorem dX13_readAnd_32 : decode cX13_readAnd 32 = .ok (.goto (-28), 3) := D_167 (by decide +kernel)
theorem dX13_readAnd_35 : decode cX13_readAnd 35 = .ok (.return_, 1) := D_177 (by decide +kernel)
theorem kSX13_readAnd : yX13_readAnd.cls ≠ "java/lang/invoke/MethodHandle" ∧ yX13_readAnd.cls ≠ "java/lang/invoke/VarHandle" ∧ (parseMethodDescriptor yX13_readAnd.desc).map (fun d => d.parameters.length) = some 0 := by decide +kernel
theorem kVX13_readAnd : yX13_readAnd.cls = RX13 ∧ yX13_readAnd.cls ≠ "java/lang/invoke/MethodHandle" ∧ yX13_readAnd.cls ≠ "java/lang/invoke/VarHandle" ∧ (parseMethodDescriptor yX13_readAnd.desc).map (fun d => d.parameters.length) = some 0 := ⟨rfl, kSX13_readAnd⟩
theorem dX13_opens_0 : decode cX13_opens 0 = .ok (.aload_n 0, 1) := D_42 (by decide +kernel)
theorem dX13_opens_1 : decode cX13_opens 1 = .ok (.getfield 363, 3) := D_180 (by decide +kernel)
theorem dX13_opens_4 : decode cX13_opens 4 = .ok (.bipush 8, 2) := D_16 (by decide +kernel)
theorem dX13_opens_6 : decode cX13_opens 6 = .ok (.if_icmp .ne 13, 3) := D_160 (by decide +kernel)
theorem dX13_opens_9 : decode cX13_opens 9 = .ok (.aload_n 0, 1) := D_42 (by decide +kernel)
theorem dX13_opens_10 : decode cX13_opens 10 = .ok (.iconst 3, 1) := D_6 (by decide +kernel)
theorem dX13_opens_11 : decode cX13_opens 11 = .ok (.aload_n 0, 1) := D_42 (by decide +kernel)
theorem dX13_opens_12 : decode cX13_opens 12 = .ok (.getfield 271, 3) := D_180 (by decide +kernel)
theorem dX13_opens_15 : decode cX13_opens 15 = .ok (.invokevirtual 311, 3) := D_182 (by decide +kernel)
theorem dX13_opens_18 : decode cX13_opens 18 = .ok (.athrow, 1) := D_191 (by decide +kernel)
theorem dX13_opens_19 : decode cX13_opens 19 = .ok (.aload_n 0, 1) := D_42 (by decide +kernel)
theorem dX13_opens_20 : decode cX13_opens 20 = .ok (.dup, 1) := D_89 (by decide +kernel)
theorem dX13_opens_21 : decode cX13_opens 21 = .ok (.getfield 363, 3) := D_180 (by decide +kernel)
theorem dX13_opens_24 : decode cX13_opens 24 = .ok (.iconst 1, 1) := D_4 (by decide +kernel)
theorem dX13_opens_25 : decode cX13_opens 25 = .ok (.iadd, 1) := D_96 (by decide +kernel)
theorem dX13_opens_26 : decode cX13_opens 26 = .ok (.putfield 363, 3) := D_181 (by decide +kernel)
theorem dX13_opens_29 : decode cX13_opens 29 = .ok (.aload_n 0, 1) := D_42 (by decide +kernel)
theorem dX13_opens_30 : decode cX13_opens 30 = .ok (.invokevirtual 315, 3) := D_182 (by decide +kernel)
theorem dX13_opens_33 : decode cX13_opens 33 = .ok (.return_, 1) := D_177 (by decide +kernel)
theorem kSX13_opens : yX13_opens.cls ≠ "java/lang/invoke/MethodHandle" ∧ yX13_opens.cls ≠ "java/lang/invoke/VarHandle" ∧ (parseMethodDescriptor yX13_opens.desc).map (fun d => d.parameters.length) = some 0 := by decide +kernel
theorem kVX13_opens : yX13_opens.cls = RX13 ∧ yX13_opens.cls ≠ "java/lang/invoke/MethodHandle" ∧ yX13_opens.cls ≠ "java/lang/invoke/VarHandle" ∧ (parseMethodDescriptor yX13_opens.desc).map (fun d => d.parameters.length) = some 0 := ⟨rfl, kSX13_opens⟩
theorem dX13_readNot_0 : decode cX13_readNot 0 = .ok (.aload_n 0, 1) := D_42 (by decide +kernel)
theorem dX13_readNot_1 : decode cX13_readNot 1 = .ok (.ldc_w 330, 3) := D_19 (by decide +kernel)
theorem dX13_readNot_4 : decode cX13_readNot 4 = .ok (.invokevirtual 308, 3) := D_182 (by decide +kernel)
theorem dX13_readNot_7 : decode cX13_readNot 7 = .ok (.ifCond .eq 42, 3) := D_153 (by decide +kernel)
theorem dX13_readNot_10 : decode cX13_readNot 10 = .ok (.aload_n 0, 1) := D_42 (by decide +kernel)
theorem dX13_readNot_11 : decode cX13_readNot 11 = .ok (.invokevirtual 369, 3) := D_182 (by decide +kernel)
theorem dX13_readNot_14 : decode cX13_readNot 14 = .ok (.aload_n 0, 1) := D_42 (by decide +kernel)
theorem dX13_readNot_15 : decode cX13_readNot 15 = .ok (.dup, 1) := D_89 (by decide +kernel)
theorem dX13_readNot_16 : decode cX13_readNot 16 = .ok (.getfield 345, 3) := D_180 (by decide +kernel)
theorem dX13_readNot_19 : decode cX13_readNot 19 = .ok (.iconst 1, 1) := D_4 (by decide +kernel)
theorem dX13_readNot_20 : decode cX13_readNot 20 = .ok (.iadd, 1) := D_96 (by decide +kernel)
theorem dX13_readNot_21 : decode cX13_readNot 21 = .ok (.putfield 345, 3) := D_181 (by decide +kernel)
theorem dX13_readNot_24 : decode cX13_readNot 24 = .ok (.aload_n 0, 1) := D_42 (by decide +kernel)
theorem dX13_readNot_25 : decode cX13_readNot 25 = .ok (.invokevirtual 389, 3) := D_182 (by decide +kernel)
theorem dX13_readNot_28 : decode cX13_readNot 28 = .ok (.aload_n 0, 1) := D_42 (by decide +kernel)
theorem dX13_readNot_29 : decode cX13_readNot 29 = .ok (.invokevirtual 386, 3) := D_182 (by decide +kernel)
theorem dX13_readNot_32 : decode cX13_readNot 32 = .ok (.aload_n 0, 1) := D_42 (by decide +kernel)
theorem dX13_readNot_33 : decode cX13_readNot 33 = .ok (.dup, 1) := D_89 (by decide +kernel)
theorem dX13_readNot_34 : decode cX13_readNot 34 = .ok (.getfield 363, 3) := D_180 (by decide +kernel)
theorem dX13_readNot_37 : decode cX13_readNot 37 = .ok (.iconst 1, 1) := D_4 (by decide +kernel)
theorem dX13_readNot_38 : decode cX13_readNot 38 = .ok (.isub, 1) := D_100 (by decide +kernel)
theorem dX13_readNot_39 : decode cX13_readNot 39 = .ok (.putfield 363, 3) := D_181 (by decide +kernel)
theorem dX13_readNot_42 : decode cX13_readNot 42 = .ok (.aload_n 0, 1) := D_42 (by decide +kernel)
theorem dX13_readNot_43 : decode cX13_readNot 43 = .ok (.bipush 6, 2) := D_16 (by decide +kernel)
theorem dX13_readNot_45 : decode cX13_readNot 45 = .ok (.invokevirtual 382, 3) := D_182 (by decide +kernel)
theorem dX13_readNot_48 : decode cX13_readNot 48 = .ok (.return_, 1) := D_177 (by decide +kernel)
theorem dX13_readNot_49 : decode cX13_readNot 49 = .ok (.aload_n 0, 1) := D_42 (by decide +kernel)
theorem dX13_readNot_50 : decode cX13_readNot 50 = .ok (.ldc_w 392, 3) := D_19 (by decide +kernel)
theorem dX13_readNot_53 : decode cX13_readNot 53 = .ok (.invokevirtual 308, 3) := D_182 (by decide +kernel)
theorem dX13_readNot_56 : decode cX13_readNot 56 = .ok (.ifCond .eq 29, 3) := D_153 (by decide +kernel)
theorem dX13_readNot_59 : decode cX13_readNot 59 = .ok (.aload_n 0, 1) := D_42 (by decide +kernel)
theorem dX13_readNot_60 : decode cX13_readNot 60 = .ok (.invokevirtual 389, 3) := D_182 (by decide +kernel)
theorem dX13_readNot_63 : decode cX13_readNot 63 = .ok (.aload_n 0, 1) := D_42 (by decide +kernel)
theorem dX13_readNot_64 : decode cX13_readNot 64 = .ok (.invokevirtual 366, 3) := D_182 (by decide +kernel)
theorem dX13_readNot_67 : decode cX13_readNot 67 = .ok (.aload_n 0, 1) := D_42 (by decide +kernel)
theorem dX13_readNot_68 : decode cX13_readNot 68 = .ok (.ldc_w 394, 3) := D_19 (by decide +kernel)
theorem dX13_readNot_71 : decode cX13_readNot 71 = .ok (.invokevirtual 348, 3) := D_182 (by decide +kernel)
theorem dX13_readNot_74 : decode cX13_readNot 74 = .ok (.aload_n 0, 1) := D_42 (by decide +kernel)
theorem dX13_readNot_75 : decode cX13_readNot 75 = .ok (.dup, 1) := D_89 (by decide +kernel)
theorem dX13_readNot_76 : decode cX13_readNot 76 = .ok (.getfield 363, 3) := D_180 (by decide +kernel)
theorem dX13_readNot_79 : decode cX13_readNot 79 = .ok (.iconst 1, 1) := D_4 (by decide +kernel)
theorem dX13_readNot_80 : decode cX13_readNot 80 = .ok (.isub, 1) := D_100 (by decide +kernel)
theorem dX13_readNot_81 : decode cX13_readNot 81 = .ok (.putfield 363, 3) := D_181 (by decide +kernel)
theorem dX13_readNot_84 : decode cX13_readNot 84 = .ok (.return_, 1) := D_177 (by decide +kernel)
theorem dX13_readNot_85 : decode cX13_readNot 85 = .ok (.aload_n 0, 1) := D_42 (by decide +kernel)
theorem dX13_readNot_86 : decode cX13_readNot 86 = .ok (.ldc_w 332, 3) := D_19 (by decide +kernel)
theorem dX13_readNot_89 : decode cX13_readNot 89 = .ok (.invokevirtual 308, 3) := D_182 (by decide +kernel)
theorem dX13_readNot_92 : decode cX13_readNot 92 = .ok (.ifCond .ne 13, 3) := D_154 (by decide +kernel)
theorem dX13_readNot_95 : decode cX13_readNot 95 = .ok (.aload_n 0, 1) := D_42 (by decide +kernel)
theorem dX13_readNot_96 : decode cX13_readNot 96 = .ok (.ldc_w 334, 3) := D_19 (by decide +kernel)
theorem dX13_readNot_99 : decode cX13_readNot 99 = .ok (.invokevirtual 308, 3) := D_182 (by decide +kernel)
theorem dX13_readNot_102 : decode cX13_readNot 102 = .ok (.ifCond .eq 32, 3) := D_153 (by decide +kernel)
theorem dX13_readNot_105 : decode cX13_readNot 105 = .ok (.aload_n 0, 1) := D_42 (by decide +kernel)
theorem dX13_readNot_106 : decode cX13_readNot 106 = .ok (.invokevirtual 369, 3) := D_182 (by decide +kernel)
theorem dX13_readNot_109 : decode cX13_readNot 109 = .ok (.aload_n 0, 1) := D_42 (by decide +kernel)
theorem dX13_readNot_110 : decode cX13_readNot 110 = .ok (.aload_n 0, 1) := D_42 (by decide +kernel)
theorem dX13_readNot_111 : decode cX13_readNot 111 = .ok (.ldc_w 332, 3) := D_19 (by decide +kernel)
theorem dX13_readNot_114 : decode cX13_readNot 114 = .ok (.invokevirtual 308, 3) := D_182 (by decide +kernel)
theorem dX13_readNot_117 : decode cX13_readNot 117 = .ok (.ifCond .eq 7, 3) := D_153 (by decide +kernel)
theorem dX13_readNot_120 : decode cX13_readNot 120 = .ok (.iconst 4, 1) := D_7 (by decide +kernel)
theorem dX13_readNot_121 : decode cX13_readNot 121 = .ok (.goto 4, 3) := D_167 (by decide +kernel)
theorem dX13_readNot_124 : decode cX13_readNot 124 = .ok (.iconst 5, 1) := D_8 (by decide +kernel)
theorem dX13_readNot_125 : decode cX13_readNot 125 = .ok (.iconst 0, 1) := D_3 (by decide +kernel)
theorem dX13_readNot_126 : decode cX13_readNot 126 = .ok (.invokevirtual 372, 3) := D_182 (by decide +kernel)
theorem dX13_readNot_129 : decode cX13_readNot 129 = .ok (.aload_n 0, 1) := D_42 (by decide +kernel)
theorem dX13_readNot_130 : decode cX13_readNot 130 = .ok (.invokevirtual 315, 3) := D_182 (by decide +kernel)
theorem dX13_readNot_133 : decode cX13_readNot 133 = .ok (.return_, 1) := D_177 (by decide +kernel)
theorem dX13_readNot_134 : decode cX13_readNot 134 = .ok (.aload_n 0, 1) := D_42 (by decide +kernel)
theorem dX13_readNot_135 : decode cX13_readNot 135 = .ok (.invokevirtual 396, 3) := D_182 (by decide +kernel)
theorem dX13_readNot_138 : decode cX13_readNot 138 = .ok (.aload_n 0, 1) := D_42 (by decide +kernel)
theorem dX13_readNot_139 : decode cX13_readNot 139 = .ok (.ldc_w 399, 3) := D_19 (by decide +kernel)
theorem dX13_readNot_142 : decode cX13_readNot 142 = .ok (.invokevirtual 308, 3) := D_182 (by decide +kernel)
theorem dX13_readNot_145 : decode cX13_readNot 145 = .ok (.ifCond .eq 8, 3) := D_153 (by decide +kernel)
theorem dX13_readNot_148 : decode cX13_readNot 148 = .ok (.bipush 9, 2) := D_16 (by decide +kernel)
theorem dX13_readNot_150 : decode cX13_readNot 150 = .ok (.goto 79, 3) := D_167 (by decide +kernel)
theorem dX13_readNot_153 : decode cX13_readNot 153 = .ok (.aload_n 0, 1) := D_42 (by decide +kernel)
theorem dX13_readNot_154 : decode cX13_readNot 154 = .ok (.ldc_w 401, 3) := D_19 (by decide +kernel)
theorem dX13_readNot_157 : decode cX13_readNot 157 = .ok (.invokevirtual 308, 3) := D_182 (by decide +kernel)
theorem dX13_readNot_160 : decode cX13_readNot 160 = .ok (.ifCond .eq 8, 3) := D_153 (by decide +kernel)
theorem dX13_readNot_163 : decode cX13_readNot 163 = .ok (.bipush 10, 2) := D_16 (by decide +kernel)
theorem dX13_readNot_165 : decode cX13_readNot 165 = .ok (.goto 64, 3) := D_167 (by decide +kernel)
theorem dX13_readNot_168 : decode cX13_readNot 168 = .ok (.aload_n 0, 1) := D_42 (by decide +kernel)
theorem dX13_readNot_169 : decode cX13_readNot 169 = .ok (.ldc_w 403, 3) := D_19 (by decide +kernel)
theorem dX13_readNot_172 : decode cX13_readNot 172 = .ok (.invokevirtual 308, 3) := D_182 (by decide +kernel)
theorem dX13_readNot_175 : decode cX13_readNot 175 = .ok (.ifCond .eq 8, 3) := D_153 (by decide +kernel)
theorem dX13_readNot_178 : decode cX13_readNot 178 = .ok (.bipush 11, 2) := D_16 (by decide +kernel)
theorem dX13_readNot_180 : decode cX13_readNot 180 = .ok (.goto 49, 3) := D_167 (by decide +kernel)
theorem dX13_readNot_183 : decode cX13_readNot 183 = .ok (.aload_n 0, 1) := D_42 (by decide +kernel)
theorem dX13_readNot_184 : decode cX13_readNot 184 = .ok (.ldc_w 405, 3) := D_19 (by decide +kernel)
theorem dX13_readNot_187 : decode cX13_readNot 187 = .ok (.invokevirtual 308, 3) := D_182 (by decide +kernel)
theorem dX13_readNot_190 : decode cX13_readNot 190 = .ok (.ifCond .eq 8, 3) := D_153 (by decide +kernel)
theorem dX13_readNot_193 : decode cX13_readNot 193 = .ok (.bipush 12, 2) := D_16 (by decide +kernel)
theorem dX13_readNot_195 : decode cX13_readNot 195 = .ok (.goto 34, 3) := D_167 (by decide +kernel)
theorem dX13_readNot_198 : decode cX13_readNot 198 = .ok (.aload_n 0, 1) := D_42 (by decide +kernel)
theorem dX13_readNot_199 : decode cX13_readNot 199 = .ok (.ldc_w 407, 3) := D_19 (by decide +kernel)
theorem dX13_readNot_202 : decode cX13_readNot 202 = .ok (.invokevirtual 308, 3) := D_182 (by decide +kernel)
theorem dX13_readNot_205 : decode cX13_readNot 205 = .ok (.ifCond .eq 8, 3) := D_153 (by decide +kernel)
theorem dX13_readNot_208 : decode cX13_readNot 208 = .ok (.bipush 13, 2) := D_16 (by decide +kernel)
theorem dX13_readNot_210 : decode cX13_readNot 210 = .ok (.goto 19, 3) := D_167 (by decide +kernel)
theorem dX13_readNot_213 : decode cX13_readNot 213 = .ok (.aload_n 0, 1) := D_42 (by decide +kernel)
theorem dX13_readNot_214 : decode cX13_readNot 214 = .ok (.ldc_w 409, 3) := D_19 (by decide +kernel)
theorem dX13_readNot_217 : decode cX13_readNot 217 = .ok (.invokevirtual 308, 3) := D_182 (by decide +kernel)
theorem dX13_readNot_220 : decode cX13_readNot 220 = .ok (.ifCond .eq 8, 3) := D_153 (by decide +kernel)
theorem dX13_readNot_223 : decode cX13_readNot 223 = .ok (.bipush 14, 2) := D_16 (by decide +kernel)
theorem dX13_readNot_225 : decode cX13_readNot 225 = .ok (.goto 4, 3) := D_167 (by decide +kernel)
theorem dX13_readNot_228 : decode cX13_readNot 228 = .ok (.iconst (-1), 1) := D_2 (by decide +kernel)
theorem dX13_readNot_229 : decode cX13_readNot 229 = .ok (.istore_n 1, 1) := D_60 (by decide +kernel)
theorem dX13_readNot_230 : decode cX13_readNot 230 = .ok (.iload_n 1, 1) := D_27 (by decide +kernel)
theorem dX13_readNot_231 : decode cX13_readNot 231 = .ok (.iconst (-1), 1) := D_2 (by decide +kernel)
theorem dX13_readNot_232 : decode cX13_readNot 232 = .ok (.if_icmp .ne 13, 3) := D_160 (by decide +kernel)
theorem dX13_readNot_235 : decode cX13_readNot 235 = .ok (.aload_n 0, 1) := D_42 (by decide +kernel)
theorem dX13_readNot_236 : decode cX13_readNot 236 = .ok (.iconst 1, 1) := D_4 (by decide +kernel)
theorem dX13_readNot_237 : decode cX13_readNot 237 = .ok (.aload_n 0, 1) := D_42 (by decide +kernel)
theorem dX13_readNot_238 : decode cX13_readNot 238 = .ok (.getfield 271, 3) := D_180 (by decide +kernel)
theorem dX13_readNot_241 : decode cX13_readNot 241 = .ok (.invokevirtual 311, 3) := D_182 (by decide +kernel)
theorem dX13_readNot_244 : decode cX13_readNot 244 = .ok (.athrow, 1) := D_191 (by decide +kernel)
theorem dX13_readNot_245 : decode cX13_readNot 245 = .ok (.aload_n 0, 1) := D_42 (by decide +kernel)
theorem dX13_readNot_246 : decode cX13_readNot 246 = .ok (.invokevirtual 379, 3) := D_182 (by decide +kernel)
theorem dX13_readNot_249 : decode cX13_readNot 249 = .ok (.aload_n 0, 1) := D_42 (by decide +kernel)
theorem dX13_readNot_250 : decode cX13_readNot 250 = .ok (.invokevirtual 315, 3) := D_182 (by decide +kernel)
theorem dX13_readNot_253 : decode cX13_readNot 253 = .ok (.aload_n 0, 1) := D_42 (by decide +kernel)
theorem dX13_readNot_254 : decode cX13_readNot 254 = .ok (.invokevirtual 396, 3) := D_182 (by decide +kernel)
theorem dX13_readNot_257 : decode cX13_readNot 257 = .ok (.aload_n 0, 1) := D_42 (by decide +kernel)
theorem dX13_readNot_258 : decode cX13_readNot 258 = .ok (.iload_n 1, 1) := D_27 (by decide +kernel)
theorem dX13_readNot_259 : decode cX13_readNot 259 = .ok (.invokevirtual 382, 3) := D_182 (by decide +kernel)
theorem dX13_readNot_262 : decode cX13_readNot 262 = .ok (.return_, 1) := D_177 (by decide +kernel)
theorem kSX13_readNot : yX13_readNot.cls ≠ "java/lang/invoke/MethodHandle" ∧ yX13_readNot.cls ≠ "java/lang/invoke/VarHandle" ∧ (parseMethodDescriptor yX13_readNot.desc).map (fun d => d.parameters.length) = some 0 := by decide +kernel
theorem kVX13_readNot : yX13_readNot.cls = RX13 ∧ yX13_readNot.cls ≠ "java/lang/invoke/MethodHandle" ∧ yX13_readNot.cls ≠ "java/lang/invoke/VarHandle" ∧ (parseMethodDescriptor yX13_readNot.desc).map (fun d => d.parameters.length) = some 0 := ⟨rfl, kSX13_readNot⟩
theorem dX13_readSum_0 : decode cX13_readSum 0 = .ok (.aload_n 0, 1) := D_42 (by decide +kernel)
theorem dX13_readSum_1 : decode cX13_readSum 1 = .ok (.invokevirtual 411, 3) := D_182 (by decide +kernel)
theorem dX13_readSum_4 : decode cX13_readSum 4 = .ok (.aload_n 0, 1) := D_42 (by decide +kernel)
theorem dX13_readSum_5 : decode cX13_readSum 5 = .ok (.ldc_w 414, 3) := D_19 (by decide +kernel)
theorem dX13_readSum_8 : decode cX13_readSum 8 = .ok (.invokevirtual 308, 3) := D_182 (by decide +kernel)
theorem dX13_readSum_11 : decode cX13_readSum 11 = .ok (.ifCond .ne 13, 3) := D_154 (by decide +kernel)
theorem dX13_readSum_14 : decode cX13_readSum 14 = .ok (.aload_n 0, 1) := D_42 (by decide +kernel)
theorem dX13_readSum_15 : decode cX13_readSum 15 = .ok (.ldc_w 416, 3) := D_19 (by decide +kernel)
theorem dX13_readSum_18 : decode cX13_readSum 18 = .ok (.invokevirtual 308, 3) := D_182 (by decide +kernel)
theorem dX13_readSum_21 : decode cX13_readSum 21 = .ok (.ifCond .eq 41, 3) := D_153 (by decide +kernel)
theorem dX13_readSum_24 : decode cX13_readSum 24 = .ok (.aload_n 0, 1) := D_42 (by decide +kernel)
theorem dX13_readSum_25 : decode cX13_readSum 25 = .ok (.ldc_w 414, 3) := D_19 (by decide +kernel)
theorem dX13_readSum_28 : decode cX13_readSum 28 = .ok (.invokevirtual 308, 3) := D_182 (by decide +kernel)
theorem dX13_readSum_31 : decode cX13_readSum 31 = .ok (.ifCond .eq 8, 3) := D_153 (by decide +kernel)
theorem dX13_readSum_34 : decode cX13_readSum 34 = .ok (.bipush 7, 2) := D_16 (by decide +kernel)
theorem dX13_readSum_36 : decode cX13_readSum 36 = .ok (.goto 5, 3) := D_167 (by decide +kernel)
theorem dX13_readSum_39 : decode cX13_readSum 39 = .ok (.bipush 8, 2) := D_16 (by decide +kernel)
theorem dX13_readSum_41 : decode cX13_readSum 41 = .ok (.istore_n 1, 1) := D_60 (by decide +kernel)
theorem dX13_readSum_42 : decode cX13_readSum 42 = .ok (.aload_n 0, 1) := D_42 (by decide +kernel)
theorem dX13_readSum_43 : decode cX13_readSum 43 = .ok (.invokevirtual 379, 3) := D_182 (by decide +kernel)
theorem dX13_readSum_46 : decode cX13_readSum 46 = .ok (.aload_n 0, 1) := D_42 (by decide +kernel)
theorem dX13_readSum_47 : decode cX13_readSum 47 = .ok (.invokevirtual 315, 3) := D_182 (by decide +kernel)
theorem dX13_readSum_50 : decode cX13_readSum 50 = .ok (.aload_n 0, 1) := D_42 (by decide +kernel)
theorem dX13_readSum_51 : decode cX13_readSum 51 = .ok (.invokevirtual 411, 3) := D_182 (by decide +kernel)
theorem dX13_readSum_54 : decode cX13_readSum 54 = .ok (.aload_n 0, 1) := D_42 (by decide +kernel)
theorem dX13_readSum_55 : decode cX13_readSum 55 = .ok (.iload_n 1, 1) := D_27 (by decide +kernel)
theorem dX13_readSum_56 : decode cX13_readSum 56 = .ok (.invokevirtual 382, 3) := D_182 (by decide +kernel)
theorem dX13_readSum_59 : decode cX13_readSum 59 = .ok (.goto (-55), 3) := D_167 (by decide +kernel)
theorem dX13_readSum_62 : decode cX13_readSum 62 = .ok (.return_, 1) := D_177 (by decide +kernel)
theorem kSX13_readSum : yX13_readSum.cls ≠ "java/lang/invoke/MethodHandle" ∧ yX13_readSum.cls ≠ "java/lang/invoke/VarHandle" ∧ (parseMethodDescriptor yX13_readSum.desc).map (fun d => d.parameters.length) = some 0 := by decide +kernel
theorem kVX13_readSum : yX13_readSum.cls = RX13 ∧ yX13_readSum.cls ≠ "java/lang/invoke/MethodHandle" ∧ yX13_readSum.cls ≠ "java/lang/invoke/VarHandle" ∧ (parseMethodDescriptor yX13_readSum.desc).map (fun d => d.parameters.length) = some 0 := ⟨rfl, kSX13_readSum⟩
theorem dX13_readTerm_0 : decode cX13_readTerm 0 = .ok (.aload_n 0, 1) := D_42 (by decide +kernel)
theorem dX13_readTerm_1 : decode cX13_readTerm 1 = .ok (.getfield 277, 3) := D_180 (by decide +kernel)
theorem dX13_readTerm_4 : decode cX13_readTerm 4 = .ok (.iconst 2, 1) := D_5 (by decide +kernel)
theorem dX13_readTerm_5 : decode cX13_readTerm 5 = .ok (.if_icmp .ne 21, 3) := D_160 (by decide +kernel)
theorem dX13_readTerm_8 : decode cX13_readTerm 8 = .ok (.aload_n 0, 1) := D_42 (by decide +kernel)
theorem dX13_readTerm_9 : decode cX13_readTerm 9 = .ok (.invokevirtual 369, 3) := D_182 (by decide +kernel)
theorem dX13_readTerm_12 : decode cX13_readTerm 12 = .ok (.aload_n 0, 1) := D_42 (by decide +kernel)
theorem dX13_readTerm_13 : decode cX13_readTerm 13 = .ok (.iconst 0, 1) := D_3 (by decide +kernel)
theorem dX13_readTerm_14 : decode cX13_readTerm 14 = .ok (.aload_n 0, 1) := D_42 (by decide +kernel)
theorem dX13_readTerm_15 : decode cX13_readTerm 15 = .ok (.getfield 286, 3) := D_180 (by decide +kernel)
theorem dX13_readTerm_18 : decode cX13_readTerm 18 = .ok (.invokevirtual 372, 3) := D_182 (by decide +kernel)
theorem dX13_readTerm_21 : decode cX13_readTerm 21 = .ok (.aload_n 0, 1) := D_42 (by decide +kernel)
theorem dX13_readTerm_22 : decode cX13_readTerm 22 = .ok (.invokevirtual 315, 3) := D_182 (by decide +kernel)
theorem dX13_readTerm_25 : decode cX13_readTerm 25 = .ok (.return_, 1) := D_177 (by decide +kernel)
theorem dX13_readTerm_26 : decode cX13_readTerm 26 = .ok (.aload_n 0, 1) := D_42 (by decide +kernel)
theorem dX13_readTerm_27 : decode cX13_readTerm 27 = .ok (.ldc_w 340, 3) := D_19 (by decide +kernel)
theorem dX13_readTerm_30 : decode cX13_readTerm 30 = .ok (.invokevirtual 308, 3) := D_182 (by decide +kernel)
theorem dX13_readTerm_33 : decode cX13_readTerm 33 = .ok (.ifCond .eq 18, 3) := D_153 (by decide +kernel)
theorem dX13_readTerm_36 : decode cX13_readTerm 36 = .ok (.aload_n 0, 1) := D_42 (by decide +kernel)
theorem dX13_readTerm_37 : decode cX13_readTerm 37 = .ok (.invokevirtual 369, 3) := D_182 (by decide +kernel)
theorem dX13_readTerm_40 : decode cX13_readTerm 40 = .ok (.aload_n 0, 1) := D_42 (by decide +kernel)
theorem dX13_readTerm_41 : decode cX13_readTerm 41 = .ok (.iconst 3, 1) := D_6 (by decide +kernel)
theorem dX13_readTerm_42 : decode cX13_readTerm 42 = .ok (.iconst 0, 1) := D_3 (by decide +kernel)
theorem dX13_readTerm_43 : decode cX13_readTerm 43 = .ok (.invokevirtual 372, 3) := D_182 (by decide +kernel)
theorem dX13_readTerm_46 : decode cX13_readTerm 46 = .ok (.aload_n 0, 1) := D_42 (by decide +kernel)
theorem dX13_readTerm_47 : decode cX13_readTerm 47 = .ok (.invokevirtual 315, 3) := D_182 (by decide +kernel)
theorem dX13_readTerm_50 : decode cX13_readTerm 50 = .ok (.return_, 1) := D_177 (by decide +kernel)
theorem dX13_readTerm_51 : decode cX13_readTerm 51 = .ok (.aload_n 0, 1) := D_42 (by decide +kernel)
theorem dX13_readTerm_52 : decode cX13_readTerm 52 = .ok (.ldc_w 336, 3) := D_19 (by decide +kernel)
theorem dX13_readTerm_55 : decode cX13_readTerm 55 = .ok (.invokevirtual 308, 3) := D_182 (by decide +kernel)
theorem dX13_readTerm_58 : decode cX13_readTerm 58 = .ok (.ifCond .ne 23, 3) := D_154 (by decide +kernel)
theorem dX13_readTerm_61 : decode cX13_readTerm 61 = .ok (.aload_n 0, 1) := D_42 (by decide +kernel)
theorem dX13_readTerm_62 : decode cX13_readTerm 62 = .ok (.ldc_w 338, 3) := D_19 (by decide +kernel)
theorem dX13_readTerm_65 : decode cX13_readTerm 65 = .ok (.invokevirtual 308, 3) := D_182 (by decide +kernel)
theorem dX13_readTerm_68 : decode cX13_readTerm 68 = .ok (.ifCond .ne 13, 3) := D_154 (by decide +kernel)
theorem dX13_readTerm_71 : decode cX13_readTerm 71 = .ok (.aload_n 0, 1) := D_42 (by decide +kernel)
theorem dX13_readTerm_72 : decode cX13_readTerm 72 = .ok (.iconst 1, 1) := D_4 (by decide +kernel)
theorem dX13_readTerm_73 : decode cX13_readTerm 73 = .ok (.aload_n 0, 1) := D_42 (by decide +kernel)
theorem dX13_readTerm_74 : decode cX13_readTerm 74 = .ok (.getfield 271, 3) := D_180 (by decide +kernel)
theorem dX13_readTerm_77 : decode cX13_readTerm 77 = .ok (.invokevirtual 311, 3) := D_182 (by decide +kernel)
theorem dX13_readTerm_80 : decode cX13_readTerm 80 = .ok (.athrow, 1) := D_191 (by decide +kernel)
theorem dX13_readTerm_81 : decode cX13_readTerm 81 = .ok (.aload_n 0, 1) := D_42 (by decide +kernel)
theorem dX13_readTerm_82 : decode cX13_readTerm 82 = .ok (.ldc_w 336, 3) := D_19 (by decide +kernel)
theorem dX13_readTerm_85 : decode cX13_readTerm 85 = .ok (.invokevirtual 308, 3) := D_182 (by decide +kernel)
theorem dX13_readTerm_88 : decode cX13_readTerm 88 = .ok (.ifCond .eq 7, 3) := D_153 (by decide +kernel)
theorem dX13_readTerm_91 : decode cX13_readTerm 91 = .ok (.iconst 1, 1) := D_4 (by decide +kernel)
theorem dX13_readTerm_92 : decode cX13_readTerm 92 = .ok (.goto 4, 3) := D_167 (by decide +kernel)
theorem dX13_readTerm_95 : decode cX13_readTerm 95 = .ok (.iconst 2, 1) := D_5 (by decide +kernel)
theorem dX13_readTerm_96 : decode cX13_readTerm 96 = .ok (.istore_n 1, 1) := D_60 (by decide +kernel)
theorem dX13_readTerm_97 : decode cX13_readTerm 97 = .ok (.aload_n 0, 1) := D_42 (by decide +kernel)
theorem dX13_readTerm_98 : decode cX13_readTerm 98 = .ok (.invokevirtual 369, 3) := D_182 (by decide +kernel)
theorem dX13_readTerm_101 : decode cX13_readTerm 101 = .ok (.aload_n 0, 1) := D_42 (by decide +kernel)
theorem dX13_readTerm_102 : decode cX13_readTerm 102 = .ok (.invokevirtual 315, 3) := D_182 (by decide +kernel)
theorem dX13_readTerm_105 : decode cX13_readTerm 105 = .ok (.aload_n 0, 1) := D_42 (by decide +kernel)
theorem dX13_readTerm_106 : decode cX13_readTerm 106 = .ok (.invokevirtual 357, 3) := D_182 (by decide +kernel)
theorem dX13_readTerm_109 : decode cX13_readTerm 109 = .ok (.aload_n 0, 1) := D_42 (by decide +kernel)
theorem dX13_readTerm_110 : decode cX13_readTerm 110 = .ok (.invokevirtual 360, 3) := D_182 (by decide +kernel)
theorem dX13_readTerm_113 : decode cX13_readTerm 113 = .ok (.istore_n 2, 1) := D_61 (by decide +kernel)
theorem dX13_readTerm_114 : decode cX13_readTerm 114 = .ok (.iload_n 2, 1) := D_28 (by decide +kernel)
theorem dX13_readTerm_115 : decode cX13_readTerm 115 = .ok (.iconst (-1), 1) := D_2 (by decide +kernel)
theorem dX13_readTerm_116 : decode cX13_readTerm 116 = .ok (.if_icmp .ne 13, 3) := D_160 (by decide +kernel)
theorem dX13_readTerm_119 : decode cX13_readTerm 119 = .ok (.aload_n 0, 1) := D_42 (by decide +kernel)
theorem dX13_readTerm_120 : decode cX13_readTerm 120 = .ok (.iconst 2, 1) := D_5 (by decide +kernel)
theorem dX13_readTerm_121 : decode cX13_readTerm 121 = .ok (.aload_n 0, 1) := D_42 (by decide +kernel)
theorem dX13_readTerm_122 : decode cX13_readTerm 122 = .ok (.getfield 271, 3) := D_180 (by decide +kernel)
theorem dX13_readTerm_125 : decode cX13_readTerm 125 = .ok (.invokevirtual 311, 3) := D_182 (by decide +kernel)
theorem dX13_readTerm_128 : decode cX13_readTerm 128 = .ok (.athrow, 1) := D_191 (by decide +kernel)
theorem dX13_readTerm_129 : decode cX13_readTerm 129 = .ok (.aload_n 0, 1) := D_42 (by decide +kernel)
theorem dX13_readTerm_130 : decode cX13_readTerm 130 = .ok (.iload_n 1, 1) := D_27 (by decide +kernel)
theorem dX13_readTerm_131 : decode cX13_readTerm 131 = .ok (.iload_n 2, 1) := D_28 (by decide +kernel)
theorem dX13_readTerm_132 : decode cX13_readTerm 132 = .ok (.invokevirtual 372, 3) := D_182 (by decide +kernel)
theorem dX13_readTerm_135 : decode cX13_readTerm 135 = .ok (.aload_n 0, 1) := D_42 (by decide +kernel)
theorem dX13_readTerm_136 : decode cX13_readTerm 136 = .ok (.invokevirtual 315, 3) := D_182 (by decide +kernel)
theorem dX13_readTerm_139 : decode cX13_readTerm 139 = .ok (.return_, 1) := D_177 (by decide +kernel)
theorem kSX13_readTerm : yX13_readTerm.cls ≠ "java/lang/invoke/MethodHandle" ∧ yX13_readTerm.cls ≠ "java/lang/invoke/VarHandle" ∧ (parseMethodDescriptor yX13_readTerm.desc).map (fun d => d.parameters.length) = some 0 := by decide +kernel
theorem kVX13_readTerm : yX13_readTerm.cls = RX13 ∧ yX13_readTerm.cls ≠ "java/lang/invoke/MethodHandle" ∧ yX13_readTerm.cls ≠ "java/lang/invoke/VarHandle" ∧ (parseMethodDescriptor yX13_readTerm.desc).map (fun d => d.parameters.length) = some 0 := ⟨rfl, kSX13_readTerm⟩
theorem dX13_takeLaws_0 : decode cX13_takeLaws 0 = .ok (.iconst 0, 1) := D_3 (by decide +kernel)
theorem dX13_takeLaws_1 : decode cX13_takeLaws 1 = .ok (.istore_n 3, 1) := D_62 (by decide +kernel)
theorem dX13_takeLaws_2 : decode cX13_takeLaws 2 = .ok (.iload_n 3, 1) := D_29 (by decide +kernel)
theorem dX13_takeLaws_3 : decode cX13_takeLaws 3 = .ok (.iload_n 2, 1) := D_28 (by decide +kernel)
theorem dX13_takeLaws_4 : decode cX13_takeLaws 4 = .ok (.if_icmp .ge 23, 3) := D_162 (by decide +kernel)
theorem dX13_takeLaws_7 : decode cX13_takeLaws 7 = .ok (.aload_n 0, 1) := D_42 (by decide +kernel)
theorem dX13_takeLaws_8 : decode cX13_takeLaws 8 = .ok (.getfield 128, 3) := D_180 (by decide +kernel)
theorem dX13_takeLaws_11 : decode cX13_takeLaws 11 = .ok (.iload_n 3, 1) := D_29 (by decide +kernel)
theorem dX13_takeLaws_12 : decode cX13_takeLaws 12 = .ok (.aload_n 0, 1) := D_42 (by decide +kernel)
theorem dX13_takeLaws_13 : decode cX13_takeLaws 13 = .ok (.getfield 125, 3) := D_180 (by decide +kernel)
theorem dX13_takeLaws_16 : decode cX13_takeLaws 16 = .ok (.iload_n 1, 1) := D_27 (by decide +kernel)
theorem dX13_takeLaws_17 : decode cX13_takeLaws 17 = .ok (.iload_n 3, 1) := D_29 (by decide +kernel)
theorem dX13_takeLaws_18 : decode cX13_takeLaws 18 = .ok (.iadd, 1) := D_96 (by decide +kernel)
theorem dX13_takeLaws_19 : decode cX13_takeLaws 19 = .ok (.baload, 1) := D_51 (by decide +kernel)
theorem dX13_takeLaws_20 : decode cX13_takeLaws 20 = .ok (.bastore, 1) := D_84 (by decide +kernel)
theorem dX13_takeLaws_21 : decode cX13_takeLaws 21 = .ok (.iinc 3 1, 3) := by decide +kernel
theorem dX13_takeLaws_24 : decode cX13_takeLaws 24 = .ok (.goto (-22), 3) := D_167 (by decide +kernel)
theorem dX13_takeLaws_27 : decode cX13_takeLaws 27 = .ok (.aload_n 0, 1) := D_42 (by decide +kernel)
theorem dX13_takeLaws_28 : decode cX13_takeLaws 28 = .ok (.aload_n 0, 1) := D_42 (by decide +kernel)
theorem dX13_takeLaws_29 : decode cX13_takeLaws 29 = .ok (.getfield 128, 3) := D_180 (by decide +kernel)
theorem dX13_takeLaws_32 : decode cX13_takeLaws 32 = .ok (.putfield 115, 3) := D_181 (by decide +kernel)
theorem dX13_takeLaws_35 : decode cX13_takeLaws 35 = .ok (.aload_n 0, 1) := D_42 (by decide +kernel)
theorem dX13_takeLaws_36 : decode cX13_takeLaws 36 = .ok (.iload_n 2, 1) := D_28 (by decide +kernel)
theorem dX13_takeLaws_37 : decode cX13_takeLaws 37 = .ok (.putfield 265, 3) := D_181 (by decide +kernel)
theorem dX13_takeLaws_40 : decode cX13_takeLaws 40 = .ok (.aload_n 0, 1) := D_42 (by decide +kernel)
theorem dX13_takeLaws_41 : decode cX13_takeLaws 41 = .ok (.getfield 262, 3) := D_180 (by decide +kernel)
theorem dX13_takeLaws_44 : decode cX13_takeLaws 44 = .ok (.istore_n 3, 1) := D_62 (by decide +kernel)
theorem dX13_takeLaws_45 : decode cX13_takeLaws 45 = .ok (.aload_n 0, 1) := D_42 (by decide +kernel)
theorem dX13_takeLaws_46 : decode cX13_takeLaws 46 = .ok (.getfield 118, 3) := D_180 (by decide +kernel)
theorem dX13_takeLaws_49 : decode cX13_takeLaws 49 = .ok (.istore 4, 2) := D_54 (by decide +kernel)
theorem dX13_takeLaws_51 : decode cX13_takeLaws 51 = .ok (.aload_n 0, 1) := D_42 (by decide +kernel)
theorem dX13_takeLaws_52 : decode cX13_takeLaws 52 = .ok (.invokevirtual 454, 3) := D_182 (by decide +kernel)
theorem dX13_takeLaws_55 : decode cX13_takeLaws 55 = .ok (.goto 10, 3) := D_167 (by decide +kernel)
theorem dX13_takeLaws_58 : decode cX13_takeLaws 58 = .ok (.astore 5, 2) := D_58 (by decide +kernel)
theorem dX13_takeLaws_60 : decode cX13_takeLaws 60 = .ok (.aload_n 0, 1) := D_42 (by decide +kernel)
theorem dX13_takeLaws_61 : decode cX13_takeLaws 61 = .ok (.iconst 0, 1) := D_3 (by decide +kernel)
theorem dX13_takeLaws_62 : decode cX13_takeLaws 62 = .ok (.putfield 189, 3) := D_181 (by decide +kernel)
theorem dX13_takeLaws_65 : decode cX13_takeLaws 65 = .ok (.aload_n 0, 1) := D_42 (by decide +kernel)
theorem dX13_takeLaws_66 : decode cX13_takeLaws 66 = .ok (.iload_n 3, 1) := D_29 (by decide +kernel)
theorem dX13_takeLaws_67 : decode cX13_takeLaws 67 = .ok (.putfield 262, 3) := D_181 (by decide +kernel)
theorem dX13_takeLaws_70 : decode cX13_takeLaws 70 = .ok (.aload_n 0, 1) := D_42 (by decide +kernel)
theorem dX13_takeLaws_71 : decode cX13_takeLaws 71 = .ok (.iload 4, 2) := D_21 (by decide +kernel)
theorem dX13_takeLaws_73 : decode cX13_takeLaws 73 = .ok (.putfield 118, 3) := D_181 (by decide +kernel)
theorem dX13_takeLaws_76 : decode cX13_takeLaws 76 = .ok (.aload_n 0, 1) := D_42 (by decide +kernel)
theorem dX13_takeLaws_77 : decode cX13_takeLaws 77 = .ok (.getfield 189, 3) := D_180 (by decide +kernel)
theorem dX13_takeLaws_80 : decode cX13_takeLaws 80 = .ok (.ireturn, 1) := D_172 (by decide +kernel)
theorem kSX13_takeLaws : yX13_takeLaws.cls ≠ "java/lang/invoke/MethodHandle" ∧ yX13_takeLaws.cls ≠ "java/lang/invoke/VarHandle" ∧ (parseMethodDescriptor yX13_takeLaws.desc).map (fun d => d.parameters.length) = some 2 := by decide +kernel
theorem kVX13_takeLaws : yX13_takeLaws.cls = RX13 ∧ yX13_takeLaws.cls ≠ "java/lang/invoke/MethodHandle" ∧ yX13_takeLaws.cls ≠ "java/lang/invoke/VarHandle" ∧ (parseMethodDescriptor yX13_takeLaws.desc).map (fun d => d.parameters.length) = some 2 := ⟨rfl, kSX13_takeLaws⟩
theorem dX13_makeRow_0 : decode cX13_makeRow 0 = .ok (.aload_n 0, 1) := D_42 (by decide +kernel)
theorem dX13_makeRow_1 : decode cX13_makeRow 1 = .ok (.getfield 131, 3) := D_180 (by decide +kernel)
theorem dX13_makeRow_4 : decode cX13_makeRow 4 = .ok (.iconst 0, 1) := D_3 (by decide +kernel)
theorem dX13_makeRow_5 : decode cX13_makeRow 5 = .ok (.iconst 0, 1) := D_3 (by decide +kernel)
theorem dX13_makeRow_6 : decode cX13_makeRow 6 = .ok (.iastore, 1) := D_79 (by decide +kernel)
theorem dX13_makeRow_7 : decode cX13_makeRow 7 = .ok (.iconst 1, 1) := D_4 (by decide +kernel)
theorem dX13_makeRow_8 : decode cX13_makeRow 8 = .ok (.istore_n 2, 1) := D_61 (by decide +kernel)
theorem dX13_makeRow_9 : decode cX13_makeRow 9 = .ok (.iload_n 2, 1) := D_28 (by decide +kernel)
theorem dX13_makeRow_10 : decode cX13_makeRow 10 = .ok (.iload_n 1, 1) := D_27 (by decide +kernel)
theorem dX13_makeRow_11 : decode cX13_makeRow 11 = .ok (.if_icmp .ge 107, 3) := D_162 (by decide +kernel)
theorem dX13_makeRow_14 : decode cX13_makeRow 14 = .ok (.iconst 0, 1) := D_3 (by decide +kernel)
theorem dX13_makeRow_15 : decode cX13_makeRow 15 = .ok (.istore_n 3, 1) := D_62 (by decide +kernel)
theorem dX13_makeRow_16 : decode cX13_makeRow 16 = .ok (.iload_n 3, 1) := D_29 (by decide +kernel)
theorem dX13_makeRow_17 : decode cX13_makeRow 17 = .ok (.iload_n 2, 1) := D_28 (by decide +kernel)
theorem dX13_makeRow_18 : decode cX13_makeRow 18 = .ok (.if_icmp .ge 21, 3) := D_162 (by decide +kernel)
theorem dX13_makeRow_21 : decode cX13_makeRow 21 = .ok (.aload_n 0, 1) := D_42 (by decide +kernel)
theorem dX13_makeRow_22 : decode cX13_makeRow 22 = .ok (.getfield 134, 3) := D_180 (by decide +kernel)
theorem dX13_makeRow_25 : decode cX13_makeRow 25 = .ok (.iload_n 3, 1) := D_29 (by decide +kernel)
theorem dX13_makeRow_26 : decode cX13_makeRow 26 = .ok (.aload_n 0, 1) := D_42 (by decide +kernel)
theorem dX13_makeRow_27 : decode cX13_makeRow 27 = .ok (.getfield 131, 3) := D_180 (by decide +kernel)
theorem dX13_makeRow_30 : decode cX13_makeRow 30 = .ok (.iload_n 3, 1) := D_29 (by decide +kernel)
theorem dX13_makeRow_31 : decode cX13_makeRow 31 = .ok (.iaload, 1) := D_46 (by decide +kernel)
theorem dX13_makeRow_32 : decode cX13_makeRow 32 = .ok (.iastore, 1) := D_79 (by decide +kernel)
theorem dX13_makeRow_33 : decode cX13_makeRow 33 = .ok (.iinc 3 1, 3) := by decide +kernel
theorem dX13_makeRow_36 : decode cX13_makeRow 36 = .ok (.goto (-20), 3) := D_167 (by decide +kernel)
theorem dX13_makeRow_39 : decode cX13_makeRow 39 = .ok (.iconst 0, 1) := D_3 (by decide +kernel)
theorem dX13_makeRow_40 : decode cX13_makeRow 40 = .ok (.istore_n 3, 1) := D_62 (by decide +kernel)
theorem dX13_makeRow_41 : decode cX13_makeRow 41 = .ok (.iload_n 3, 1) := D_29 (by decide +kernel)
theorem dX13_makeRow_42 : decode cX13_makeRow 42 = .ok (.iload_n 2, 1) := D_28 (by decide +kernel)
theorem dX13_makeRow_43 : decode cX13_makeRow 43 = .ok (.if_icmp .ge 68, 3) := D_162 (by decide +kernel)
theorem dX13_makeRow_46 : decode cX13_makeRow 46 = .ok (.aload_n 0, 1) := D_42 (by decide +kernel)
theorem dX13_makeRow_47 : decode cX13_makeRow 47 = .ok (.getfield 134, 3) := D_180 (by decide +kernel)
theorem dX13_makeRow_50 : decode cX13_makeRow 50 = .ok (.iload_n 3, 1) := D_29 (by decide +kernel)
theorem dX13_makeRow_51 : decode cX13_makeRow 51 = .ok (.iaload, 1) := D_46 (by decide +kernel)
theorem dX13_makeRow_52 : decode cX13_makeRow 52 = .ok (.istore 4, 2) := D_54 (by decide +kernel)
theorem dX13_makeRow_54 : decode cX13_makeRow 54 = .ok (.iload 4, 2) := D_21 (by decide +kernel)
theorem dX13_makeRow_56 : decode cX13_makeRow 56 = .ok (.iconst 2, 1) := D_5 (by decide +kernel)
theorem dX13_makeRow_57 : decode cX13_makeRow 57 = .ok (.irem, 1) := D_112 (by decide +kernel)
theorem dX13_makeRow_58 : decode cX13_makeRow 58 = .ok (.ifCond .ne 10, 3) := D_154 (by decide +kernel)
theorem dX13_makeRow_61 : decode cX13_makeRow 61 = .ok (.iconst 2, 1) := D_5 (by decide +kernel)
theorem dX13_makeRow_62 : decode cX13_makeRow 62 = .ok (.iload 4, 2) := D_21 (by decide +kernel)
theorem dX13_makeRow_64 : decode cX13_makeRow 64 = .ok (.imul, 1) := D_104 (by decide +kernel)
theorem dX13_makeRow_65 : decode cX13_makeRow 65 = .ok (.goto 9, 3) := D_167 (by decide +kernel)
theorem dX13_makeRow_68 : decode cX13_makeRow 68 = .ok (.iconst 2, 1) := D_5 (by decide +kernel)
theorem dX13_makeRow_69 : decode cX13_makeRow 69 = .ok (.iload 4, 2) := D_21 (by decide +kernel)
theorem dX13_makeRow_71 : decode cX13_makeRow 71 = .ok (.imul, 1) := D_104 (by decide +kernel)
theorem dX13_makeRow_72 : decode cX13_makeRow 72 = .ok (.iconst 1, 1) := D_4 (by decide +kernel)
theorem dX13_makeRow_73 : decode cX13_makeRow 73 = .ok (.iadd, 1) := D_96 (by decide +kernel)
theorem dX13_makeRow_74 : decode cX13_makeRow 74 = .ok (.istore 5, 2) := D_54 (by decide +kernel)
theorem dX13_makeRow_76 : decode cX13_makeRow 76 = .ok (.aload_n 0, 1) := D_42 (by decide +kernel)
theorem dX13_makeRow_77 : decode cX13_makeRow 77 = .ok (.getfield 131, 3) := D_180 (by decide +kernel)
theorem dX13_makeRow_80 : decode cX13_makeRow 80 = .ok (.iload_n 3, 1) := D_29 (by decide +kernel)
theorem dX13_makeRow_81 : decode cX13_makeRow 81 = .ok (.iload 5, 2) := D_21 (by decide +kernel)
theorem dX13_makeRow_83 : decode cX13_makeRow 83 = .ok (.iastore, 1) := D_79 (by decide +kernel)
theorem dX13_makeRow_84 : decode cX13_makeRow 84 = .ok (.aload_n 0, 1) := D_42 (by decide +kernel)
theorem dX13_makeRow_85 : decode cX13_makeRow 85 = .ok (.getfield 131, 3) := D_180 (by decide +kernel)
theorem dX13_makeRow_88 : decode cX13_makeRow 88 = .ok (.iconst 2, 1) := D_5 (by decide +kernel)
theorem dX13_makeRow_89 : decode cX13_makeRow 89 = .ok (.iload_n 2, 1) := D_28 (by decide +kernel)
theorem dX13_makeRow_90 : decode cX13_makeRow 90 = .ok (.imul, 1) := D_104 (by decide +kernel)
theorem dX13_makeRow_91 : decode cX13_makeRow 91 = .ok (.iconst 1, 1) := D_4 (by decide +kernel)
theorem dX13_makeRow_92 : decode cX13_makeRow 92 = .ok (.isub, 1) := D_100 (by decide +kernel)
theorem dX13_makeRow_93 : decode cX13_makeRow 93 = .ok (.iload_n 3, 1) := D_29 (by decide +kernel)
theorem dX13_makeRow_94 : decode cX13_makeRow 94 = .ok (.isub, 1) := D_100 (by decide +kernel)
theorem dX13_makeRow_95 : decode cX13_makeRow 95 = .ok (.iconst 4, 1) := D_7 (by decide +kernel)
theorem dX13_makeRow_96 : decode cX13_makeRow 96 = .ok (.iload 4, 2) := D_21 (by decide +kernel)
theorem dX13_makeRow_98 : decode cX13_makeRow 98 = .ok (.imul, 1) := D_104 (by decide +kernel)
theorem dX13_makeRow_99 : decode cX13_makeRow 99 = .ok (.iconst 1, 1) := D_4 (by decide +kernel)
theorem dX13_makeRow_100 : decode cX13_makeRow 100 = .ok (.iadd, 1) := D_96 (by decide +kernel)
theorem dX13_makeRow_101 : decode cX13_makeRow 101 = .ok (.iload 5, 2) := D_21 (by decide +kernel)
theorem dX13_makeRow_103 : decode cX13_makeRow 103 = .ok (.isub, 1) := D_100 (by decide +kernel)
theorem dX13_makeRow_104 : decode cX13_makeRow 104 = .ok (.iastore, 1) := D_79 (by decide +kernel)
theorem dX13_makeRow_105 : decode cX13_makeRow 105 = .ok (.iinc 3 1, 3) := by decide +kernel
theorem dX13_makeRow_108 : decode cX13_makeRow 108 = .ok (.goto (-67), 3) := D_167 (by decide +kernel)
theorem dX13_makeRow_111 : decode cX13_makeRow 111 = .ok (.iload_n 2, 1) := D_28 (by decide +kernel)
theorem dX13_makeRow_112 : decode cX13_makeRow 112 = .ok (.iconst 2, 1) := D_5 (by decide +kernel)
theorem dX13_makeRow_113 : decode cX13_makeRow 113 = .ok (.imul, 1) := D_104 (by decide +kernel)
theorem dX13_makeRow_114 : decode cX13_makeRow 114 = .ok (.istore_n 2, 1) := D_61 (by decide +kernel)
theorem dX13_makeRow_115 : decode cX13_makeRow 115 = .ok (.goto (-106), 3) := D_167 (by decide +kernel)
theorem dX13_makeRow_118 : decode cX13_makeRow 118 = .ok (.return_, 1) := D_177 (by decide +kernel)
theorem kSX13_makeRow : yX13_makeRow.cls ≠ "java/lang/invoke/MethodHandle" ∧ yX13_makeRow.cls ≠ "java/lang/invoke/VarHandle" ∧ (parseMethodDescriptor yX13_makeRow.desc).map (fun d => d.parameters.length) = some 1 := by decide +kernel
theorem kVX13_makeRow : yX13_makeRow.cls = RX13 ∧ yX13_makeRow.cls ≠ "java/lang/invoke/MethodHandle" ∧ yX13_makeRow.cls ≠ "java/lang/invoke/VarHandle" ∧ (parseMethodDescriptor yX13_makeRow.desc).map (fun d => d.parameters.length) = some 1 := ⟨rfl, kSX13_makeRow⟩
theorem dX13_draws_0 : decode cX13_draws 0 = .ok (.aload_n 0, 1) := D_42 (by decide +kernel)
theorem dX13_draws_1 : decode cX13_draws 1 = .ok (.iload_n 1, 1) := D_27 (by decide +kernel)
theorem dX13_draws_2 : decode cX13_draws 2 = .ok (.invokevirtual 481, 3) := D_182 (by decide +kernel)
theorem dX13_draws_5 : decode cX13_draws 5 = .ok (.istore_n 2, 1) := D_61 (by decide +kernel)
theorem dX13_draws_6 : decode cX13_draws 6 = .ok (.iload_n 2, 1) := D_28 (by decide +kernel)
theorem dX13_draws_7 : decode cX13_draws 7 = .ok (.bipush 6, 2) := D_16 (by decide +kernel)
theorem dX13_draws_9 : decode cX13_draws 9 = .ok (.if_icmp .ge 92, 3) := D_162 (by decide +kernel)
theorem dX13_draws_12 : decode cX13_draws 12 = .ok (.aload_n 0, 1) := D_42 (by decide +kernel)
theorem dX13_draws_13 : decode cX13_draws 13 = .ok (.getfield 37, 3) := D_180 (by decide +kernel)
theorem dX13_draws_16 : decode cX13_draws 16 = .ok (.iload_n 1, 1) := D_27 (by decide +kernel)
theorem dX13_draws_17 : decode cX13_draws 17 = .ok (.iconst 1, 1) := D_4 (by decide +kernel)
theorem dX13_draws_18 : decode cX13_draws 18 = .ok (.iastore, 1) := D_79 (by decide +kernel)
theorem dX13_draws_19 : decode cX13_draws 19 = .ok (.aload_n 0, 1) := D_42 (by decide +kernel)
theorem dX13_draws_20 : decode cX13_draws 20 = .ok (.getfield 40, 3) := D_180 (by decide +kernel)
theorem dX13_draws_23 : decode cX13_draws 23 = .ok (.iload_n 1, 1) := D_27 (by decide +kernel)
theorem dX13_draws_24 : decode cX13_draws 24 = .ok (.iload_n 2, 1) := D_28 (by decide +kernel)
theorem dX13_draws_25 : decode cX13_draws 25 = .ok (.iastore, 1) := D_79 (by decide +kernel)
theorem dX13_draws_26 : decode cX13_draws 26 = .ok (.iconst 0, 1) := D_3 (by decide +kernel)
theorem dX13_draws_27 : decode cX13_draws 27 = .ok (.istore_n 3, 1) := D_62 (by decide +kernel)
theorem dX13_draws_28 : decode cX13_draws 28 = .ok (.iconst 0, 1) := D_3 (by decide +kernel)
theorem dX13_draws_29 : decode cX13_draws 29 = .ok (.istore 4, 2) := D_54 (by decide +kernel)
theorem dX13_draws_31 : decode cX13_draws 31 = .ok (.iload 4, 2) := D_21 (by decide +kernel)
theorem dX13_draws_33 : decode cX13_draws 33 = .ok (.aload_n 0, 1) := D_42 (by decide +kernel)
theorem dX13_draws_34 : decode cX13_draws 34 = .ok (.getfield 176, 3) := D_180 (by decide +kernel)
theorem dX13_draws_37 : decode cX13_draws 37 = .ok (.if_icmp .ge 58, 3) := D_162 (by decide +kernel)
theorem dX13_draws_40 : decode cX13_draws 40 = .ok (.aload_n 0, 1) := D_42 (by decide +kernel)
theorem dX13_draws_41 : decode cX13_draws 41 = .ok (.getfield 16, 3) := D_180 (by decide +kernel)
theorem dX13_draws_44 : decode cX13_draws 44 = .ok (.iload 4, 2) := D_21 (by decide +kernel)
theorem dX13_draws_46 : decode cX13_draws 46 = .ok (.iaload, 1) := D_46 (by decide +kernel)
theorem dX13_draws_47 : decode cX13_draws 47 = .ok (.iload_n 1, 1) := D_27 (by decide +kernel)
theorem dX13_draws_48 : decode cX13_draws 48 = .ok (.if_icmp .ne 41, 3) := D_160 (by decide +kernel)
theorem dX13_draws_51 : decode cX13_draws 51 = .ok (.aload_n 0, 1) := D_42 (by decide +kernel)
theorem dX13_draws_52 : decode cX13_draws 52 = .ok (.getfield 25, 3) := D_180 (by decide +kernel)
theorem dX13_draws_55 : decode cX13_draws 55 = .ok (.iload 4, 2) := D_21 (by decide +kernel)
theorem dX13_draws_57 : decode cX13_draws 57 = .ok (.iaload, 1) := D_46 (by decide +kernel)
theorem dX13_draws_58 : decode cX13_draws 58 = .ok (.iconst 1, 1) := D_4 (by decide +kernel)
theorem dX13_draws_59 : decode cX13_draws 59 = .ok (.if_icmp .eq 6, 3) := D_159 (by decide +kernel)
theorem dX13_draws_62 : decode cX13_draws 62 = .ok (.goto 27, 3) := D_167 (by decide +kernel)
theorem dX13_draws_65 : decode cX13_draws 65 = .ok (.aload_n 0, 1) := D_42 (by decide +kernel)
theorem dX13_draws_66 : decode cX13_draws 66 = .ok (.getfield 43, 3) := D_180 (by decide +kernel)
theorem dX13_draws_69 : decode cX13_draws 69 = .ok (.bipush 32, 2) := D_16 (by decide +kernel)
theorem dX13_draws_71 : decode cX13_draws 71 = .ok (.iload_n 1, 1) := D_27 (by decide +kernel)
theorem dX13_draws_72 : decode cX13_draws 72 = .ok (.imul, 1) := D_104 (by decide +kernel)
theorem dX13_draws_73 : decode cX13_draws 73 = .ok (.iload_n 3, 1) := D_29 (by decide +kernel)
theorem dX13_draws_74 : decode cX13_draws 74 = .ok (.iadd, 1) := D_96 (by decide +kernel)
theorem dX13_draws_75 : decode cX13_draws 75 = .ok (.iload 4, 2) := D_21 (by decide +kernel)
theorem dX13_draws_77 : decode cX13_draws 77 = .ok (.iastore, 1) := D_79 (by decide +kernel)
theorem dX13_draws_78 : decode cX13_draws 78 = .ok (.aload_n 0, 1) := D_42 (by decide +kernel)
theorem dX13_draws_79 : decode cX13_draws 79 = .ok (.getfield 31, 3) := D_180 (by decide +kernel)
theorem dX13_draws_82 : decode cX13_draws 82 = .ok (.iload 4, 2) := D_21 (by decide +kernel)
theorem dX13_draws_84 : decode cX13_draws 84 = .ok (.iload_n 3, 1) := D_29 (by decide +kernel)
theorem dX13_draws_85 : decode cX13_draws 85 = .ok (.iastore, 1) := D_79 (by decide +kernel)
theorem dX13_draws_86 : decode cX13_draws 86 = .ok (.iinc 3 1, 3) := by decide +kernel
theorem dX13_draws_89 : decode cX13_draws 89 = .ok (.iinc 4 1, 3) := by decide +kernel
theorem dX13_draws_92 : decode cX13_draws 92 = .ok (.goto (-61), 3) := D_167 (by decide +kernel)
theorem dX13_draws_95 : decode cX13_draws 95 = .ok (.aload_n 0, 1) := D_42 (by decide +kernel)
theorem dX13_draws_96 : decode cX13_draws 96 = .ok (.iload_n 1, 1) := D_27 (by decide +kernel)
theorem dX13_draws_97 : decode cX13_draws 97 = .ok (.invokevirtual 218, 3) := D_182 (by decide +kernel)
theorem dX13_draws_100 : decode cX13_draws 100 = .ok (.ireturn, 1) := D_172 (by decide +kernel)
theorem dX13_draws_101 : decode cX13_draws 101 = .ok (.aload_n 0, 1) := D_42 (by decide +kernel)
theorem dX13_draws_102 : decode cX13_draws 102 = .ok (.getfield 37, 3) := D_180 (by decide +kernel)
theorem dX13_draws_105 : decode cX13_draws 105 = .ok (.iload_n 1, 1) := D_27 (by decide +kernel)
theorem dX13_draws_106 : decode cX13_draws 106 = .ok (.iconst 2, 1) := D_5 (by decide +kernel)
theorem dX13_draws_107 : decode cX13_draws 107 = .ok (.iastore, 1) := D_79 (by decide +kernel)
theorem dX13_draws_108 : decode cX13_draws 108 = .ok (.aload_n 0, 1) := D_42 (by decide +kernel)
theorem dX13_draws_109 : decode cX13_draws 109 = .ok (.getfield 40, 3) := D_180 (by decide +kernel)
theorem dX13_draws_112 : decode cX13_draws 112 = .ok (.iload_n 1, 1) := D_27 (by decide +kernel)
theorem dX13_draws_113 : decode cX13_draws 113 = .ok (.iload_n 2, 1) := D_28 (by decide +kernel)
theorem dX13_draws_114 : decode cX13_draws 114 = .ok (.bipush 16, 2) := D_16 (by decide +kernel)
theorem dX13_draws_116 : decode cX13_draws 116 = .ok (.if_icmp .le 8, 3) := D_164 (by decide +kernel)
theorem dX13_draws_119 : decode cX13_draws 119 = .ok (.bipush 32, 2) := D_16 (by decide +kernel)
theorem dX13_draws_121 : decode cX13_draws 121 = .ok (.goto 16, 3) := D_167 (by decide +kernel)
theorem dX13_draws_124 : decode cX13_draws 124 = .ok (.iload_n 2, 1) := D_28 (by decide +kernel)
theorem dX13_draws_125 : decode cX13_draws 125 = .ok (.bipush 8, 2) := D_16 (by decide +kernel)
theorem dX13_draws_127 : decode cX13_draws 127 = .ok (.if_icmp .le 8, 3) := D_164 (by decide +kernel)
theorem dX13_draws_130 : decode cX13_draws 130 = .ok (.bipush 16, 2) := D_16 (by decide +kernel)
theorem dX13_draws_132 : decode cX13_draws 132 = .ok (.goto 5, 3) := D_167 (by decide +kernel)
theorem dX13_draws_135 : decode cX13_draws 135 = .ok (.bipush 8, 2) := D_16 (by decide +kernel)
theorem dX13_draws_137 : decode cX13_draws 137 = .ok (.iastore, 1) := D_79 (by decide +kernel)
theorem dX13_draws_138 : decode cX13_draws 138 = .ok (.aload_n 0, 1) := D_42 (by decide +kernel)
theorem dX13_draws_139 : decode cX13_draws 139 = .ok (.aload_n 0, 1) := D_42 (by decide +kernel)
theorem dX13_draws_140 : decode cX13_draws 140 = .ok (.getfield 40, 3) := D_180 (by decide +kernel)
theorem dX13_draws_143 : decode cX13_draws 143 = .ok (.iload_n 1, 1) := D_27 (by decide +kernel)
theorem dX13_draws_144 : decode cX13_draws 144 = .ok (.iaload, 1) := D_46 (by decide +kernel)
theorem dX13_draws_145 : decode cX13_draws 145 = .ok (.invokevirtual 488, 3) := D_182 (by decide +kernel)
theorem dX13_draws_148 : decode cX13_draws 148 = .ok (.iconst 0, 1) := D_3 (by decide +kernel)
theorem dX13_draws_149 : decode cX13_draws 149 = .ok (.istore_n 3, 1) := D_62 (by decide +kernel)
theorem dX13_draws_150 : decode cX13_draws 150 = .ok (.iload_n 3, 1) := D_29 (by decide +kernel)
theorem dX13_draws_151 : decode cX13_draws 151 = .ok (.aload_n 0, 1) := D_42 (by decide +kernel)
theorem dX13_draws_152 : decode cX13_draws 152 = .ok (.getfield 40, 3) := D_180 (by decide +kernel)
theorem dX13_draws_155 : decode cX13_draws 155 = .ok (.iload_n 1, 1) := D_27 (by decide +kernel)
theorem dX13_draws_156 : decode cX13_draws 156 = .ok (.iaload, 1) := D_46 (by decide +kernel)
theorem dX13_draws_157 : decode cX13_draws 157 = .ok (.if_icmp .ge 28, 3) := D_162 (by decide +kernel)
theorem dX13_draws_160 : decode cX13_draws 160 = .ok (.aload_n 0, 1) := D_42 (by decide +kernel)
theorem dX13_draws_161 : decode cX13_draws 161 = .ok (.getfield 43, 3) := D_180 (by decide +kernel)
theorem dX13_draws_164 : decode cX13_draws 164 = .ok (.bipush 32, 2) := D_16 (by decide +kernel)
theorem dX13_draws_166 : decode cX13_draws 166 = .ok (.iload_n 1, 1) := D_27 (by decide +kernel)
theorem dX13_draws_167 : decode cX13_draws 167 = .ok (.imul, 1) := D_104 (by decide +kernel)
theorem dX13_draws_168 : decode cX13_draws 168 = .ok (.iload_n 3, 1) := D_29 (by decide +kernel)
theorem dX13_draws_169 : decode cX13_draws 169 = .ok (.iadd, 1) := D_96 (by decide +kernel)
theorem dX13_draws_170 : decode cX13_draws 170 = .ok (.iconst (-1), 1) := D_2 (by decide +kernel)
theorem dX13_draws_171 : decode cX13_draws 171 = .ok (.iastore, 1) := D_79 (by decide +kernel)
theorem dX13_draws_172 : decode cX13_draws 172 = .ok (.aload_n 0, 1) := D_42 (by decide +kernel)
theorem dX13_draws_173 : decode cX13_draws 173 = .ok (.getfield 140, 3) := D_180 (by decide +kernel)
theorem dX13_draws_176 : decode cX13_draws 176 = .ok (.iload_n 3, 1) := D_29 (by decide +kernel)
theorem dX13_draws_177 : decode cX13_draws 177 = .ok (.iconst 0, 1) := D_3 (by decide +kernel)
theorem dX13_draws_178 : decode cX13_draws 178 = .ok (.bastore, 1) := D_84 (by decide +kernel)
theorem dX13_draws_179 : decode cX13_draws 179 = .ok (.iinc 3 1, 3) := by decide +kernel
theorem dX13_draws_182 : decode cX13_draws 182 = .ok (.goto (-32), 3) := D_167 (by decide +kernel)
theorem dX13_draws_185 : decode cX13_draws 185 = .ok (.iload_n 2, 1) := D_28 (by decide +kernel)
theorem dX13_draws_186 : decode cX13_draws 186 = .ok (.istore_n 3, 1) := D_62 (by decide +kernel)
theorem dX13_draws_187 : decode cX13_draws 187 = .ok (.iload_n 3, 1) := D_29 (by decide +kernel)
theorem dX13_draws_188 : decode cX13_draws 188 = .ok (.aload_n 0, 1) := D_42 (by decide +kernel)
theorem dX13_draws_189 : decode cX13_draws 189 = .ok (.getfield 40, 3) := D_180 (by decide +kernel)
theorem dX13_draws_192 : decode cX13_draws 192 = .ok (.iload_n 1, 1) := D_27 (by decide +kernel)
theorem dX13_draws_193 : decode cX13_draws 193 = .ok (.iaload, 1) := D_46 (by decide +kernel)
theorem dX13_draws_194 : decode cX13_draws 194 = .ok (.if_icmp .ge 21, 3) := D_162 (by decide +kernel)
theorem dX13_draws_197 : decode cX13_draws 197 = .ok (.aload_n 0, 1) := D_42 (by decide +kernel)
theorem dX13_draws_198 : decode cX13_draws 198 = .ok (.getfield 140, 3) := D_180 (by decide +kernel)
theorem dX13_draws_201 : decode cX13_draws 201 = .ok (.aload_n 0, 1) := D_42 (by decide +kernel)
theorem dX13_draws_202 : decode cX13_draws 202 = .ok (.getfield 131, 3) := D_180 (by decide +kernel)
theorem dX13_draws_205 : decode cX13_draws 205 = .ok (.iload_n 3, 1) := D_29 (by decide +kernel)
theorem dX13_draws_206 : decode cX13_draws 206 = .ok (.iaload, 1) := D_46 (by decide +kernel)
theorem dX13_draws_207 : decode cX13_draws 207 = .ok (.iconst 1, 1) := D_4 (by decide +kernel)
theorem dX13_draws_208 : decode cX13_draws 208 = .ok (.bastore, 1) := D_84 (by decide +kernel)
theorem dX13_draws_209 : decode cX13_draws 209 = .ok (.iinc 3 1, 3) := by decide +kernel
theorem dX13_draws_212 : decode cX13_draws 212 = .ok (.goto (-25), 3) := D_167 (by decide +kernel)
theorem dX13_draws_215 : decode cX13_draws 215 = .ok (.iconst 0, 1) := D_3 (by decide +kernel)
theorem dX13_draws_216 : decode cX13_draws 216 = .ok (.istore_n 3, 1) := D_62 (by decide +kernel)
theorem dX13_draws_217 : decode cX13_draws 217 = .ok (.iconst 1, 1) := D_4 (by decide +kernel)
theorem dX13_draws_218 : decode cX13_draws 218 = .ok (.istore 4, 2) := D_54 (by decide +kernel)
theorem dX13_draws_220 : decode cX13_draws 220 = .ok (.iload 4, 2) := D_21 (by decide +kernel)
theorem dX13_draws_222 : decode cX13_draws 222 = .ok (.bipush 8, 2) := D_16 (by decide +kernel)
theorem dX13_draws_224 : decode cX13_draws 224 = .ok (.if_icmp .gt 80, 3) := D_163 (by decide +kernel)
theorem dX13_draws_227 : decode cX13_draws 227 = .ok (.iconst 0, 1) := D_3 (by decide +kernel)
theorem dX13_draws_228 : decode cX13_draws 228 = .ok (.istore 5, 2) := D_54 (by decide +kernel)
theorem dX13_draws_230 : decode cX13_draws 230 = .ok (.iload 5, 2) := D_21 (by decide +kernel)
theorem dX13_draws_232 : decode cX13_draws 232 = .ok (.aload_n 0, 1) := D_42 (by decide +kernel)
theorem dX13_draws_233 : decode cX13_draws 233 = .ok (.getfield 176, 3) := D_180 (by decide +kernel)
theorem dX13_draws_236 : decode cX13_draws 236 = .ok (.if_icmp .ge 62, 3) := D_162 (by decide +kernel)
theorem dX13_draws_239 : decode cX13_draws 239 = .ok (.aload_n 0, 1) := D_42 (by decide +kernel)
theorem dX13_draws_240 : decode cX13_draws 240 = .ok (.getfield 16, 3) := D_180 (by decide +kernel)
theorem dX13_draws_243 : decode cX13_draws 243 = .ok (.iload 5, 2) := D_21 (by decide +kernel)
theorem dX13_draws_245 : decode cX13_draws 245 = .ok (.iaload, 1) := D_46 (by decide +kernel)
theorem dX13_draws_246 : decode cX13_draws 246 = .ok (.iload_n 1, 1) := D_27 (by decide +kernel)
theorem dX13_draws_247 : decode cX13_draws 247 = .ok (.if_icmp .ne 45, 3) := D_160 (by decide +kernel)
theorem dX13_draws_250 : decode cX13_draws 250 = .ok (.aload_n 0, 1) := D_42 (by decide +kernel)
theorem dX13_draws_251 : decode cX13_draws 251 = .ok (.getfield 25, 3) := D_180 (by decide +kernel)
theorem dX13_draws_254 : decode cX13_draws 254 = .ok (.iload 5, 2) := D_21 (by decide +kernel)
theorem dX13_draws_256 : decode cX13_draws 256 = .ok (.iaload, 1) := D_46 (by decide +kernel)
theorem dX13_draws_257 : decode cX13_draws 257 = .ok (.iconst 1, 1) := D_4 (by decide +kernel)
theorem dX13_draws_258 : decode cX13_draws 258 = .ok (.if_icmp .ne 34, 3) := D_160 (by decide +kernel)
theorem dX13_draws_261 : decode cX13_draws 261 = .ok (.aload_n 0, 1) := D_42 (by decide +kernel)
theorem dX13_draws_262 : decode cX13_draws 262 = .ok (.getfield 28, 3) := D_180 (by decide +kernel)
theorem dX13_draws_265 : decode cX13_draws 265 = .ok (.iload 5, 2) := D_21 (by decide +kernel)
theorem dX13_draws_267 : decode cX13_draws 267 = .ok (.iaload, 1) := D_46 (by decide +kernel)
theorem dX13_draws_268 : decode cX13_draws 268 = .ok (.iload 4, 2) := D_21 (by decide +kernel)
theorem dX13_draws_270 : decode cX13_draws 270 = .ok (.if_icmp .eq 6, 3) := D_159 (by decide +kernel)
theorem dX13_draws_273 : decode cX13_draws 273 = .ok (.goto 19, 3) := D_167 (by decide +kernel)
theorem dX13_draws_276 : decode cX13_draws 276 = .ok (.aload_n 0, 1) := D_42 (by decide +kernel)
theorem dX13_draws_277 : decode cX13_draws 277 = .ok (.iload_n 1, 1) := D_27 (by decide +kernel)
theorem dX13_draws_278 : decode cX13_draws 278 = .ok (.iload 5, 2) := D_21 (by decide +kernel)
theorem dX13_draws_280 : decode cX13_draws 280 = .ok (.aload_n 0, 1) := D_42 (by decide +kernel)
theorem dX13_draws_281 : decode cX13_draws 281 = .ok (.getfield 131, 3) := D_180 (by decide +kernel)
theorem dX13_draws_284 : decode cX13_draws 284 = .ok (.iload_n 3, 1) := D_29 (by decide +kernel)
theorem dX13_draws_285 : decode cX13_draws 285 = .ok (.iaload, 1) := D_46 (by decide +kernel)
theorem dX13_draws_286 : decode cX13_draws 286 = .ok (.invokevirtual 491, 3) := D_182 (by decide +kernel)
theorem dX13_draws_289 : decode cX13_draws 289 = .ok (.iinc 3 1, 3) := by decide +kernel
theorem dX13_draws_292 : decode cX13_draws 292 = .ok (.iinc 5 1, 3) := by decide +kernel
theorem dX13_draws_295 : decode cX13_draws 295 = .ok (.goto (-65), 3) := D_167 (by decide +kernel)
theorem dX13_draws_298 : decode cX13_draws 298 = .ok (.iinc 4 1, 3) := by decide +kernel
theorem dX13_draws_301 : decode cX13_draws 301 = .ok (.goto (-81), 3) := D_167 (by decide +kernel)
theorem dX13_draws_304 : decode cX13_draws 304 = .ok (.iconst 0, 1) := D_3 (by decide +kernel)
theorem dX13_draws_305 : decode cX13_draws 305 = .ok (.istore 4, 2) := D_54 (by decide +kernel)
theorem dX13_draws_307 : decode cX13_draws 307 = .ok (.iload 4, 2) := D_21 (by decide +kernel)
theorem dX13_draws_309 : decode cX13_draws 309 = .ok (.bipush 16, 2) := D_16 (by decide +kernel)
theorem dX13_draws_311 : decode cX13_draws 311 = .ok (.if_icmp .ge 17, 3) := D_162 (by decide +kernel)
theorem dX13_draws_314 : decode cX13_draws 314 = .ok (.aload_n 0, 1) := D_42 (by decide +kernel)
theorem dX13_draws_315 : decode cX13_draws 315 = .ok (.getfield 137, 3) := D_180 (by decide +kernel)
theorem dX13_draws_318 : decode cX13_draws 318 = .ok (.iload 4, 2) := D_21 (by decide +kernel)
theorem dX13_draws_320 : decode cX13_draws 320 = .ok (.iconst 0, 1) := D_3 (by decide +kernel)
theorem dX13_draws_321 : decode cX13_draws 321 = .ok (.iastore, 1) := D_79 (by decide +kernel)
theorem dX13_draws_322 : decode cX13_draws 322 = .ok (.iinc 4 1, 3) := by decide +kernel
theorem dX13_draws_325 : decode cX13_draws 325 = .ok (.goto (-18), 3) := D_167 (by decide +kernel)
theorem dX13_draws_328 : decode cX13_draws 328 = .ok (.iconst 0, 1) := D_3 (by decide +kernel)
theorem dX13_draws_329 : decode cX13_draws 329 = .ok (.istore 4, 2) := D_54 (by decide +kernel)
theorem dX13_draws_331 : decode cX13_draws 331 = .ok (.iload 4, 2) := D_21 (by decide +kernel)
theorem dX13_draws_333 : decode cX13_draws 333 = .ok (.aload_n 0, 1) := D_42 (by decide +kernel)
theorem dX13_draws_334 : decode cX13_draws 334 = .ok (.getfield 176, 3) := D_180 (by decide +kernel)
theorem dX13_draws_337 : decode cX13_draws 337 = .ok (.if_icmp .ge 35, 3) := D_162 (by decide +kernel)
theorem dX13_draws_340 : decode cX13_draws 340 = .ok (.aload_n 0, 1) := D_42 (by decide +kernel)
theorem dX13_draws_341 : decode cX13_draws 341 = .ok (.iload_n 1, 1) := D_27 (by decide +kernel)
theorem dX13_draws_342 : decode cX13_draws 342 = .ok (.iload 4, 2) := D_21 (by decide +kernel)
theorem dX13_draws_344 : decode cX13_draws 344 = .ok (.invokevirtual 495, 3) := D_182 (by decide +kernel)
theorem dX13_draws_347 : decode cX13_draws 347 = .ok (.ifCond .eq 19, 3) := D_153 (by decide +kernel)
theorem dX13_draws_350 : decode cX13_draws 350 = .ok (.aload_n 0, 1) := D_42 (by decide +kernel)
theorem dX13_draws_351 : decode cX13_draws 351 = .ok (.getfield 137, 3) := D_180 (by decide +kernel)
theorem dX13_draws_354 : decode cX13_draws 354 = .ok (.aload_n 0, 1) := D_42 (by decide +kernel)
theorem dX13_draws_355 : decode cX13_draws 355 = .ok (.getfield 19, 3) := D_180 (by decide +kernel)
theorem dX13_draws_358 : decode cX13_draws 358 = .ok (.iload 4, 2) := D_21 (by decide +kernel)
theorem dX13_draws_360 : decode cX13_draws 360 = .ok (.iaload, 1) := D_46 (by decide +kernel)
theorem dX13_draws_361 : decode cX13_draws 361 = .ok (.dup2, 1) := D_92 (by decide +kernel)
theorem dX13_draws_362 : decode cX13_draws 362 = .ok (.iaload, 1) := D_46 (by decide +kernel)
theorem dX13_draws_363 : decode cX13_draws 363 = .ok (.iconst 1, 1) := D_4 (by decide +kernel)
theorem dX13_draws_364 : decode cX13_draws 364 = .ok (.iadd, 1) := D_96 (by decide +kernel)
theorem dX13_draws_365 : decode cX13_draws 365 = .ok (.iastore, 1) := D_79 (by decide +kernel)
theorem dX13_draws_366 : decode cX13_draws 366 = .ok (.iinc 4 1, 3) := by decide +kernel
theorem dX13_draws_369 : decode cX13_draws 369 = .ok (.goto (-38), 3) := D_167 (by decide +kernel)
theorem dX13_draws_372 : decode cX13_draws 372 = .ok (.iconst 0, 1) := D_3 (by decide +kernel)
theorem dX13_draws_373 : decode cX13_draws 373 = .ok (.istore 4, 2) := D_54 (by decide +kernel)
theorem dX13_draws_375 : decode cX13_draws 375 = .ok (.iload 4, 2) := D_21 (by decide +kernel)
theorem dX13_draws_377 : decode cX13_draws 377 = .ok (.bipush 16, 2) := D_16 (by decide +kernel)
theorem dX13_draws_379 : decode cX13_draws 379 = .ok (.if_icmp .ge 117, 3) := D_162 (by decide +kernel)
theorem dX13_draws_382 : decode cX13_draws 382 = .ok (.iconst 0, 1) := D_3 (by decide +kernel)
theorem dX13_draws_383 : decode cX13_draws 383 = .ok (.istore 5, 2) := D_54 (by decide +kernel)
theorem dX13_draws_385 : decode cX13_draws 385 = .ok (.iconst 1, 1) := D_4 (by decide +kernel)
theorem dX13_draws_386 : decode cX13_draws 386 = .ok (.istore 6, 2) := D_54 (by decide +kernel)
theorem dX13_draws_388 : decode cX13_draws 388 = .ok (.iload 6, 2) := D_21 (by decide +kernel)
theorem dX13_draws_390 : decode cX13_draws 390 = .ok (.bipush 16, 2) := D_16 (by decide +kernel)
theorem dX13_draws_392 : decode cX13_draws 392 = .ok (.if_icmp .ge 30, 3) := D_162 (by decide +kernel)
theorem dX13_draws_395 : decode cX13_draws 395 = .ok (.aload_n 0, 1) := D_42 (by decide +kernel)
theorem dX13_draws_396 : decode cX13_draws 396 = .ok (.getfield 137, 3) := D_180 (by decide +kernel)
theorem dX13_draws_399 : decode cX13_draws 399 = .ok (.iload 6, 2) := D_21 (by decide +kernel)
theorem dX13_draws_401 : decode cX13_draws 401 = .ok (.iaload, 1) := D_46 (by decide +kernel)
theorem dX13_draws_402 : decode cX13_draws 402 = .ok (.aload_n 0, 1) := D_42 (by decide +kernel)
theorem dX13_draws_403 : decode cX13_draws 403 = .ok (.getfield 137, 3) := D_180 (by decide +kernel)
theorem dX13_draws_406 : decode cX13_draws 406 = .ok (.iload 5, 2) := D_21 (by decide +kernel)
theorem dX13_draws_408 : decode cX13_draws 408 = .ok (.iaload, 1) := D_46 (by decide +kernel)
theorem dX13_draws_409 : decode cX13_draws 409 = .ok (.if_icmp .le 7, 3) := D_164 (by decide +kernel)
theorem dX13_draws_412 : decode cX13_draws 412 = .ok (.iload 6, 2) := D_21 (by decide +kernel)
theorem dX13_draws_414 : decode cX13_draws 414 = .ok (.istore 5, 2) := D_54 (by decide +kernel)
theorem dX13_draws_416 : decode cX13_draws 416 = .ok (.iinc 6 1, 3) := by decide +kernel
theorem dX13_draws_419 : decode cX13_draws 419 = .ok (.goto (-31), 3) := D_167 (by decide +kernel)
theorem dX13_draws_422 : decode cX13_draws 422 = .ok (.iconst 0, 1) := D_3 (by decide +kernel)
theorem dX13_draws_423 : decode cX13_draws 423 = .ok (.istore 6, 2) := D_54 (by decide +kernel)
theorem dX13_draws_425 : decode cX13_draws 425 = .ok (.iload 6, 2) := D_21 (by decide +kernel)
theorem dX13_draws_427 : decode cX13_draws 427 = .ok (.aload_n 0, 1) := D_42 (by decide +kernel)
theorem dX13_draws_428 : decode cX13_draws 428 = .ok (.getfield 176, 3) := D_180 (by decide +kernel)
theorem dX13_draws_431 : decode cX13_draws 431 = .ok (.if_icmp .ge 51, 3) := D_162 (by decide +kernel)
theorem dX13_draws_434 : decode cX13_draws 434 = .ok (.aload_n 0, 1) := D_42 (by decide +kernel)
theorem dX13_draws_435 : decode cX13_draws 435 = .ok (.getfield 19, 3) := D_180 (by decide +kernel)
theorem dX13_draws_438 : decode cX13_draws 438 = .ok (.iload 6, 2) := D_21 (by decide +kernel)
theorem dX13_draws_440 : decode cX13_draws 440 = .ok (.iaload, 1) := D_46 (by decide +kernel)
theorem dX13_draws_441 : decode cX13_draws 441 = .ok (.iload 5, 2) := D_21 (by decide +kernel)
theorem dX13_draws_443 : decode cX13_draws 443 = .ok (.if_icmp .ne 33, 3) := D_160 (by decide +kernel)
theorem dX13_draws_446 : decode cX13_draws 446 = .ok (.aload_n 0, 1) := D_42 (by decide +kernel)
theorem dX13_draws_447 : decode cX13_draws 447 = .ok (.iload_n 1, 1) := D_27 (by decide +kernel)
theorem dX13_draws_448 : decode cX13_draws 448 = .ok (.iload 6, 2) := D_21 (by decide +kernel)
theorem dX13_draws_450 : decode cX13_draws 450 = .ok (.invokevirtual 495, 3) := D_182 (by decide +kernel)
theorem dX13_draws_453 : decode cX13_draws 453 = .ok (.ifCond .eq 23, 3) := D_153 (by decide +kernel)
theorem dX13_draws_456 : decode cX13_draws 456 = .ok (.aload_n 0, 1) := D_42 (by decide +kernel)
theorem dX13_draws_457 : decode cX13_draws 457 = .ok (.iload_n 1, 1) := D_27 (by decide +kernel)
theorem dX13_draws_458 : decode cX13_draws 458 = .ok (.iload 6, 2) := D_21 (by decide +kernel)
theorem dX13_draws_460 : decode cX13_draws 460 = .ok (.aload_n 0, 1) := D_42 (by decide +kernel)
theorem dX13_draws_461 : decode cX13_draws 461 = .ok (.iload_n 1, 1) := D_27 (by decide +kernel)
theorem dX13_draws_462 : decode cX13_draws 462 = .ok (.iload 5, 2) := D_21 (by decide +kernel)
theorem dX13_draws_464 : decode cX13_draws 464 = .ok (.aload_n 0, 1) := D_42 (by decide +kernel)
theorem dX13_draws_465 : decode cX13_draws 465 = .ok (.getfield 40, 3) := D_180 (by decide +kernel)
theorem dX13_draws_468 : decode cX13_draws 468 = .ok (.iload_n 1, 1) := D_27 (by decide +kernel)
theorem dX13_draws_469 : decode cX13_draws 469 = .ok (.iaload, 1) := D_46 (by decide +kernel)
theorem dX13_draws_470 : decode cX13_draws 470 = .ok (.invokevirtual 498, 3) := D_182 (by decide +kernel)
theorem dX13_draws_473 : decode cX13_draws 473 = .ok (.invokevirtual 491, 3) := D_182 (by decide +kernel)
theorem dX13_draws_476 : decode cX13_draws 476 = .ok (.iinc 6 1, 3) := by decide +kernel
theorem dX13_draws_479 : decode cX13_draws 479 = .ok (.goto (-54), 3) := D_167 (by decide +kernel)
theorem dX13_draws_482 : decode cX13_draws 482 = .ok (.aload_n 0, 1) := D_42 (by decide +kernel)
theorem dX13_draws_483 : decode cX13_draws 483 = .ok (.getfield 137, 3) := D_180 (by decide +kernel)
theorem dX13_draws_486 : decode cX13_draws 486 = .ok (.iload 5, 2) := D_21 (by decide +kernel)
theorem dX13_draws_488 : decode cX13_draws 488 = .ok (.iconst (-1), 1) := D_2 (by decide +kernel)
theorem dX13_draws_489 : decode cX13_draws 489 = .ok (.iastore, 1) := D_79 (by decide +kernel)
theorem dX13_draws_490 : decode cX13_draws 490 = .ok (.iinc 4 1, 3) := by decide +kernel
theorem dX13_draws_493 : decode cX13_draws 493 = .ok (.goto (-118), 3) := D_167 (by decide +kernel)
theorem dX13_draws_496 : decode cX13_draws 496 = .ok (.aload_n 0, 1) := D_42 (by decide +kernel)
theorem dX13_draws_497 : decode cX13_draws 497 = .ok (.iload_n 1, 1) := D_27 (by decide +kernel)
theorem dX13_draws_498 : decode cX13_draws 498 = .ok (.invokevirtual 218, 3) := D_182 (by decide +kernel)
theorem dX13_draws_501 : decode cX13_draws 501 = .ok (.ireturn, 1) := D_172 (by decide +kernel)
theorem kSX13_draws : yX13_draws.cls ≠ "java/lang/invoke/MethodHandle" ∧ yX13_draws.cls ≠ "java/lang/invoke/VarHandle" ∧ (parseMethodDescriptor yX13_draws.desc).map (fun d => d.parameters.length) = some 1 := by decide +kernel
theorem kVX13_draws : yX13_draws.cls = RX13 ∧ yX13_draws.cls ≠ "java/lang/invoke/MethodHandle" ∧ yX13_draws.cls ≠ "java/lang/invoke/VarHandle" ∧ (parseMethodDescriptor yX13_draws.desc).map (fun d => d.parameters.length) = some 1 := ⟨rfl, kSX13_draws⟩
theorem dX13_isOther_0 : decode cX13_isOther 0 = .ok (.aload_n 0, 1) := D_42 (by decide +kernel)
theorem dX13_isOther_1 : decode cX13_isOther 1 = .ok (.getfield 16, 3) := D_180 (by decide +kernel)
theorem dX13_isOther_4 : decode cX13_isOther 4 = .ok (.iload_n 2, 1) := D_28 (by decide +kernel)
theorem dX13_isOther_5 : decode cX13_isOther 5 = .ok (.iaload, 1) := D_46 (by decide +kernel)
theorem dX13_isOther_6 : decode cX13_isOther 6 = .ok (.iload_n 1, 1) := D_27 (by decide +kernel)
theorem dX13_isOther_7 : decode cX13_isOther 7 = .ok (.if_icmp .ne 26, 3) := D_160 (by decide +kernel)
theorem dX13_isOther_10 : decode cX13_isOther 10 = .ok (.aload_n 0, 1) := D_42 (by decide +kernel)
theorem dX13_isOther_11 : decode cX13_isOther 11 = .ok (.getfield 25, 3) := D_180 (by decide +kernel)
theorem dX13_isOther_14 : decode cX13_isOther 14 = .ok (.iload_n 2, 1) := D_28 (by decide +kernel)
theorem dX13_isOther_15 : decode cX13_isOther 15 = .ok (.iaload, 1) := D_46 (by decide +kernel)
theorem dX13_isOther_16 : decode cX13_isOther 16 = .ok (.iconst 1, 1) := D_4 (by decide +kernel)
theorem dX13_isOther_17 : decode cX13_isOther 17 = .ok (.if_icmp .ne 16, 3) := D_160 (by decide +kernel)
theorem dX13_isOther_20 : decode cX13_isOther 20 = .ok (.aload_n 0, 1) := D_42 (by decide +kernel)
theorem dX13_isOther_21 : decode cX13_isOther 21 = .ok (.getfield 28, 3) := D_180 (by decide +kernel)
theorem dX13_isOther_24 : decode cX13_isOther 24 = .ok (.iload_n 2, 1) := D_28 (by decide +kernel)
theorem dX13_isOther_25 : decode cX13_isOther 25 = .ok (.iaload, 1) := D_46 (by decide +kernel)
theorem dX13_isOther_26 : decode cX13_isOther 26 = .ok (.ifCond .ne 7, 3) := D_154 (by decide +kernel)
theorem dX13_isOther_29 : decode cX13_isOther 29 = .ok (.iconst 1, 1) := D_4 (by decide +kernel)
theorem dX13_isOther_30 : decode cX13_isOther 30 = .ok (.goto 4, 3) := D_167 (by decide +kernel)
theorem dX13_isOther_33 : decode cX13_isOther 33 = .ok (.iconst 0, 1) := D_3 (by decide +kernel)
theorem dX13_isOther_34 : decode cX13_isOther 34 = .ok (.ireturn, 1) := D_172 (by decide +kernel)
theorem kSX13_isOther : yX13_isOther.cls ≠ "java/lang/invoke/MethodHandle" ∧ yX13_isOther.cls ≠ "java/lang/invoke/VarHandle" ∧ (parseMethodDescriptor yX13_isOther.desc).map (fun d => d.parameters.length) = some 2 := by decide +kernel
theorem kVX13_isOther : yX13_isOther.cls = RX13 ∧ yX13_isOther.cls ≠ "java/lang/invoke/MethodHandle" ∧ yX13_isOther.cls ≠ "java/lang/invoke/VarHandle" ∧ (parseMethodDescriptor yX13_isOther.desc).map (fun d => d.parameters.length) = some 2 := ⟨rfl, kSX13_isOther⟩
theorem dX13_settle_0 : decode cX13_settle 0 = .ok (.aload_n 0, 1) := D_42 (by decide +kernel)
theorem dX13_settle_1 : decode cX13_settle 1 = .ok (.getfield 43, 3) := D_180 (by decide +kernel)
theorem dX13_settle_4 : decode cX13_settle 4 = .ok (.bipush 32, 2) := D_16 (by decide +kernel)
theorem dX13_settle_6 : decode cX13_settle 6 = .ok (.iload_n 1, 1) := D_27 (by decide +kernel)
theorem dX13_settle_7 : decode cX13_settle 7 = .ok (.imul, 1) := D_104 (by decide +kernel)
theorem dX13_settle_8 : decode cX13_settle 8 = .ok (.iload_n 3, 1) := D_29 (by decide +kernel)
theorem dX13_settle_9 : decode cX13_settle 9 = .ok (.iadd, 1) := D_96 (by decide +kernel)
theorem dX13_settle_10 : decode cX13_settle 10 = .ok (.iload_n 2, 1) := D_28 (by decide +kernel)
theorem dX13_settle_11 : decode cX13_settle 11 = .ok (.iastore, 1) := D_79 (by decide +kernel)
theorem dX13_settle_12 : decode cX13_settle 12 = .ok (.aload_n 0, 1) := D_42 (by decide +kernel)
theorem dX13_settle_13 : decode cX13_settle 13 = .ok (.getfield 31, 3) := D_180 (by decide +kernel)
theorem dX13_settle_16 : decode cX13_settle 16 = .ok (.iload_n 2, 1) := D_28 (by decide +kernel)
theorem dX13_settle_17 : decode cX13_settle 17 = .ok (.iload_n 3, 1) := D_29 (by decide +kernel)
theorem dX13_settle_18 : decode cX13_settle 18 = .ok (.iastore, 1) := D_79 (by decide +kernel)
theorem dX13_settle_19 : decode cX13_settle 19 = .ok (.aload_n 0, 1) := D_42 (by decide +kernel)
theorem dX13_settle_20 : decode cX13_settle 20 = .ok (.getfield 140, 3) := D_180 (by decide +kernel)
theorem dX13_settle_23 : decode cX13_settle 23 = .ok (.iload_n 3, 1) := D_29 (by decide +kernel)
theorem dX13_settle_24 : decode cX13_settle 24 = .ok (.iconst 1, 1) := D_4 (by decide +kernel)
theorem dX13_settle_25 : decode cX13_settle 25 = .ok (.bastore, 1) := D_84 (by decide +kernel)
theorem dX13_settle_26 : decode cX13_settle 26 = .ok (.return_, 1) := D_177 (by decide +kernel)
theorem kSX13_settle : yX13_settle.cls ≠ "java/lang/invoke/MethodHandle" ∧ yX13_settle.cls ≠ "java/lang/invoke/VarHandle" ∧ (parseMethodDescriptor yX13_settle.desc).map (fun d => d.parameters.length) = some 3 := by decide +kernel
theorem kVX13_settle : yX13_settle.cls = RX13 ∧ yX13_settle.cls ≠ "java/lang/invoke/MethodHandle" ∧ yX13_settle.cls ≠ "java/lang/invoke/VarHandle" ∧ (parseMethodDescriptor yX13_settle.desc).map (fun d => d.parameters.length) = some 3 := ⟨rfl, kSX13_settle⟩
theorem dX13_bestPlace_0 : decode cX13_bestPlace 0 = .ok (.iconst (-1), 1) := D_2 (by decide +kernel)
theorem dX13_bestPlace_1 : decode cX13_bestPlace 1 = .ok (.istore 4, 2) := D_54 (by decide +kernel)
theorem dX13_bestPlace_3 : decode cX13_bestPlace 3 = .ok (.iconst (-1), 1) := D_2 (by decide +kernel)
theorem dX13_bestPlace_4 : decode cX13_bestPlace 4 = .ok (.istore 5, 2) := D_54 (by decide +kernel)
theorem dX13_bestPlace_6 : decode cX13_bestPlace 6 = .ok (.iconst 0, 1) := D_3 (by decide +kernel)
theorem dX13_bestPlace_7 : decode cX13_bestPlace 7 = .ok (.istore 6, 2) := D_54 (by decide +kernel)
theorem dX13_bestPlace_9 : decode cX13_bestPlace 9 = .ok (.iload 6, 2) := D_21 (by decide +kernel)
theorem dX13_bestPlace_11 : decode cX13_bestPlace 11 = .ok (.iload_n 3, 1) := D_29 (by decide +kernel)
theorem dX13_bestPlace_12 : decode cX13_bestPlace 12 = .ok (.if_icmp .ge 137, 3) := D_162 (by decide +kernel)
theorem dX13_bestPlace_15 : decode cX13_bestPlace 15 = .ok (.aload_n 0, 1) := D_42 (by decide +kernel)
theorem dX13_bestPlace_16 : decode cX13_bestPlace 16 = .ok (.getfield 131, 3) := D_180 (by decide +kernel)
theorem dX13_bestPlace_19 : decode cX13_bestPlace 19 = .ok (.iload 6, 2) := D_21 (by decide +kernel)
theorem dX13_bestPlace_21 : decode cX13_bestPlace 21 = .ok (.iaload, 1) := D_46 (by decide +kernel)
theorem dX13_bestPlace_22 : decode cX13_bestPlace 22 = .ok (.istore 7, 2) := D_54 (by decide +kernel)
theorem dX13_bestPlace_24 : decode cX13_bestPlace 24 = .ok (.aload_n 0, 1) := D_42 (by decide +kernel)
theorem dX13_bestPlace_25 : decode cX13_bestPlace 25 = .ok (.getfield 140, 3) := D_180 (by decide +kernel)
theorem dX13_bestPlace_28 : decode cX13_bestPlace 28 = .ok (.iload 7, 2) := D_21 (by decide +kernel)
theorem dX13_bestPlace_30 : decode cX13_bestPlace 30 = .ok (.baload, 1) := D_51 (by decide +kernel)
theorem dX13_bestPlace_31 : decode cX13_bestPlace 31 = .ok (.ifCond .eq 6, 3) := D_153 (by decide +kernel)
theorem dX13_bestPlace_34 : decode cX13_bestPlace 34 = .ok (.goto 109, 3) := D_167 (by decide +kernel)
theorem dX13_bestPlace_37 : decode cX13_bestPlace 37 = .ok (.bipush 99, 2) := D_16 (by decide +kernel)
theorem dX13_bestPlace_39 : decode cX13_bestPlace 39 = .ok (.istore 8, 2) := D_54 (by decide +kernel)
theorem dX13_bestPlace_41 : decode cX13_bestPlace 41 = .ok (.iconst 0, 1) := D_3 (by decide +kernel)
theorem dX13_bestPlace_42 : decode cX13_bestPlace 42 = .ok (.istore 9, 2) := D_54 (by decide +kernel)
theorem dX13_bestPlace_44 : decode cX13_bestPlace 44 = .ok (.iload 9, 2) := D_21 (by decide +kernel)
theorem dX13_bestPlace_46 : decode cX13_bestPlace 46 = .ok (.iload_n 3, 1) := D_29 (by decide +kernel)
theorem dX13_bestPlace_47 : decode cX13_bestPlace 47 = .ok (.if_icmp .ge 78, 3) := D_162 (by decide +kernel)
theorem dX13_bestPlace_50 : decode cX13_bestPlace 50 = .ok (.aload_n 0, 1) := D_42 (by decide +kernel)
theorem dX13_bestPlace_51 : decode cX13_bestPlace 51 = .ok (.getfield 43, 3) := D_180 (by decide +kernel)
theorem dX13_bestPlace_54 : decode cX13_bestPlace 54 = .ok (.bipush 32, 2) := D_16 (by decide +kernel)
theorem dX13_bestPlace_56 : decode cX13_bestPlace 56 = .ok (.iload_n 1, 1) := D_27 (by decide +kernel)
theorem dX13_bestPlace_57 : decode cX13_bestPlace 57 = .ok (.imul, 1) := D_104 (by decide +kernel)
theorem dX13_bestPlace_58 : decode cX13_bestPlace 58 = .ok (.iload 9, 2) := D_21 (by decide +kernel)
theorem dX13_bestPlace_60 : decode cX13_bestPlace 60 = .ok (.iadd, 1) := D_96 (by decide +kernel)
theorem dX13_bestPlace_61 : decode cX13_bestPlace 61 = .ok (.iaload, 1) := D_46 (by decide +kernel)
theorem dX13_bestPlace_62 : decode cX13_bestPlace 62 = .ok (.istore 10, 2) := D_54 (by decide +kernel)
theorem dX13_bestPlace_64 : decode cX13_bestPlace 64 = .ok (.iload 10, 2) := D_21 (by decide +kernel)
theorem dX13_bestPlace_66 : decode cX13_bestPlace 66 = .ok (.iconst (-1), 1) := D_2 (by decide +kernel)
theorem dX13_bestPlace_67 : decode cX13_bestPlace 67 = .ok (.if_icmp .eq 52, 3) := D_159 (by decide +kernel)
theorem dX13_bestPlace_70 : decode cX13_bestPlace 70 = .ok (.aload_n 0, 1) := D_42 (by decide +kernel)
theorem dX13_bestPlace_71 : decode cX13_bestPlace 71 = .ok (.getfield 19, 3) := D_180 (by decide +kernel)
theorem dX13_bestPlace_74 : decode cX13_bestPlace 74 = .ok (.iload 10, 2) := D_21 (by decide +kernel)
theorem dX13_bestPlace_76 : decode cX13_bestPlace 76 = .ok (.iaload, 1) := D_46 (by decide +kernel)
theorem dX13_bestPlace_77 : decode cX13_bestPlace 77 = .ok (.iload_n 2, 1) := D_28 (by decide +kernel)
theorem dX13_bestPlace_78 : decode cX13_bestPlace 78 = .ok (.if_icmp .eq 6, 3) := D_159 (by decide +kernel)
theorem dX13_bestPlace_81 : decode cX13_bestPlace 81 = .ok (.goto 38, 3) := D_167 (by decide +kernel)
theorem dX13_bestPlace_84 : decode cX13_bestPlace 84 = .ok (.iconst 0, 1) := D_3 (by decide +kernel)
theorem dX13_bestPlace_85 : decode cX13_bestPlace 85 = .ok (.istore 11, 2) := D_54 (by decide +kernel)
theorem dX13_bestPlace_87 : decode cX13_bestPlace 87 = .ok (.iload 7, 2) := D_21 (by decide +kernel)
theorem dX13_bestPlace_89 : decode cX13_bestPlace 89 = .ok (.iload 11, 2) := D_21 (by decide +kernel)
theorem dX13_bestPlace_91 : decode cX13_bestPlace 91 = .ok (.iconst 1, 1) := D_4 (by decide +kernel)
theorem dX13_bestPlace_92 : decode cX13_bestPlace 92 = .ok (.iadd, 1) := D_96 (by decide +kernel)
theorem dX13_bestPlace_93 : decode cX13_bestPlace 93 = .ok (.ishr, 1) := D_122 (by decide +kernel)
theorem dX13_bestPlace_94 : decode cX13_bestPlace 94 = .ok (.iload 9, 2) := D_21 (by decide +kernel)
theorem dX13_bestPlace_96 : decode cX13_bestPlace 96 = .ok (.iload 11, 2) := D_21 (by decide +kernel)
theorem dX13_bestPlace_98 : decode cX13_bestPlace 98 = .ok (.iconst 1, 1) := D_4 (by decide +kernel)
theorem dX13_bestPlace_99 : decode cX13_bestPlace 99 = .ok (.iadd, 1) := D_96 (by decide +kernel)
theorem dX13_bestPlace_100 : decode cX13_bestPlace 100 = .ok (.ishr, 1) := D_122 (by decide +kernel)
theorem dX13_bestPlace_101 : decode cX13_bestPlace 101 = .ok (.if_icmp .eq 9, 3) := D_159 (by decide +kernel)
theorem dX13_bestPlace_104 : decode cX13_bestPlace 104 = .ok (.iinc 11 1, 3) := by decide +kernel
theorem dX13_bestPlace_107 : decode cX13_bestPlace 107 = .ok (.goto (-20), 3) := D_167 (by decide +kernel)
theorem dX13_bestPlace_110 : decode cX13_bestPlace 110 = .ok (.iload 8, 2) := D_21 (by decide +kernel)
theorem dX13_bestPlace_112 : decode cX13_bestPlace 112 = .ok (.iload 11, 2) := D_21 (by decide +kernel)
theorem dX13_bestPlace_114 : decode cX13_bestPlace 114 = .ok (.invokestatic 436, 3) := D_184 (by decide +kernel)
theorem dX13_bestPlace_117 : decode cX13_bestPlace 117 = .ok (.istore 8, 2) := D_54 (by decide +kernel)
theorem dX13_bestPlace_119 : decode cX13_bestPlace 119 = .ok (.iinc 9 1, 3) := by decide +kernel
theorem dX13_bestPlace_122 : decode cX13_bestPlace 122 = .ok (.goto (-78), 3) := D_167 (by decide +kernel)
theorem dX13_bestPlace_125 : decode cX13_bestPlace 125 = .ok (.iload 8, 2) := D_21 (by decide +kernel)
theorem dX13_bestPlace_127 : decode cX13_bestPlace 127 = .ok (.iload 5, 2) := D_21 (by decide +kernel)
theorem dX13_bestPlace_129 : decode cX13_bestPlace 129 = .ok (.if_icmp .gt 6, 3) := D_163 (by decide +kernel)
theorem dX13_bestPlace_132 : decode cX13_bestPlace 132 = .ok (.goto 11, 3) := D_167 (by decide +kernel)
theorem dX13_bestPlace_135 : decode cX13_bestPlace 135 = .ok (.iload 8, 2) := D_21 (by decide +kernel)
theorem dX13_bestPlace_137 : decode cX13_bestPlace 137 = .ok (.istore 5, 2) := D_54 (by decide +kernel)
theorem dX13_bestPlace_139 : decode cX13_bestPlace 139 = .ok (.iload 7, 2) := D_21 (by decide +kernel)
theorem dX13_bestPlace_141 : decode cX13_bestPlace 141 = .ok (.istore 4, 2) := D_54 (by decide +kernel)
theorem dX13_bestPlace_143 : decode cX13_bestPlace 143 = .ok (.iinc 6 1, 3) := by decide +kernel
theorem dX13_bestPlace_146 : decode cX13_bestPlace 146 = .ok (.goto (-137), 3) := D_167 (by decide +kernel)
theorem dX13_bestPlace_149 : decode cX13_bestPlace 149 = .ok (.iload 4, 2) := D_21 (by decide +kernel)
theorem dX13_bestPlace_151 : decode cX13_bestPlace 151 = .ok (.ireturn, 1) := D_172 (by decide +kernel)
theorem kSX13_bestPlace : yX13_bestPlace.cls ≠ "java/lang/invoke/MethodHandle" ∧ yX13_bestPlace.cls ≠ "java/lang/invoke/VarHandle" ∧ (parseMethodDescriptor yX13_bestPlace.desc).map (fun d => d.parameters.length) = some 3 := by decide +kernel
theorem kVX13_bestPlace : yX13_bestPlace.cls = RX13 ∧ yX13_bestPlace.cls ≠ "java/lang/invoke/MethodHandle" ∧ yX13_bestPlace.cls ≠ "java/lang/invoke/VarHandle" ∧ (parseMethodDescriptor yX13_bestPlace.desc).map (fun d => d.parameters.length) = some 3 := ⟨rfl, kSX13_bestPlace⟩
theorem dX13_matOf_0 : decode cX13_matOf 0 = .ok (.iconst 0, 1) := D_3 (by decide +kernel)
theorem dX13_matOf_1 : decode cX13_matOf 1 = .ok (.istore_n 3, 1) := D_62 (by decide +kernel)
theorem dX13_matOf_2 : decode cX13_matOf 2 = .ok (.iload_n 3, 1) := D_29 (by decide +kernel)
theorem dX13_matOf_3 : decode cX13_matOf 3 = .ok (.iconst 4, 1) := D_7 (by decide +kernel)
theorem dX13_matOf_4 : decode cX13_matOf 4 = .ok (.if_icmp .ge 26, 3) := D_162 (by decide +kernel)
theorem dX13_matOf_7 : decode cX13_matOf 7 = .ok (.aload_n 0, 1) := D_42 (by decide +kernel)
theorem dX13_matOf_8 : decode cX13_matOf 8 = .ok (.getfield 67, 3) := D_180 (by decide +kernel)
theorem dX13_matOf_11 : decode cX13_matOf 11 = .ok (.iload_n 3, 1) := D_29 (by decide +kernel)
theorem dX13_matOf_12 : decode cX13_matOf 12 = .ok (.iaload, 1) := D_46 (by decide +kernel)
theorem dX13_matOf_13 : decode cX13_matOf 13 = .ok (.bipush 40, 2) := D_16 (by decide +kernel)
theorem dX13_matOf_15 : decode cX13_matOf 15 = .ok (.iload_n 1, 1) := D_27 (by decide +kernel)
theorem dX13_matOf_16 : decode cX13_matOf 16 = .ok (.imul, 1) := D_104 (by decide +kernel)
theorem dX13_matOf_17 : decode cX13_matOf 17 = .ok (.iload_n 2, 1) := D_28 (by decide +kernel)
theorem dX13_matOf_18 : decode cX13_matOf 18 = .ok (.iadd, 1) := D_96 (by decide +kernel)
theorem dX13_matOf_19 : decode cX13_matOf 19 = .ok (.if_icmp .ne 5, 3) := D_160 (by decide +kernel)
theorem dX13_matOf_22 : decode cX13_matOf 22 = .ok (.iload_n 3, 1) := D_29 (by decide +kernel)
theorem dX13_matOf_23 : decode cX13_matOf 23 = .ok (.ireturn, 1) := D_172 (by decide +kernel)
theorem dX13_matOf_24 : decode cX13_matOf 24 = .ok (.iinc 3 1, 3) := by decide +kernel
theorem dX13_matOf_27 : decode cX13_matOf 27 = .ok (.goto (-25), 3) := D_167 (by decide +kernel)
theorem dX13_matOf_30 : decode cX13_matOf 30 = .ok (.iconst (-1), 1) := D_2 (by decide +kernel)
theorem dX13_matOf_31 : decode cX13_matOf 31 = .ok (.ireturn, 1) := D_172 (by decide +kernel)
theorem kSX13_matOf : yX13_matOf.cls ≠ "java/lang/invoke/MethodHandle" ∧ yX13_matOf.cls ≠ "java/lang/invoke/VarHandle" ∧ (parseMethodDescriptor yX13_matOf.desc).map (fun d => d.parameters.length) = some 2 := by decide +kernel
theorem kVX13_matOf : yX13_matOf.cls = RX13 ∧ yX13_matOf.cls ≠ "java/lang/invoke/MethodHandle" ∧ yX13_matOf.cls ≠ "java/lang/invoke/VarHandle" ∧ (parseMethodDescriptor yX13_matOf.desc).map (fun d => d.parameters.length) = some 2 := ⟨rfl, kSX13_matOf⟩
theorem dX13_rests_0 : decode cX13_rests 0 = .ok (.aload_n 0, 1) := D_42 (by decide +kernel)
theorem dX13_rests_1 : decode cX13_rests 1 = .ok (.getfield 34, 3) := D_180 (by decide +kernel)
theorem dX13_rests_4 : decode cX13_rests 4 = .ok (.iload_n 1, 1) := D_27 (by decide +kernel)
theorem dX13_rests_5 : decode cX13_rests 5 = .ok (.iaload, 1) := D_46 (by decide +kernel)
theorem dX13_rests_6 : decode cX13_rests 6 = .ok (.iconst (-1), 1) := D_2 (by decide +kernel)
theorem dX13_rests_7 : decode cX13_rests 7 = .ok (.if_icmp .eq 25, 3) := D_159 (by decide +kernel)
theorem dX13_rests_10 : decode cX13_rests 10 = .ok (.aload_n 0, 1) := D_42 (by decide +kernel)
theorem dX13_rests_11 : decode cX13_rests 11 = .ok (.getfield 179, 3) := D_180 (by decide +kernel)
theorem dX13_rests_14 : decode cX13_rests 14 = .ok (.aload_n 0, 1) := D_42 (by decide +kernel)
theorem dX13_rests_15 : decode cX13_rests 15 = .ok (.getfield 34, 3) := D_180 (by decide +kernel)
theorem dX13_rests_18 : decode cX13_rests 18 = .ok (.iload_n 1, 1) := D_27 (by decide +kernel)
theorem dX13_rests_19 : decode cX13_rests 19 = .ok (.iaload, 1) := D_46 (by decide +kernel)
theorem dX13_rests_20 : decode cX13_rests 20 = .ok (.isub, 1) := D_100 (by decide +kernel)
theorem dX13_rests_21 : decode cX13_rests 21 = .ok (.aload_n 0, 1) := D_42 (by decide +kernel)
theorem dX13_rests_22 : decode cX13_rests 22 = .ok (.getfield 182, 3) := D_180 (by decide +kernel)
theorem dX13_rests_25 : decode cX13_rests 25 = .ok (.if_icmp .ge 7, 3) := D_162 (by decide +kernel)
theorem dX13_rests_28 : decode cX13_rests 28 = .ok (.iconst 1, 1) := D_4 (by decide +kernel)
theorem dX13_rests_29 : decode cX13_rests 29 = .ok (.goto 4, 3) := D_167 (by decide +kernel)
theorem dX13_rests_32 : decode cX13_rests 32 = .ok (.iconst 0, 1) := D_3 (by decide +kernel)
theorem dX13_rests_33 : decode cX13_rests 33 = .ok (.istore_n 2, 1) := D_61 (by decide +kernel)
theorem dX13_rests_34 : decode cX13_rests 34 = .ok (.iconst 0, 1) := D_3 (by decide +kernel)
theorem dX13_rests_35 : decode cX13_rests 35 = .ok (.istore_n 3, 1) := D_62 (by decide +kernel)
theorem dX13_rests_36 : decode cX13_rests 36 = .ok (.iload_n 3, 1) := D_29 (by decide +kernel)
theorem dX13_rests_37 : decode cX13_rests 37 = .ok (.iconst 4, 1) := D_7 (by decide +kernel)
theorem dX13_rests_38 : decode cX13_rests 38 = .ok (.if_icmp .ge 59, 3) := D_162 (by decide +kernel)
theorem dX13_rests_41 : decode cX13_rests 41 = .ok (.iload_n 2, 1) := D_28 (by decide +kernel)
theorem dX13_rests_42 : decode cX13_rests 42 = .ok (.ifCond .ne 43, 3) := D_154 (by decide +kernel)
theorem dX13_rests_45 : decode cX13_rests 45 = .ok (.aload_n 0, 1) := D_42 (by decide +kernel)
theorem dX13_rests_46 : decode cX13_rests 46 = .ok (.getfield 67, 3) := D_180 (by decide +kernel)
theorem dX13_rests_49 : decode cX13_rests 49 = .ok (.iload_n 3, 1) := D_29 (by decide +kernel)
theorem dX13_rests_50 : decode cX13_rests 50 = .ok (.iaload, 1) := D_46 (by decide +kernel)
theorem dX13_rests_51 : decode cX13_rests 51 = .ok (.iconst (-1), 1) := D_2 (by decide +kernel)
theorem dX13_rests_52 : decode cX13_rests 52 = .ok (.if_icmp .eq 37, 3) := D_159 (by decide +kernel)
theorem dX13_rests_55 : decode cX13_rests 55 = .ok (.aload_n 0, 1) := D_42 (by decide +kernel)
theorem dX13_rests_56 : decode cX13_rests 56 = .ok (.getfield 49, 3) := D_180 (by decide +kernel)
theorem dX13_rests_59 : decode cX13_rests 59 = .ok (.aload_n 0, 1) := D_42 (by decide +kernel)
theorem dX13_rests_60 : decode cX13_rests 60 = .ok (.getfield 67, 3) := D_180 (by decide +kernel)
theorem dX13_rests_63 : decode cX13_rests 63 = .ok (.iload_n 3, 1) := D_29 (by decide +kernel)
theorem dX13_rests_64 : decode cX13_rests 64 = .ok (.iaload, 1) := D_46 (by decide +kernel)
theorem dX13_rests_65 : decode cX13_rests 65 = .ok (.iaload, 1) := D_46 (by decide +kernel)
theorem dX13_rests_66 : decode cX13_rests 66 = .ok (.iload_n 1, 1) := D_27 (by decide +kernel)
theorem dX13_rests_67 : decode cX13_rests 67 = .ok (.if_icmp .eq 18, 3) := D_159 (by decide +kernel)
theorem dX13_rests_70 : decode cX13_rests 70 = .ok (.aload_n 0, 1) := D_42 (by decide +kernel)
theorem dX13_rests_71 : decode cX13_rests 71 = .ok (.getfield 52, 3) := D_180 (by decide +kernel)
theorem dX13_rests_74 : decode cX13_rests 74 = .ok (.aload_n 0, 1) := D_42 (by decide +kernel)
theorem dX13_rests_75 : decode cX13_rests 75 = .ok (.getfield 67, 3) := D_180 (by decide +kernel)
theorem dX13_rests_78 : decode cX13_rests 78 = .ok (.iload_n 3, 1) := D_29 (by decide +kernel)
theorem dX13_rests_79 : decode cX13_rests 79 = .ok (.iaload, 1) := D_46 (by decide +kernel)
theorem dX13_rests_80 : decode cX13_rests 80 = .ok (.iaload, 1) := D_46 (by decide +kernel)
theorem dX13_rests_81 : decode cX13_rests 81 = .ok (.iload_n 1, 1) := D_27 (by decide +kernel)
theorem dX13_rests_82 : decode cX13_rests 82 = .ok (.if_icmp .ne 7, 3) := D_160 (by decide +kernel)
theorem dX13_rests_85 : decode cX13_rests 85 = .ok (.iconst 1, 1) := D_4 (by decide +kernel)
theorem dX13_rests_86 : decode cX13_rests 86 = .ok (.goto 4, 3) := D_167 (by decide +kernel)
theorem dX13_rests_89 : decode cX13_rests 89 = .ok (.iconst 0, 1) := D_3 (by decide +kernel)
theorem dX13_rests_90 : decode cX13_rests 90 = .ok (.istore_n 2, 1) := D_61 (by decide +kernel)
theorem dX13_rests_91 : decode cX13_rests 91 = .ok (.iinc 3 1, 3) := by decide +kernel
theorem dX13_rests_94 : decode cX13_rests 94 = .ok (.goto (-58), 3) := D_167 (by decide +kernel)
theorem dX13_rests_97 : decode cX13_rests 97 = .ok (.iload_n 2, 1) := D_28 (by decide +kernel)
theorem dX13_rests_98 : decode cX13_rests 98 = .ok (.ireturn, 1) := D_172 (by decide +kernel)
theorem kSX13_rests : yX13_rests.cls ≠ "java/lang/invoke/MethodHandle" ∧ yX13_rests.cls ≠ "java/lang/invoke/VarHandle" ∧ (parseMethodDescriptor yX13_rests.desc).map (fun d => d.parameters.length) = some 1 := by decide +kernel
theorem kVX13_rests : yX13_rests.cls = RX13 ∧ yX13_rests.cls ≠ "java/lang/invoke/MethodHandle" ∧ yX13_rests.cls ≠ "java/lang/invoke/VarHandle" ∧ (parseMethodDescriptor yX13_rests.desc).map (fun d => d.parameters.length) = some 1 := ⟨rfl, kSX13_rests⟩
theorem dX13_begins_0 : decode cX13_begins 0 = .ok (.bipush 40, 2) := D_16 (by decide +kernel)
theorem dX13_begins_2 : decode cX13_begins 2 = .ok (.iload_n 1, 1) := D_27 (by decide +kernel)
theorem dX13_begins_3 : decode cX13_begins 3 = .ok (.imul, 1) := D_104 (by decide +kernel)
theorem dX13_begins_4 : decode cX13_begins 4 = .ok (.iload_n 2, 1) := D_28 (by decide +kernel)
theorem dX13_begins_5 : decode cX13_begins 5 = .ok (.iadd, 1) := D_96 (by decide +kernel)
theorem dX13_begins_6 : decode cX13_begins 6 = .ok (.istore 4, 2) := D_54 (by decide +kernel)
theorem dX13_begins_8 : decode cX13_begins 8 = .ok (.aload_n 0, 1) := D_42 (by decide +kernel)
theorem dX13_begins_9 : decode cX13_begins 9 = .ok (.getfield 46, 3) := D_180 (by decide +kernel)
theorem dX13_begins_12 : decode cX13_begins 12 = .ok (.iload 4, 2) := D_21 (by decide +kernel)
theorem dX13_begins_14 : decode cX13_begins 14 = .ok (.iconst 1, 1) := D_4 (by decide +kernel)
theorem dX13_begins_15 : decode cX13_begins 15 = .ok (.iastore, 1) := D_79 (by decide +kernel)
theorem dX13_begins_16 : decode cX13_begins 16 = .ok (.aload_n 0, 1) := D_42 (by decide +kernel)
theorem dX13_begins_17 : decode cX13_begins 17 = .ok (.getfield 49, 3) := D_180 (by decide +kernel)
theorem dX13_begins_20 : decode cX13_begins 20 = .ok (.iload 4, 2) := D_21 (by decide +kernel)
theorem dX13_begins_22 : decode cX13_begins 22 = .ok (.aload_n 0, 1) := D_42 (by decide +kernel)
theorem dX13_begins_23 : decode cX13_begins 23 = .ok (.iload_n 1, 1) := D_27 (by decide +kernel)
theorem dX13_begins_24 : decode cX13_begins 24 = .ok (.iload_n 2, 1) := D_28 (by decide +kernel)
theorem dX13_begins_25 : decode cX13_begins 25 = .ok (.iconst 0, 1) := D_3 (by decide +kernel)
theorem dX13_begins_26 : decode cX13_begins 26 = .ok (.invokevirtual 252, 3) := D_182 (by decide +kernel)
theorem dX13_begins_29 : decode cX13_begins 29 = .ok (.iastore, 1) := D_79 (by decide +kernel)
theorem dX13_begins_30 : decode cX13_begins 30 = .ok (.aload_n 0, 1) := D_42 (by decide +kernel)
theorem dX13_begins_31 : decode cX13_begins 31 = .ok (.getfield 52, 3) := D_180 (by decide +kernel)
theorem dX13_begins_34 : decode cX13_begins 34 = .ok (.iload 4, 2) := D_21 (by decide +kernel)
theorem dX13_begins_36 : decode cX13_begins 36 = .ok (.aload_n 0, 1) := D_42 (by decide +kernel)
theorem dX13_begins_37 : decode cX13_begins 37 = .ok (.iload_n 1, 1) := D_27 (by decide +kernel)
theorem dX13_begins_38 : decode cX13_begins 38 = .ok (.iload_n 2, 1) := D_28 (by decide +kernel)
theorem dX13_begins_39 : decode cX13_begins 39 = .ok (.iconst 1, 1) := D_4 (by decide +kernel)
theorem dX13_begins_40 : decode cX13_begins 40 = .ok (.invokevirtual 252, 3) := D_182 (by decide +kernel)
theorem dX13_begins_43 : decode cX13_begins 43 = .ok (.iastore, 1) := D_79 (by decide +kernel)
theorem dX13_begins_44 : decode cX13_begins 44 = .ok (.aload_n 0, 1) := D_42 (by decide +kernel)
theorem dX13_begins_45 : decode cX13_begins 45 = .ok (.getfield 67, 3) := D_180 (by decide +kernel)
theorem dX13_begins_48 : decode cX13_begins 48 = .ok (.iload_n 3, 1) := D_29 (by decide +kernel)
theorem dX13_begins_49 : decode cX13_begins 49 = .ok (.iload 4, 2) := D_21 (by decide +kernel)
theorem dX13_begins_51 : decode cX13_begins 51 = .ok (.iastore, 1) := D_79 (by decide +kernel)
theorem dX13_begins_52 : decode cX13_begins 52 = .ok (.aload_n 0, 1) := D_42 (by decide +kernel)
theorem dX13_begins_53 : decode cX13_begins 53 = .ok (.getfield 70, 3) := D_180 (by decide +kernel)
theorem dX13_begins_56 : decode cX13_begins 56 = .ok (.iload_n 3, 1) := D_29 (by decide +kernel)
theorem dX13_begins_57 : decode cX13_begins 57 = .ok (.aload_n 0, 1) := D_42 (by decide +kernel)
theorem dX13_begins_58 : decode cX13_begins 58 = .ok (.getfield 195, 3) := D_180 (by decide +kernel)
theorem dX13_begins_61 : decode cX13_begins 61 = .ok (.iastore, 1) := D_79 (by decide +kernel)
theorem dX13_begins_62 : decode cX13_begins 62 = .ok (.aload_n 0, 1) := D_42 (by decide +kernel)
theorem dX13_begins_63 : decode cX13_begins 63 = .ok (.getfield 76, 3) := D_180 (by decide +kernel)
theorem dX13_begins_66 : decode cX13_begins 66 = .ok (.iload_n 3, 1) := D_29 (by decide +kernel)
theorem dX13_begins_67 : decode cX13_begins 67 = .ok (.iconst 0, 1) := D_3 (by decide +kernel)
theorem dX13_begins_68 : decode cX13_begins 68 = .ok (.bastore, 1) := D_84 (by decide +kernel)
theorem dX13_begins_69 : decode cX13_begins 69 = .ok (.aload_n 0, 1) := D_42 (by decide +kernel)
theorem dX13_begins_70 : decode cX13_begins 70 = .ok (.getfield 80, 3) := D_180 (by decide +kernel)
theorem dX13_begins_73 : decode cX13_begins 73 = .ok (.iload_n 3, 1) := D_29 (by decide +kernel)
theorem dX13_begins_74 : decode cX13_begins 74 = .ok (.iconst 0, 1) := D_3 (by decide +kernel)
theorem dX13_begins_75 : decode cX13_begins 75 = .ok (.bastore, 1) := D_84 (by decide +kernel)
theorem dX13_begins_76 : decode cX13_begins 76 = .ok (.iconst 0, 1) := D_3 (by decide +kernel)
theorem dX13_begins_77 : decode cX13_begins 77 = .ok (.istore 5, 2) := D_54 (by decide +kernel)
theorem dX13_begins_79 : decode cX13_begins 79 = .ok (.iload 5, 2) := D_21 (by decide +kernel)
theorem dX13_begins_81 : decode cX13_begins 81 = .ok (.bipush 16, 2) := D_16 (by decide +kernel)
theorem dX13_begins_83 : decode cX13_begins 83 = .ok (.if_icmp .ge 22, 3) := D_162 (by decide +kernel)
theorem dX13_begins_86 : decode cX13_begins 86 = .ok (.aload_n 0, 1) := D_42 (by decide +kernel)
theorem dX13_begins_87 : decode cX13_begins 87 = .ok (.getfield 73, 3) := D_180 (by decide +kernel)
theorem dX13_begins_90 : decode cX13_begins 90 = .ok (.bipush 16, 2) := D_16 (by decide +kernel)
theorem dX13_begins_92 : decode cX13_begins 92 = .ok (.iload_n 3, 1) := D_29 (by decide +kernel)
theorem dX13_begins_93 : decode cX13_begins 93 = .ok (.imul, 1) := D_104 (by decide +kernel)
theorem dX13_begins_94 : decode cX13_begins 94 = .ok (.iload 5, 2) := D_21 (by decide +kernel)
theorem dX13_begins_96 : decode cX13_begins 96 = .ok (.iadd, 1) := D_96 (by decide +kernel)
theorem dX13_begins_97 : decode cX13_begins 97 = .ok (.iconst 0, 1) := D_3 (by decide +kernel)
theorem dX13_begins_98 : decode cX13_begins 98 = .ok (.iastore, 1) := D_79 (by decide +kernel)
theorem dX13_begins_99 : decode cX13_begins 99 = .ok (.iinc 5 1, 3) := by decide +kernel
theorem dX13_begins_102 : decode cX13_begins 102 = .ok (.goto (-23), 3) := D_167 (by decide +kernel)
theorem dX13_begins_105 : decode cX13_begins 105 = .ok (.aload_n 0, 1) := D_42 (by decide +kernel)
theorem dX13_begins_106 : decode cX13_begins 106 = .ok (.getfield 195, 3) := D_180 (by decide +kernel)
theorem dX13_begins_109 : decode cX13_begins 109 = .ok (.ifCond .ne 8, 3) := D_154 (by decide +kernel)
theorem dX13_begins_112 : decode cX13_begins 112 = .ok (.aload_n 0, 1) := D_42 (by decide +kernel)
theorem dX13_begins_113 : decode cX13_begins 113 = .ok (.iload_n 3, 1) := D_29 (by decide +kernel)
theorem dX13_begins_114 : decode cX13_begins 114 = .ok (.invokevirtual 530, 3) := D_182 (by decide +kernel)
theorem dX13_begins_117 : decode cX13_begins 117 = .ok (.iconst 1, 1) := D_4 (by decide +kernel)
theorem dX13_begins_118 : decode cX13_begins 118 = .ok (.ireturn, 1) := D_172 (by decide +kernel)
theorem kSX13_begins : yX13_begins.cls ≠ "java/lang/invoke/MethodHandle" ∧ yX13_begins.cls ≠ "java/lang/invoke/VarHandle" ∧ (parseMethodDescriptor yX13_begins.desc).map (fun d => d.parameters.length) = some 3 := by decide +kernel
theorem kVX13_begins : yX13_begins.cls = RX13 ∧ yX13_begins.cls ≠ "java/lang/invoke/MethodHandle" ∧ yX13_begins.cls ≠ "java/lang/invoke/VarHandle" ∧ (parseMethodDescriptor yX13_begins.desc).map (fun d => d.parameters.length) = some 3 := ⟨rfl, kSX13_begins⟩
theorem dX13_asked_0 : decode cX13_asked 0 = .ok (.iconst 0, 1) := D_3 (by decide +kernel)
theorem dX13_asked_1 : decode cX13_asked 1 = .ok (.istore_n 3, 1) := D_62 (by decide +kernel)
theorem dX13_asked_2 : decode cX13_asked 2 = .ok (.iload_n 3, 1) := D_29 (by decide +kernel)
theorem dX13_asked_3 : decode cX13_asked 3 = .ok (.aload_n 0, 1) := D_42 (by decide +kernel)
theorem dX13_asked_4 : decode cX13_asked 4 = .ok (.getfield 189, 3) := D_180 (by decide +kernel)
theorem dX13_asked_7 : decode cX13_asked 7 = .ok (.if_icmp .ge 57, 3) := D_162 (by decide +kernel)
theorem dX13_asked_10 : decode cX13_asked 10 = .ok (.iconst 0, 1) := D_3 (by decide +kernel)
theorem dX13_asked_11 : decode cX13_asked 11 = .ok (.istore 4, 2) := D_54 (by decide +kernel)
theorem dX13_asked_13 : decode cX13_asked 13 = .ok (.iload 4, 2) := D_21 (by decide +kernel)
theorem dX13_asked_15 : decode cX13_asked 15 = .ok (.iconst 2, 1) := D_5 (by decide +kernel)
theorem dX13_asked_16 : decode cX13_asked 16 = .ok (.if_icmp .ge 42, 3) := D_162 (by decide +kernel)
theorem dX13_asked_19 : decode cX13_asked 19 = .ok (.aload_n 0, 1) := D_42 (by decide +kernel)
theorem dX13_asked_20 : decode cX13_asked 20 = .ok (.iload_n 3, 1) := D_29 (by decide +kernel)
theorem dX13_asked_21 : decode cX13_asked 21 = .ok (.iload_n 1, 1) := D_27 (by decide +kernel)
theorem dX13_asked_22 : decode cX13_asked 22 = .ok (.iload 4, 2) := D_21 (by decide +kernel)
theorem dX13_asked_24 : decode cX13_asked 24 = .ok (.iload_n 2, 1) := D_28 (by decide +kernel)
theorem dX13_asked_25 : decode cX13_asked 25 = .ok (.invokevirtual 533, 3) := D_182 (by decide +kernel)
theorem dX13_asked_28 : decode cX13_asked 28 = .ok (.ifCond .ne 6, 3) := D_154 (by decide +kernel)
theorem dX13_asked_31 : decode cX13_asked 31 = .ok (.goto 21, 3) := D_167 (by decide +kernel)
theorem dX13_asked_34 : decode cX13_asked 34 = .ok (.aload_n 0, 1) := D_42 (by decide +kernel)
theorem dX13_asked_35 : decode cX13_asked 35 = .ok (.iload_n 1, 1) := D_27 (by decide +kernel)
theorem dX13_asked_36 : decode cX13_asked 36 = .ok (.iload 4, 2) := D_21 (by decide +kernel)
theorem dX13_asked_38 : decode cX13_asked 38 = .ok (.iload_n 3, 1) := D_29 (by decide +kernel)
theorem dX13_asked_39 : decode cX13_asked 39 = .ok (.aload_n 0, 1) := D_42 (by decide +kernel)
theorem dX13_asked_40 : decode cX13_asked 40 = .ok (.getfield 93, 3) := D_180 (by decide +kernel)
theorem dX13_asked_43 : decode cX13_asked 43 = .ok (.iload_n 3, 1) := D_29 (by decide +kernel)
theorem dX13_asked_44 : decode cX13_asked 44 = .ok (.iaload, 1) := D_46 (by decide +kernel)
theorem dX13_asked_45 : decode cX13_asked 45 = .ok (.invokevirtual 448, 3) := D_182 (by decide +kernel)
theorem dX13_asked_48 : decode cX13_asked 48 = .ok (.istore 5, 2) := D_54 (by decide +kernel)
theorem dX13_asked_50 : decode cX13_asked 50 = .ok (.iload_n 3, 1) := D_29 (by decide +kernel)
theorem dX13_asked_51 : decode cX13_asked 51 = .ok (.ireturn, 1) := D_172 (by decide +kernel)
theorem dX13_asked_52 : decode cX13_asked 52 = .ok (.iinc 4 1, 3) := by decide +kernel
theorem dX13_asked_55 : decode cX13_asked 55 = .ok (.goto (-42), 3) := D_167 (by decide +kernel)
theorem dX13_asked_58 : decode cX13_asked 58 = .ok (.iinc 3 1, 3) := by decide +kernel
theorem dX13_asked_61 : decode cX13_asked 61 = .ok (.goto (-59), 3) := D_167 (by decide +kernel)
theorem dX13_asked_64 : decode cX13_asked 64 = .ok (.iconst (-1), 1) := D_2 (by decide +kernel)
theorem dX13_asked_65 : decode cX13_asked 65 = .ok (.ireturn, 1) := D_172 (by decide +kernel)
theorem kSX13_asked : yX13_asked.cls ≠ "java/lang/invoke/MethodHandle" ∧ yX13_asked.cls ≠ "java/lang/invoke/VarHandle" ∧ (parseMethodDescriptor yX13_asked.desc).map (fun d => d.parameters.length) = some 2 := by decide +kernel
theorem kVX13_asked : yX13_asked.cls = RX13 ∧ yX13_asked.cls ≠ "java/lang/invoke/MethodHandle" ∧ yX13_asked.cls ≠ "java/lang/invoke/VarHandle" ∧ (parseMethodDescriptor yX13_asked.desc).map (fun d => d.parameters.length) = some 2 := ⟨rfl, kSX13_asked⟩
theorem dX13_passes_0 : decode cX13_passes 0 = .ok (.aload_n 0, 1) := D_42 (by decide +kernel)
theorem dX13_passes_1 : decode cX13_passes 1 = .ok (.getfield 70, 3) := D_180 (by decide +kernel)
theorem dX13_passes_4 : decode cX13_passes 4 = .ok (.iload_n 1, 1) := D_27 (by decide +kernel)
theorem dX13_passes_5 : decode cX13_passes 5 = .ok (.dup2, 1) := D_92 (by decide +kernel)
theorem dX13_passes_6 : decode cX13_passes 6 = .ok (.iaload, 1) := D_46 (by decide +kernel)
theorem dX13_passes_7 : decode cX13_passes 7 = .ok (.iload_n 2, 1) := D_28 (by decide +kernel)
theorem dX13_passes_8 : decode cX13_passes 8 = .ok (.isub, 1) := D_100 (by decide +kernel)
theorem dX13_passes_9 : decode cX13_passes 9 = .ok (.iastore, 1) := D_79 (by decide +kernel)
theorem dX13_passes_10 : decode cX13_passes 10 = .ok (.aload_n 0, 1) := D_42 (by decide +kernel)
theorem dX13_passes_11 : decode cX13_passes 11 = .ok (.iload_n 1, 1) := D_27 (by decide +kernel)
theorem dX13_passes_12 : decode cX13_passes 12 = .ok (.aload_n 0, 1) := D_42 (by decide +kernel)
theorem dX13_passes_13 : decode cX13_passes 13 = .ok (.getfield 76, 3) := D_180 (by decide +kernel)
theorem dX13_passes_16 : decode cX13_passes 16 = .ok (.iload_n 1, 1) := D_27 (by decide +kernel)
theorem dX13_passes_17 : decode cX13_passes 17 = .ok (.baload, 1) := D_51 (by decide +kernel)
theorem dX13_passes_18 : decode cX13_passes 18 = .ok (.ifCond .ne 12, 3) := D_154 (by decide +kernel)
theorem dX13_passes_21 : decode cX13_passes 21 = .ok (.aload_n 0, 1) := D_42 (by decide +kernel)
theorem dX13_passes_22 : decode cX13_passes 22 = .ok (.getfield 70, 3) := D_180 (by decide +kernel)
theorem dX13_passes_25 : decode cX13_passes 25 = .ok (.iload_n 1, 1) := D_27 (by decide +kernel)
theorem dX13_passes_26 : decode cX13_passes 26 = .ok (.iaload, 1) := D_46 (by decide +kernel)
theorem dX13_passes_27 : decode cX13_passes 27 = .ok (.ifCond .ne 7, 3) := D_154 (by decide +kernel)
theorem dX13_passes_30 : decode cX13_passes 30 = .ok (.iconst 1, 1) := D_4 (by decide +kernel)
theorem dX13_passes_31 : decode cX13_passes 31 = .ok (.goto 4, 3) := D_167 (by decide +kernel)
theorem dX13_passes_34 : decode cX13_passes 34 = .ok (.iconst 0, 1) := D_3 (by decide +kernel)
theorem dX13_passes_35 : decode cX13_passes 35 = .ok (.invokevirtual 441, 3) := D_182 (by decide +kernel)
theorem dX13_passes_38 : decode cX13_passes 38 = .ok (.istore_n 3, 1) := D_62 (by decide +kernel)
theorem dX13_passes_39 : decode cX13_passes 39 = .ok (.iload_n 3, 1) := D_29 (by decide +kernel)
theorem dX13_passes_40 : decode cX13_passes 40 = .ok (.iconst (-1), 1) := D_2 (by decide +kernel)
theorem dX13_passes_41 : decode cX13_passes 41 = .ok (.if_icmp .ne 12, 3) := D_160 (by decide +kernel)
theorem dX13_passes_44 : decode cX13_passes 44 = .ok (.aload_n 0, 1) := D_42 (by decide +kernel)
theorem dX13_passes_45 : decode cX13_passes 45 = .ok (.getfield 70, 3) := D_180 (by decide +kernel)
theorem dX13_passes_48 : decode cX13_passes 48 = .ok (.iload_n 1, 1) := D_27 (by decide +kernel)
theorem dX13_passes_49 : decode cX13_passes 49 = .ok (.iaload, 1) := D_46 (by decide +kernel)
theorem dX13_passes_50 : decode cX13_passes 50 = .ok (.ifCond .le 5, 3) := D_158 (by decide +kernel)
theorem dX13_passes_53 : decode cX13_passes 53 = .ok (.iload_n 3, 1) := D_29 (by decide +kernel)
theorem dX13_passes_54 : decode cX13_passes 54 = .ok (.ireturn, 1) := D_172 (by decide +kernel)
theorem dX13_passes_55 : decode cX13_passes 55 = .ok (.aload_n 0, 1) := D_42 (by decide +kernel)
theorem dX13_passes_56 : decode cX13_passes 56 = .ok (.iload_n 1, 1) := D_27 (by decide +kernel)
theorem dX13_passes_57 : decode cX13_passes 57 = .ok (.invokevirtual 530, 3) := D_182 (by decide +kernel)
theorem dX13_passes_60 : decode cX13_passes 60 = .ok (.iconst (-1), 1) := D_2 (by decide +kernel)
theorem dX13_passes_61 : decode cX13_passes 61 = .ok (.ireturn, 1) := D_172 (by decide +kernel)
theorem kSX13_passes : yX13_passes.cls ≠ "java/lang/invoke/MethodHandle" ∧ yX13_passes.cls ≠ "java/lang/invoke/VarHandle" ∧ (parseMethodDescriptor yX13_passes.desc).map (fun d => d.parameters.length) = some 2 := by decide +kernel
theorem kVX13_passes : yX13_passes.cls = RX13 ∧ yX13_passes.cls ≠ "java/lang/invoke/MethodHandle" ∧ yX13_passes.cls ≠ "java/lang/invoke/VarHandle" ∧ (parseMethodDescriptor yX13_passes.desc).map (fun d => d.parameters.length) = some 2 := ⟨rfl, kSX13_passes⟩
theorem dX13_goesOver_0 : decode cX13_goesOver 0 = .ok (.aload_n 0, 1) := D_42 (by decide +kernel)
theorem dX13_goesOver_1 : decode cX13_goesOver 1 = .ok (.getfield 76, 3) := D_180 (by decide +kernel)
theorem dX13_goesOver_4 : decode cX13_goesOver 4 = .ok (.iload_n 1, 1) := D_27 (by decide +kernel)
theorem dX13_goesOver_5 : decode cX13_goesOver 5 = .ok (.baload, 1) := D_51 (by decide +kernel)
theorem dX13_goesOver_6 : decode cX13_goesOver 6 = .ok (.ifCond .ne 10, 3) := D_154 (by decide +kernel)
theorem dX13_goesOver_9 : decode cX13_goesOver 9 = .ok (.aload_n 0, 1) := D_42 (by decide +kernel)
theorem dX13_goesOver_10 : decode cX13_goesOver 10 = .ok (.getfield 198, 3) := D_180 (by decide +kernel)
theorem dX13_goesOver_13 : decode cX13_goesOver 13 = .ok (.ifCond .ne 13, 3) := D_154 (by decide +kernel)
theorem dX13_goesOver_16 : decode cX13_goesOver 16 = .ok (.aload_n 0, 1) := D_42 (by decide +kernel)
theorem dX13_goesOver_17 : decode cX13_goesOver 17 = .ok (.getfield 80, 3) := D_180 (by decide +kernel)
theorem dX13_goesOver_20 : decode cX13_goesOver 20 = .ok (.iload_n 1, 1) := D_27 (by decide +kernel)
theorem dX13_goesOver_21 : decode cX13_goesOver 21 = .ok (.iconst 1, 1) := D_4 (by decide +kernel)
theorem dX13_goesOver_22 : decode cX13_goesOver 22 = .ok (.bastore, 1) := D_84 (by decide +kernel)
theorem dX13_goesOver_23 : decode cX13_goesOver 23 = .ok (.goto 20, 3) := D_167 (by decide +kernel)
theorem dX13_goesOver_26 : decode cX13_goesOver 26 = .ok (.aload_n 0, 1) := D_42 (by decide +kernel)
theorem dX13_goesOver_27 : decode cX13_goesOver 27 = .ok (.getfield 76, 3) := D_180 (by decide +kernel)
theorem dX13_goesOver_30 : decode cX13_goesOver 30 = .ok (.iload_n 1, 1) := D_27 (by decide +kernel)
theorem dX13_goesOver_31 : decode cX13_goesOver 31 = .ok (.iconst 1, 1) := D_4 (by decide +kernel)
theorem dX13_goesOver_32 : decode cX13_goesOver 32 = .ok (.bastore, 1) := D_84 (by decide +kernel)
theorem dX13_goesOver_33 : decode cX13_goesOver 33 = .ok (.aload_n 0, 1) := D_42 (by decide +kernel)
theorem dX13_goesOver_34 : decode cX13_goesOver 34 = .ok (.getfield 70, 3) := D_180 (by decide +kernel)
theorem dX13_goesOver_37 : decode cX13_goesOver 37 = .ok (.iload_n 1, 1) := D_27 (by decide +kernel)
theorem dX13_goesOver_38 : decode cX13_goesOver 38 = .ok (.aload_n 0, 1) := D_42 (by decide +kernel)
theorem dX13_goesOver_39 : decode cX13_goesOver 39 = .ok (.getfield 198, 3) := D_180 (by decide +kernel)
theorem dX13_goesOver_42 : decode cX13_goesOver 42 = .ok (.iastore, 1) := D_79 (by decide +kernel)
theorem dX13_goesOver_43 : decode cX13_goesOver 43 = .ok (.return_, 1) := D_177 (by decide +kernel)
theorem kSX13_goesOver : yX13_goesOver.cls ≠ "java/lang/invoke/MethodHandle" ∧ yX13_goesOver.cls ≠ "java/lang/invoke/VarHandle" ∧ (parseMethodDescriptor yX13_goesOver.desc).map (fun d => d.parameters.length) = some 1 := by decide +kernel
theorem kVX13_goesOver : yX13_goesOver.cls = RX13 ∧ yX13_goesOver.cls ≠ "java/lang/invoke/MethodHandle" ∧ yX13_goesOver.cls ≠ "java/lang/invoke/VarHandle" ∧ (parseMethodDescriptor yX13_goesOver.desc).map (fun d => d.parameters.length) = some 1 := ⟨rfl, kSX13_goesOver⟩
theorem dX13_ends_0 : decode cX13_ends 0 = .ok (.aload_n 0, 1) := D_42 (by decide +kernel)
theorem dX13_ends_1 : decode cX13_ends 1 = .ok (.getfield 67, 3) := D_180 (by decide +kernel)
theorem dX13_ends_4 : decode cX13_ends 4 = .ok (.iload_n 1, 1) := D_27 (by decide +kernel)
theorem dX13_ends_5 : decode cX13_ends 5 = .ok (.iaload, 1) := D_46 (by decide +kernel)
theorem dX13_ends_6 : decode cX13_ends 6 = .ok (.istore 5, 2) := D_54 (by decide +kernel)
theorem dX13_ends_8 : decode cX13_ends 8 = .ok (.aload_n 0, 1) := D_42 (by decide +kernel)
theorem dX13_ends_9 : decode cX13_ends 9 = .ok (.getfield 46, 3) := D_180 (by decide +kernel)
theorem dX13_ends_12 : decode cX13_ends 12 = .ok (.iload 5, 2) := D_21 (by decide +kernel)
theorem dX13_ends_14 : decode cX13_ends 14 = .ok (.iconst 2, 1) := D_5 (by decide +kernel)
theorem dX13_ends_15 : decode cX13_ends 15 = .ok (.iastore, 1) := D_79 (by decide +kernel)
theorem dX13_ends_16 : decode cX13_ends 16 = .ok (.aload_n 0, 1) := D_42 (by decide +kernel)
theorem dX13_ends_17 : decode cX13_ends 17 = .ok (.getfield 55, 3) := D_180 (by decide +kernel)
theorem dX13_ends_20 : decode cX13_ends 20 = .ok (.iload 5, 2) := D_21 (by decide +kernel)
theorem dX13_ends_22 : decode cX13_ends 22 = .ok (.iload_n 2, 1) := D_28 (by decide +kernel)
theorem dX13_ends_23 : decode cX13_ends 23 = .ok (.ifCond .ne 13, 3) := D_154 (by decide +kernel)
theorem dX13_ends_26 : decode cX13_ends 26 = .ok (.aload_n 0, 1) := D_42 (by decide +kernel)
theorem dX13_ends_27 : decode cX13_ends 27 = .ok (.getfield 49, 3) := D_180 (by decide +kernel)
theorem dX13_ends_30 : decode cX13_ends 30 = .ok (.iload 5, 2) := D_21 (by decide +kernel)
theorem dX13_ends_32 : decode cX13_ends 32 = .ok (.iaload, 1) := D_46 (by decide +kernel)
theorem dX13_ends_33 : decode cX13_ends 33 = .ok (.goto 10, 3) := D_167 (by decide +kernel)
theorem dX13_ends_36 : decode cX13_ends 36 = .ok (.aload_n 0, 1) := D_42 (by decide +kernel)
theorem dX13_ends_37 : decode cX13_ends 37 = .ok (.getfield 52, 3) := D_180 (by decide +kernel)
theorem dX13_ends_40 : decode cX13_ends 40 = .ok (.iload 5, 2) := D_21 (by decide +kernel)
theorem dX13_ends_42 : decode cX13_ends 42 = .ok (.iaload, 1) := D_46 (by decide +kernel)
theorem dX13_ends_43 : decode cX13_ends 43 = .ok (.iastore, 1) := D_79 (by decide +kernel)
theorem dX13_ends_44 : decode cX13_ends 44 = .ok (.aload_n 0, 1) := D_42 (by decide +kernel)
theorem dX13_ends_45 : decode cX13_ends 45 = .ok (.getfield 58, 3) := D_180 (by decide +kernel)
theorem dX13_ends_48 : decode cX13_ends 48 = .ok (.iload 5, 2) := D_21 (by decide +kernel)
theorem dX13_ends_50 : decode cX13_ends 50 = .ok (.iload_n 3, 1) := D_29 (by decide +kernel)
theorem dX13_ends_51 : decode cX13_ends 51 = .ok (.iastore, 1) := D_79 (by decide +kernel)
theorem dX13_ends_52 : decode cX13_ends 52 = .ok (.aload_n 0, 1) := D_42 (by decide +kernel)
theorem dX13_ends_53 : decode cX13_ends 53 = .ok (.getfield 61, 3) := D_180 (by decide +kernel)
theorem dX13_ends_56 : decode cX13_ends 56 = .ok (.iload 5, 2) := D_21 (by decide +kernel)
theorem dX13_ends_58 : decode cX13_ends 58 = .ok (.iload 4, 2) := D_21 (by decide +kernel)
theorem dX13_ends_60 : decode cX13_ends 60 = .ok (.iastore, 1) := D_79 (by decide +kernel)
theorem dX13_ends_61 : decode cX13_ends 61 = .ok (.aload_n 0, 1) := D_42 (by decide +kernel)
theorem dX13_ends_62 : decode cX13_ends 62 = .ok (.getfield 64, 3) := D_180 (by decide +kernel)
theorem dX13_ends_65 : decode cX13_ends 65 = .ok (.iload 5, 2) := D_21 (by decide +kernel)
theorem dX13_ends_67 : decode cX13_ends 67 = .ok (.aload_n 0, 1) := D_42 (by decide +kernel)
theorem dX13_ends_68 : decode cX13_ends 68 = .ok (.getfield 179, 3) := D_180 (by decide +kernel)
theorem dX13_ends_71 : decode cX13_ends 71 = .ok (.iastore, 1) := D_79 (by decide +kernel)
theorem dX13_ends_72 : decode cX13_ends 72 = .ok (.aload_n 0, 1) := D_42 (by decide +kernel)
theorem dX13_ends_73 : decode cX13_ends 73 = .ok (.getfield 34, 3) := D_180 (by decide +kernel)
theorem dX13_ends_76 : decode cX13_ends 76 = .ok (.aload_n 0, 1) := D_42 (by decide +kernel)
theorem dX13_ends_77 : decode cX13_ends 77 = .ok (.getfield 49, 3) := D_180 (by decide +kernel)
theorem dX13_ends_80 : decode cX13_ends 80 = .ok (.iload 5, 2) := D_21 (by decide +kernel)
theorem dX13_ends_82 : decode cX13_ends 82 = .ok (.iaload, 1) := D_46 (by decide +kernel)
theorem dX13_ends_83 : decode cX13_ends 83 = .ok (.aload_n 0, 1) := D_42 (by decide +kernel)
theorem dX13_ends_84 : decode cX13_ends 84 = .ok (.getfield 179, 3) := D_180 (by decide +kernel)
theorem dX13_ends_87 : decode cX13_ends 87 = .ok (.iastore, 1) := D_79 (by decide +kernel)
theorem dX13_ends_88 : decode cX13_ends 88 = .ok (.aload_n 0, 1) := D_42 (by decide +kernel)
theorem dX13_ends_89 : decode cX13_ends 89 = .ok (.getfield 34, 3) := D_180 (by decide +kernel)
theorem dX13_ends_92 : decode cX13_ends 92 = .ok (.aload_n 0, 1) := D_42 (by decide +kernel)
theorem dX13_ends_93 : decode cX13_ends 93 = .ok (.getfield 52, 3) := D_180 (by decide +kernel)
theorem dX13_ends_96 : decode cX13_ends 96 = .ok (.iload 5, 2) := D_21 (by decide +kernel)
theorem dX13_ends_98 : decode cX13_ends 98 = .ok (.iaload, 1) := D_46 (by decide +kernel)
theorem dX13_ends_99 : decode cX13_ends 99 = .ok (.aload_n 0, 1) := D_42 (by decide +kernel)
theorem dX13_ends_100 : decode cX13_ends 100 = .ok (.getfield 179, 3) := D_180 (by decide +kernel)
theorem dX13_ends_103 : decode cX13_ends 103 = .ok (.iastore, 1) := D_79 (by decide +kernel)
theorem dX13_ends_104 : decode cX13_ends 104 = .ok (.aload_n 0, 1) := D_42 (by decide +kernel)
theorem dX13_ends_105 : decode cX13_ends 105 = .ok (.getfield 67, 3) := D_180 (by decide +kernel)
theorem dX13_ends_108 : decode cX13_ends 108 = .ok (.iload_n 1, 1) := D_27 (by decide +kernel)
theorem dX13_ends_109 : decode cX13_ends 109 = .ok (.iconst (-1), 1) := D_2 (by decide +kernel)
theorem dX13_ends_110 : decode cX13_ends 110 = .ok (.iastore, 1) := D_79 (by decide +kernel)
theorem dX13_ends_111 : decode cX13_ends 111 = .ok (.aload_n 0, 1) := D_42 (by decide +kernel)
theorem dX13_ends_112 : decode cX13_ends 112 = .ok (.getfield 55, 3) := D_180 (by decide +kernel)
theorem dX13_ends_115 : decode cX13_ends 115 = .ok (.iload 5, 2) := D_21 (by decide +kernel)
theorem dX13_ends_117 : decode cX13_ends 117 = .ok (.iaload, 1) := D_46 (by decide +kernel)
theorem dX13_ends_118 : decode cX13_ends 118 = .ok (.ireturn, 1) := D_172 (by decide +kernel)
theorem kSX13_ends : yX13_ends.cls ≠ "java/lang/invoke/MethodHandle" ∧ yX13_ends.cls ≠ "java/lang/invoke/VarHandle" ∧ (parseMethodDescriptor yX13_ends.desc).map (fun d => d.parameters.length) = some 4 := by decide +kernel
theorem kVX13_ends : yX13_ends.cls = RX13 ∧ yX13_ends.cls ≠ "java/lang/invoke/MethodHandle" ∧ yX13_ends.cls ≠ "java/lang/invoke/VarHandle" ∧ (parseMethodDescriptor yX13_ends.desc).map (fun d => d.parameters.length) = some 4 := ⟨rfl, kSX13_ends⟩
theorem dX13_struck_0 : decode cX13_struck 0 = .ok (.aload_n 0, 1) := D_42 (by decide +kernel)
theorem dX13_struck_1 : decode cX13_struck 1 = .ok (.getfield 46, 3) := D_180 (by decide +kernel)
theorem dX13_struck_4 : decode cX13_struck 4 = .ok (.bipush 40, 2) := D_16 (by decide +kernel)
theorem dX13_struck_6 : decode cX13_struck 6 = .ok (.iload_n 1, 1) := D_27 (by decide +kernel)
theorem dX13_struck_7 : decode cX13_struck 7 = .ok (.imul, 1) := D_104 (by decide +kernel)
theorem dX13_struck_8 : decode cX13_struck 8 = .ok (.iload_n 2, 1) := D_28 (by decide +kernel)
theorem dX13_struck_9 : decode cX13_struck 9 = .ok (.iadd, 1) := D_96 (by decide +kernel)
theorem dX13_struck_10 : decode cX13_struck 10 = .ok (.iconst 0, 1) := D_3 (by decide +kernel)
theorem dX13_struck_11 : decode cX13_struck 11 = .ok (.iastore, 1) := D_79 (by decide +kernel)
theorem dX13_struck_12 : decode cX13_struck 12 = .ok (.iconst 1, 1) := D_4 (by decide +kernel)
theorem dX13_struck_13 : decode cX13_struck 13 = .ok (.istore_n 3, 1) := D_62 (by decide +kernel)
theorem dX13_struck_14 : decode cX13_struck 14 = .ok (.iconst 1, 1) := D_4 (by decide +kernel)
theorem dX13_struck_15 : decode cX13_struck 15 = .ok (.istore 4, 2) := D_54 (by decide +kernel)
theorem dX13_struck_17 : decode cX13_struck 17 = .ok (.iload 4, 2) := D_21 (by decide +kernel)
theorem dX13_struck_19 : decode cX13_struck 19 = .ok (.ifCond .eq 156, 3) := D_153 (by decide +kernel)
theorem dX13_struck_22 : decode cX13_struck 22 = .ok (.iconst 0, 1) := D_3 (by decide +kernel)
theorem dX13_struck_23 : decode cX13_struck 23 = .ok (.istore 4, 2) := D_54 (by decide +kernel)
theorem dX13_struck_25 : decode cX13_struck 25 = .ok (.iconst 0, 1) := D_3 (by decide +kernel)
theorem dX13_struck_26 : decode cX13_struck 26 = .ok (.istore 5, 2) := D_54 (by decide +kernel)
theorem dX13_struck_28 : decode cX13_struck 28 = .ok (.iload 5, 2) := D_21 (by decide +kernel)
theorem dX13_struck_30 : decode cX13_struck 30 = .ok (.aload_n 0, 1) := D_42 (by decide +kernel)
theorem dX13_struck_31 : decode cX13_struck 31 = .ok (.iload_n 1, 1) := D_27 (by decide +kernel)
theorem dX13_struck_32 : decode cX13_struck 32 = .ok (.invokevirtual 218, 3) := D_182 (by decide +kernel)
theorem dX13_struck_35 : decode cX13_struck 35 = .ok (.if_icmp .ge 137, 3) := D_162 (by decide +kernel)
theorem dX13_struck_38 : decode cX13_struck 38 = .ok (.bipush 40, 2) := D_16 (by decide +kernel)
theorem dX13_struck_40 : decode cX13_struck 40 = .ok (.iload_n 1, 1) := D_27 (by decide +kernel)
theorem dX13_struck_41 : decode cX13_struck 41 = .ok (.imul, 1) := D_104 (by decide +kernel)
theorem dX13_struck_42 : decode cX13_struck 42 = .ok (.iload 5, 2) := D_21 (by decide +kernel)
theorem dX13_struck_44 : decode cX13_struck 44 = .ok (.iadd, 1) := D_96 (by decide +kernel)
theorem dX13_struck_45 : decode cX13_struck 45 = .ok (.istore 6, 2) := D_54 (by decide +kernel)
theorem dX13_struck_47 : decode cX13_struck 47 = .ok (.aload_n 0, 1) := D_42 (by decide +kernel)
theorem dX13_struck_48 : decode cX13_struck 48 = .ok (.getfield 46, 3) := D_180 (by decide +kernel)
theorem dX13_struck_51 : decode cX13_struck 51 = .ok (.iload 6, 2) := D_21 (by decide +kernel)
theorem dX13_struck_53 : decode cX13_struck 53 = .ok (.iaload, 1) := D_46 (by decide +kernel)
theorem dX13_struck_54 : decode cX13_struck 54 = .ok (.ifCond .eq 112, 3) := D_153 (by decide +kernel)
theorem dX13_struck_57 : decode cX13_struck 57 = .ok (.aload_n 0, 1) := D_42 (by decide +kernel)
theorem dX13_struck_58 : decode cX13_struck 58 = .ok (.iload_n 1, 1) := D_27 (by decide +kernel)
theorem dX13_struck_59 : decode cX13_struck 59 = .ok (.iload 5, 2) := D_21 (by decide +kernel)
theorem dX13_struck_61 : decode cX13_struck 61 = .ok (.iconst 0, 1) := D_3 (by decide +kernel)
theorem dX13_struck_62 : decode cX13_struck 62 = .ok (.invokevirtual 252, 3) := D_182 (by decide +kernel)
theorem dX13_struck_65 : decode cX13_struck 65 = .ok (.aload_n 0, 1) := D_42 (by decide +kernel)
theorem dX13_struck_66 : decode cX13_struck 66 = .ok (.getfield 49, 3) := D_180 (by decide +kernel)
theorem dX13_struck_69 : decode cX13_struck 69 = .ok (.iload 6, 2) := D_21 (by decide +kernel)
theorem dX13_struck_71 : decode cX13_struck 71 = .ok (.iaload, 1) := D_46 (by decide +kernel)
theorem dX13_struck_72 : decode cX13_struck 72 = .ok (.if_icmp .ne 24, 3) := D_160 (by decide +kernel)
theorem dX13_struck_75 : decode cX13_struck 75 = .ok (.aload_n 0, 1) := D_42 (by decide +kernel)
theorem dX13_struck_76 : decode cX13_struck 76 = .ok (.iload_n 1, 1) := D_27 (by decide +kernel)
theorem dX13_struck_77 : decode cX13_struck 77 = .ok (.iload 5, 2) := D_21 (by decide +kernel)
theorem dX13_struck_79 : decode cX13_struck 79 = .ok (.iconst 1, 1) := D_4 (by decide +kernel)
theorem dX13_struck_80 : decode cX13_struck 80 = .ok (.invokevirtual 252, 3) := D_182 (by decide +kernel)
theorem dX13_struck_83 : decode cX13_struck 83 = .ok (.aload_n 0, 1) := D_42 (by decide +kernel)
theorem dX13_struck_84 : decode cX13_struck 84 = .ok (.getfield 52, 3) := D_180 (by decide +kernel)
theorem dX13_struck_87 : decode cX13_struck 87 = .ok (.iload 6, 2) := D_21 (by decide +kernel)
theorem dX13_struck_89 : decode cX13_struck 89 = .ok (.iaload, 1) := D_46 (by decide +kernel)
theorem dX13_struck_90 : decode cX13_struck 90 = .ok (.if_icmp .ne 6, 3) := D_160 (by decide +kernel)
theorem dX13_struck_93 : decode cX13_struck 93 = .ok (.goto 73, 3) := D_167 (by decide +kernel)
theorem dX13_struck_96 : decode cX13_struck 96 = .ok (.aload_n 0, 1) := D_42 (by decide +kernel)
theorem dX13_struck_97 : decode cX13_struck 97 = .ok (.getfield 46, 3) := D_180 (by decide +kernel)
theorem dX13_struck_100 : decode cX13_struck 100 = .ok (.iload 6, 2) := D_21 (by decide +kernel)
theorem dX13_struck_102 : decode cX13_struck 102 = .ok (.iaload, 1) := D_46 (by decide +kernel)
theorem dX13_struck_103 : decode cX13_struck 103 = .ok (.iconst 1, 1) := D_4 (by decide +kernel)
theorem dX13_struck_104 : decode cX13_struck 104 = .ok (.if_icmp .ne 48, 3) := D_160 (by decide +kernel)
theorem dX13_struck_107 : decode cX13_struck 107 = .ok (.aload_n 0, 1) := D_42 (by decide +kernel)
theorem dX13_struck_108 : decode cX13_struck 108 = .ok (.getfield 67, 3) := D_180 (by decide +kernel)
theorem dX13_struck_111 : decode cX13_struck 111 = .ok (.aload_n 0, 1) := D_42 (by decide +kernel)
theorem dX13_struck_112 : decode cX13_struck 112 = .ok (.iload_n 1, 1) := D_27 (by decide +kernel)
theorem dX13_struck_113 : decode cX13_struck 113 = .ok (.iload 5, 2) := D_21 (by decide +kernel)
theorem dX13_struck_115 : decode cX13_struck 115 = .ok (.invokevirtual 517, 3) := D_182 (by decide +kernel)
theorem dX13_struck_118 : decode cX13_struck 118 = .ok (.iconst (-1), 1) := D_2 (by decide +kernel)
theorem dX13_struck_119 : decode cX13_struck 119 = .ok (.iastore, 1) := D_79 (by decide +kernel)
theorem dX13_struck_120 : decode cX13_struck 120 = .ok (.aload_n 0, 1) := D_42 (by decide +kernel)
theorem dX13_struck_121 : decode cX13_struck 121 = .ok (.getfield 34, 3) := D_180 (by decide +kernel)
theorem dX13_struck_124 : decode cX13_struck 124 = .ok (.aload_n 0, 1) := D_42 (by decide +kernel)
theorem dX13_struck_125 : decode cX13_struck 125 = .ok (.getfield 49, 3) := D_180 (by decide +kernel)
theorem dX13_struck_128 : decode cX13_struck 128 = .ok (.iload 6, 2) := D_21 (by decide +kernel)
theorem dX13_struck_130 : decode cX13_struck 130 = .ok (.iaload, 1) := D_46 (by decide +kernel)
theorem dX13_struck_131 : decode cX13_struck 131 = .ok (.aload_n 0, 1) := D_42 (by decide +kernel)
theorem dX13_struck_132 : decode cX13_struck 132 = .ok (.getfield 179, 3) := D_180 (by decide +kernel)
theorem dX13_struck_135 : decode cX13_struck 135 = .ok (.iastore, 1) := D_79 (by decide +kernel)
theorem dX13_struck_136 : decode cX13_struck 136 = .ok (.aload_n 0, 1) := D_42 (by decide +kernel)
theorem dX13_struck_137 : decode cX13_struck 137 = .ok (.getfield 34, 3) := D_180 (by decide +kernel)
theorem dX13_struck_140 : decode cX13_struck 140 = .ok (.aload_n 0, 1) := D_42 (by decide +kernel)
theorem dX13_struck_141 : decode cX13_struck 141 = .ok (.getfield 52, 3) := D_180 (by decide +kernel)
theorem dX13_struck_144 : decode cX13_struck 144 = .ok (.iload 6, 2) := D_21 (by decide +kernel)
theorem dX13_struck_146 : decode cX13_struck 146 = .ok (.iaload, 1) := D_46 (by decide +kernel)
theorem dX13_struck_147 : decode cX13_struck 147 = .ok (.aload_n 0, 1) := D_42 (by decide +kernel)
theorem dX13_struck_148 : decode cX13_struck 148 = .ok (.getfield 179, 3) := D_180 (by decide +kernel)
theorem dX13_struck_151 : decode cX13_struck 151 = .ok (.iastore, 1) := D_79 (by decide +kernel)
theorem dX13_struck_152 : decode cX13_struck 152 = .ok (.aload_n 0, 1) := D_42 (by decide +kernel)
theorem dX13_struck_153 : decode cX13_struck 153 = .ok (.getfield 46, 3) := D_180 (by decide +kernel)
theorem dX13_struck_156 : decode cX13_struck 156 = .ok (.iload 6, 2) := D_21 (by decide +kernel)
theorem dX13_struck_158 : decode cX13_struck 158 = .ok (.iconst 0, 1) := D_3 (by decide +kernel)
theorem dX13_struck_159 : decode cX13_struck 159 = .ok (.iastore, 1) := D_79 (by decide +kernel)
theorem dX13_struck_160 : decode cX13_struck 160 = .ok (.iinc 3 1, 3) := by decide +kernel
theorem dX13_struck_163 : decode cX13_struck 163 = .ok (.iconst 1, 1) := D_4 (by decide +kernel)
theorem dX13_struck_164 : decode cX13_struck 164 = .ok (.istore 4, 2) := D_54 (by decide +kernel)
theorem dX13_struck_166 : decode cX13_struck 166 = .ok (.iinc 5 1, 3) := by decide +kernel
theorem dX13_struck_169 : decode cX13_struck 169 = .ok (.goto (-141), 3) := D_167 (by decide +kernel)
theorem dX13_struck_172 : decode cX13_struck 172 = .ok (.goto (-155), 3) := D_167 (by decide +kernel)
theorem dX13_struck_175 : decode cX13_struck 175 = .ok (.iload_n 3, 1) := D_29 (by decide +kernel)
theorem dX13_struck_176 : decode cX13_struck 176 = .ok (.ireturn, 1) := D_172 (by decide +kernel)
theorem kSX13_struck : yX13_struck.cls ≠ "java/lang/invoke/MethodHandle" ∧ yX13_struck.cls ≠ "java/lang/invoke/VarHandle" ∧ (parseMethodDescriptor yX13_struck.desc).map (fun d => d.parameters.length) = some 2 := by decide +kernel
theorem kVX13_struck : yX13_struck.cls = RX13 ∧ yX13_struck.cls ≠ "java/lang/invoke/MethodHandle" ∧ yX13_struck.cls ≠ "java/lang/invoke/VarHandle" ∧ (parseMethodDescriptor yX13_struck.desc).map (fun d => d.parameters.length) = some 2 := ⟨rfl, kSX13_struck⟩
theorem dX13_won_0 : decode cX13_won 0 = .ok (.iconst 0, 1) := D_3 (by decide +kernel)
theorem dX13_won_1 : decode cX13_won 1 = .ok (.istore_n 3, 1) := D_62 (by decide +kernel)
theorem dX13_won_2 : decode cX13_won 2 = .ok (.iconst 0, 1) := D_3 (by decide +kernel)
theorem dX13_won_3 : decode cX13_won 3 = .ok (.istore 4, 2) := D_54 (by decide +kernel)
theorem dX13_won_5 : decode cX13_won 5 = .ok (.iload 4, 2) := D_21 (by decide +kernel)
theorem dX13_won_7 : decode cX13_won 7 = .ok (.aload_n 0, 1) := D_42 (by decide +kernel)
theorem dX13_won_8 : decode cX13_won 8 = .ok (.iload_n 1, 1) := D_27 (by decide +kernel)
theorem dX13_won_9 : decode cX13_won 9 = .ok (.invokevirtual 218, 3) := D_182 (by decide +kernel)
theorem dX13_won_12 : decode cX13_won 12 = .ok (.if_icmp .ge 33, 3) := D_162 (by decide +kernel)
theorem dX13_won_15 : decode cX13_won 15 = .ok (.iload_n 3, 1) := D_29 (by decide +kernel)
theorem dX13_won_16 : decode cX13_won 16 = .ok (.aload_n 0, 1) := D_42 (by decide +kernel)
theorem dX13_won_17 : decode cX13_won 17 = .ok (.getfield 55, 3) := D_180 (by decide +kernel)
theorem dX13_won_20 : decode cX13_won 20 = .ok (.bipush 40, 2) := D_16 (by decide +kernel)
theorem dX13_won_22 : decode cX13_won 22 = .ok (.iload_n 1, 1) := D_27 (by decide +kernel)
theorem dX13_won_23 : decode cX13_won 23 = .ok (.imul, 1) := D_104 (by decide +kernel)
theorem dX13_won_24 : decode cX13_won 24 = .ok (.iload 4, 2) := D_21 (by decide +kernel)
theorem dX13_won_26 : decode cX13_won 26 = .ok (.iadd, 1) := D_96 (by decide +kernel)
theorem dX13_won_27 : decode cX13_won 27 = .ok (.iaload, 1) := D_46 (by decide +kernel)
theorem dX13_won_28 : decode cX13_won 28 = .ok (.iload_n 2, 1) := D_28 (by decide +kernel)
theorem dX13_won_29 : decode cX13_won 29 = .ok (.if_icmp .ne 7, 3) := D_160 (by decide +kernel)
theorem dX13_won_32 : decode cX13_won 32 = .ok (.iconst 1, 1) := D_4 (by decide +kernel)
theorem dX13_won_33 : decode cX13_won 33 = .ok (.goto 4, 3) := D_167 (by decide +kernel)
theorem dX13_won_36 : decode cX13_won 36 = .ok (.iconst 0, 1) := D_3 (by decide +kernel)
theorem dX13_won_37 : decode cX13_won 37 = .ok (.iadd, 1) := D_96 (by decide +kernel)
theorem dX13_won_38 : decode cX13_won 38 = .ok (.istore_n 3, 1) := D_62 (by decide +kernel)
theorem dX13_won_39 : decode cX13_won 39 = .ok (.iinc 4 1, 3) := by decide +kernel
theorem dX13_won_42 : decode cX13_won 42 = .ok (.goto (-37), 3) := D_167 (by decide +kernel)
theorem dX13_won_45 : decode cX13_won 45 = .ok (.iload_n 3, 1) := D_29 (by decide +kernel)
theorem dX13_won_46 : decode cX13_won 46 = .ok (.ireturn, 1) := D_172 (by decide +kernel)
theorem kSX13_won : yX13_won.cls ≠ "java/lang/invoke/MethodHandle" ∧ yX13_won.cls ≠ "java/lang/invoke/VarHandle" ∧ (parseMethodDescriptor yX13_won.desc).map (fun d => d.parameters.length) = some 2 := by decide +kernel
theorem kVX13_won : yX13_won.cls = RX13 ∧ yX13_won.cls ≠ "java/lang/invoke/MethodHandle" ∧ yX13_won.cls ≠ "java/lang/invoke/VarHandle" ∧ (parseMethodDescriptor yX13_won.desc).map (fun d => d.parameters.length) = some 2 := ⟨rfl, kSX13_won⟩
theorem dX13_sum_0 : decode cX13_sum 0 = .ok (.iconst 0, 1) := D_3 (by decide +kernel)
theorem dX13_sum_1 : decode cX13_sum 1 = .ok (.istore_n 3, 1) := D_62 (by decide +kernel)
theorem dX13_sum_2 : decode cX13_sum 2 = .ok (.iconst 0, 1) := D_3 (by decide +kernel)
theorem dX13_sum_3 : decode cX13_sum 3 = .ok (.istore 4, 2) := D_54 (by decide +kernel)
theorem dX13_sum_5 : decode cX13_sum 5 = .ok (.iload 4, 2) := D_21 (by decide +kernel)
theorem dX13_sum_7 : decode cX13_sum 7 = .ok (.aload_n 0, 1) := D_42 (by decide +kernel)
theorem dX13_sum_8 : decode cX13_sum 8 = .ok (.iload_n 1, 1) := D_27 (by decide +kernel)
theorem dX13_sum_9 : decode cX13_sum 9 = .ok (.invokevirtual 218, 3) := D_182 (by decide +kernel)
theorem dX13_sum_12 : decode cX13_sum 12 = .ok (.if_icmp .ge 44, 3) := D_162 (by decide +kernel)
theorem dX13_sum_15 : decode cX13_sum 15 = .ok (.iload_n 3, 1) := D_29 (by decide +kernel)
theorem dX13_sum_16 : decode cX13_sum 16 = .ok (.aload_n 0, 1) := D_42 (by decide +kernel)
theorem dX13_sum_17 : decode cX13_sum 17 = .ok (.getfield 55, 3) := D_180 (by decide +kernel)
theorem dX13_sum_20 : decode cX13_sum 20 = .ok (.bipush 40, 2) := D_16 (by decide +kernel)
theorem dX13_sum_22 : decode cX13_sum 22 = .ok (.iload_n 1, 1) := D_27 (by decide +kernel)
theorem dX13_sum_23 : decode cX13_sum 23 = .ok (.imul, 1) := D_104 (by decide +kernel)
theorem dX13_sum_24 : decode cX13_sum 24 = .ok (.iload 4, 2) := D_21 (by decide +kernel)
theorem dX13_sum_26 : decode cX13_sum 26 = .ok (.iadd, 1) := D_96 (by decide +kernel)
theorem dX13_sum_27 : decode cX13_sum 27 = .ok (.iaload, 1) := D_46 (by decide +kernel)
theorem dX13_sum_28 : decode cX13_sum 28 = .ok (.iload_n 2, 1) := D_28 (by decide +kernel)
theorem dX13_sum_29 : decode cX13_sum 29 = .ok (.if_icmp .ne 18, 3) := D_160 (by decide +kernel)
theorem dX13_sum_32 : decode cX13_sum 32 = .ok (.aload_n 0, 1) := D_42 (by decide +kernel)
theorem dX13_sum_33 : decode cX13_sum 33 = .ok (.getfield 61, 3) := D_180 (by decide +kernel)
theorem dX13_sum_36 : decode cX13_sum 36 = .ok (.bipush 40, 2) := D_16 (by decide +kernel)
theorem dX13_sum_38 : decode cX13_sum 38 = .ok (.iload_n 1, 1) := D_27 (by decide +kernel)
theorem dX13_sum_39 : decode cX13_sum 39 = .ok (.imul, 1) := D_104 (by decide +kernel)
theorem dX13_sum_40 : decode cX13_sum 40 = .ok (.iload 4, 2) := D_21 (by decide +kernel)
theorem dX13_sum_42 : decode cX13_sum 42 = .ok (.iadd, 1) := D_96 (by decide +kernel)
theorem dX13_sum_43 : decode cX13_sum 43 = .ok (.iaload, 1) := D_46 (by decide +kernel)
theorem dX13_sum_44 : decode cX13_sum 44 = .ok (.goto 4, 3) := D_167 (by decide +kernel)
theorem dX13_sum_47 : decode cX13_sum 47 = .ok (.iconst 0, 1) := D_3 (by decide +kernel)
theorem dX13_sum_48 : decode cX13_sum 48 = .ok (.iadd, 1) := D_96 (by decide +kernel)
theorem dX13_sum_49 : decode cX13_sum 49 = .ok (.istore_n 3, 1) := D_62 (by decide +kernel)
theorem dX13_sum_50 : decode cX13_sum 50 = .ok (.iinc 4 1, 3) := by decide +kernel
theorem dX13_sum_53 : decode cX13_sum 53 = .ok (.goto (-48), 3) := D_167 (by decide +kernel)
theorem dX13_sum_56 : decode cX13_sum 56 = .ok (.iload_n 3, 1) := D_29 (by decide +kernel)
theorem dX13_sum_57 : decode cX13_sum 57 = .ok (.ireturn, 1) := D_172 (by decide +kernel)
theorem kSX13_sum : yX13_sum.cls ≠ "java/lang/invoke/MethodHandle" ∧ yX13_sum.cls ≠ "java/lang/invoke/VarHandle" ∧ (parseMethodDescriptor yX13_sum.desc).map (fun d => d.parameters.length) = some 2 := by decide +kernel
theorem kVX13_sum : yX13_sum.cls = RX13 ∧ yX13_sum.cls ≠ "java/lang/invoke/MethodHandle" ∧ yX13_sum.cls ≠ "java/lang/invoke/VarHandle" ∧ (parseMethodDescriptor yX13_sum.desc).map (fun d => d.parameters.length) = some 2 := ⟨rfl, kSX13_sum⟩
theorem dX13_alike_0 : decode cX13_alike 0 = .ok (.iconst 0, 1) := D_3 (by decide +kernel)
theorem dX13_alike_1 : decode cX13_alike 1 = .ok (.istore_n 3, 1) := D_62 (by decide +kernel)
theorem dX13_alike_2 : decode cX13_alike 2 = .ok (.iconst 0, 1) := D_3 (by decide +kernel)
theorem dX13_alike_3 : decode cX13_alike 3 = .ok (.istore 4, 2) := D_54 (by decide +kernel)
theorem dX13_alike_5 : decode cX13_alike 5 = .ok (.iload 4, 2) := D_21 (by decide +kernel)
theorem dX13_alike_7 : decode cX13_alike 7 = .ok (.aload_n 0, 1) := D_42 (by decide +kernel)
theorem dX13_alike_8 : decode cX13_alike 8 = .ok (.getfield 40, 3) := D_180 (by decide +kernel)
theorem dX13_alike_11 : decode cX13_alike 11 = .ok (.iload_n 1, 1) := D_27 (by decide +kernel)
theorem dX13_alike_12 : decode cX13_alike 12 = .ok (.iaload, 1) := D_46 (by decide +kernel)
theorem dX13_alike_13 : decode cX13_alike 13 = .ok (.if_icmp .ge 69, 3) := D_162 (by decide +kernel)
theorem dX13_alike_16 : decode cX13_alike 16 = .ok (.iload_n 3, 1) := D_29 (by decide +kernel)
theorem dX13_alike_17 : decode cX13_alike 17 = .ok (.aload_n 0, 1) := D_42 (by decide +kernel)
theorem dX13_alike_18 : decode cX13_alike 18 = .ok (.iload_n 1, 1) := D_27 (by decide +kernel)
theorem dX13_alike_19 : decode cX13_alike 19 = .ok (.aload_n 0, 1) := D_42 (by decide +kernel)
theorem dX13_alike_20 : decode cX13_alike 20 = .ok (.getfield 43, 3) := D_180 (by decide +kernel)
theorem dX13_alike_23 : decode cX13_alike 23 = .ok (.bipush 32, 2) := D_16 (by decide +kernel)
theorem dX13_alike_25 : decode cX13_alike 25 = .ok (.iload_n 1, 1) := D_27 (by decide +kernel)
theorem dX13_alike_26 : decode cX13_alike 26 = .ok (.imul, 1) := D_104 (by decide +kernel)
theorem dX13_alike_27 : decode cX13_alike 27 = .ok (.iload 4, 2) := D_21 (by decide +kernel)
theorem dX13_alike_29 : decode cX13_alike 29 = .ok (.iadd, 1) := D_96 (by decide +kernel)
theorem dX13_alike_30 : decode cX13_alike 30 = .ok (.iaload, 1) := D_46 (by decide +kernel)
theorem dX13_alike_31 : decode cX13_alike 31 = .ok (.invokevirtual 556, 3) := D_182 (by decide +kernel)
theorem dX13_alike_34 : decode cX13_alike 34 = .ok (.aload_n 0, 1) := D_42 (by decide +kernel)
theorem dX13_alike_35 : decode cX13_alike 35 = .ok (.iload_n 1, 1) := D_27 (by decide +kernel)
theorem dX13_alike_36 : decode cX13_alike 36 = .ok (.iload_n 2, 1) := D_28 (by decide +kernel)
theorem dX13_alike_37 : decode cX13_alike 37 = .ok (.invokevirtual 556, 3) := D_182 (by decide +kernel)
theorem dX13_alike_40 : decode cX13_alike 40 = .ok (.if_icmp .ne 33, 3) := D_160 (by decide +kernel)
theorem dX13_alike_43 : decode cX13_alike 43 = .ok (.aload_n 0, 1) := D_42 (by decide +kernel)
theorem dX13_alike_44 : decode cX13_alike 44 = .ok (.iload_n 1, 1) := D_27 (by decide +kernel)
theorem dX13_alike_45 : decode cX13_alike 45 = .ok (.aload_n 0, 1) := D_42 (by decide +kernel)
theorem dX13_alike_46 : decode cX13_alike 46 = .ok (.getfield 43, 3) := D_180 (by decide +kernel)
theorem dX13_alike_49 : decode cX13_alike 49 = .ok (.bipush 32, 2) := D_16 (by decide +kernel)
theorem dX13_alike_51 : decode cX13_alike 51 = .ok (.iload_n 1, 1) := D_27 (by decide +kernel)
theorem dX13_alike_52 : decode cX13_alike 52 = .ok (.imul, 1) := D_104 (by decide +kernel)
theorem dX13_alike_53 : decode cX13_alike 53 = .ok (.iload 4, 2) := D_21 (by decide +kernel)
theorem dX13_alike_55 : decode cX13_alike 55 = .ok (.iadd, 1) := D_96 (by decide +kernel)
theorem dX13_alike_56 : decode cX13_alike 56 = .ok (.iaload, 1) := D_46 (by decide +kernel)
theorem dX13_alike_57 : decode cX13_alike 57 = .ok (.invokevirtual 559, 3) := D_182 (by decide +kernel)
theorem dX13_alike_60 : decode cX13_alike 60 = .ok (.aload_n 0, 1) := D_42 (by decide +kernel)
theorem dX13_alike_61 : decode cX13_alike 61 = .ok (.iload_n 1, 1) := D_27 (by decide +kernel)
theorem dX13_alike_62 : decode cX13_alike 62 = .ok (.iload_n 2, 1) := D_28 (by decide +kernel)
theorem dX13_alike_63 : decode cX13_alike 63 = .ok (.invokevirtual 559, 3) := D_182 (by decide +kernel)
theorem dX13_alike_66 : decode cX13_alike 66 = .ok (.if_icmp .ne 7, 3) := D_160 (by decide +kernel)
theorem dX13_alike_69 : decode cX13_alike 69 = .ok (.iconst 1, 1) := D_4 (by decide +kernel)
theorem dX13_alike_70 : decode cX13_alike 70 = .ok (.goto 4, 3) := D_167 (by decide +kernel)
theorem dX13_alike_73 : decode cX13_alike 73 = .ok (.iconst 0, 1) := D_3 (by decide +kernel)
theorem dX13_alike_74 : decode cX13_alike 74 = .ok (.iadd, 1) := D_96 (by decide +kernel)
theorem dX13_alike_75 : decode cX13_alike 75 = .ok (.istore_n 3, 1) := D_62 (by decide +kernel)
theorem dX13_alike_76 : decode cX13_alike 76 = .ok (.iinc 4 1, 3) := by decide +kernel
theorem dX13_alike_79 : decode cX13_alike 79 = .ok (.goto (-74), 3) := D_167 (by decide +kernel)
theorem dX13_alike_82 : decode cX13_alike 82 = .ok (.iload_n 3, 1) := D_29 (by decide +kernel)
theorem dX13_alike_83 : decode cX13_alike 83 = .ok (.ireturn, 1) := D_172 (by decide +kernel)
theorem kSX13_alike : yX13_alike.cls ≠ "java/lang/invoke/MethodHandle" ∧ yX13_alike.cls ≠ "java/lang/invoke/VarHandle" ∧ (parseMethodDescriptor yX13_alike.desc).map (fun d => d.parameters.length) = some 2 := by decide +kernel
theorem kVX13_alike : yX13_alike.cls = RX13 ∧ yX13_alike.cls ≠ "java/lang/invoke/MethodHandle" ∧ yX13_alike.cls ≠ "java/lang/invoke/VarHandle" ∧ (parseMethodDescriptor yX13_alike.desc).map (fun d => d.parameters.length) = some 2 := ⟨rfl, kSX13_alike⟩
theorem dX13_isAhead_0 : decode cX13_isAhead 0 = .ok (.aload_n 0, 1) := D_42 (by decide +kernel)
theorem dX13_isAhead_1 : decode cX13_isAhead 1 = .ok (.iload_n 1, 1) := D_27 (by decide +kernel)
theorem dX13_isAhead_2 : decode cX13_isAhead 2 = .ok (.iload_n 2, 1) := D_28 (by decide +kernel)
theorem dX13_isAhead_3 : decode cX13_isAhead 3 = .ok (.invokevirtual 556, 3) := D_182 (by decide +kernel)
theorem dX13_isAhead_6 : decode cX13_isAhead 6 = .ok (.aload_n 0, 1) := D_42 (by decide +kernel)
theorem dX13_isAhead_7 : decode cX13_isAhead 7 = .ok (.iload_n 1, 1) := D_27 (by decide +kernel)
theorem dX13_isAhead_8 : decode cX13_isAhead 8 = .ok (.iload_n 3, 1) := D_29 (by decide +kernel)
theorem dX13_isAhead_9 : decode cX13_isAhead 9 = .ok (.invokevirtual 556, 3) := D_182 (by decide +kernel)
theorem dX13_isAhead_12 : decode cX13_isAhead 12 = .ok (.if_icmp .eq 24, 3) := D_159 (by decide +kernel)
theorem dX13_isAhead_15 : decode cX13_isAhead 15 = .ok (.aload_n 0, 1) := D_42 (by decide +kernel)
theorem dX13_isAhead_16 : decode cX13_isAhead 16 = .ok (.iload_n 1, 1) := D_27 (by decide +kernel)
theorem dX13_isAhead_17 : decode cX13_isAhead 17 = .ok (.iload_n 2, 1) := D_28 (by decide +kernel)
theorem dX13_isAhead_18 : decode cX13_isAhead 18 = .ok (.invokevirtual 556, 3) := D_182 (by decide +kernel)
theorem dX13_isAhead_21 : decode cX13_isAhead 21 = .ok (.aload_n 0, 1) := D_42 (by decide +kernel)
theorem dX13_isAhead_22 : decode cX13_isAhead 22 = .ok (.iload_n 1, 1) := D_27 (by decide +kernel)
theorem dX13_isAhead_23 : decode cX13_isAhead 23 = .ok (.iload_n 3, 1) := D_29 (by decide +kernel)
theorem dX13_isAhead_24 : decode cX13_isAhead 24 = .ok (.invokevirtual 556, 3) := D_182 (by decide +kernel)
theorem dX13_isAhead_27 : decode cX13_isAhead 27 = .ok (.if_icmp .le 7, 3) := D_164 (by decide +kernel)
theorem dX13_isAhead_30 : decode cX13_isAhead 30 = .ok (.iconst 1, 1) := D_4 (by decide +kernel)
theorem dX13_isAhead_31 : decode cX13_isAhead 31 = .ok (.goto 4, 3) := D_167 (by decide +kernel)
theorem dX13_isAhead_34 : decode cX13_isAhead 34 = .ok (.iconst 0, 1) := D_3 (by decide +kernel)
theorem dX13_isAhead_35 : decode cX13_isAhead 35 = .ok (.ireturn, 1) := D_172 (by decide +kernel)
theorem dX13_isAhead_36 : decode cX13_isAhead 36 = .ok (.aload_n 0, 1) := D_42 (by decide +kernel)
theorem dX13_isAhead_37 : decode cX13_isAhead 37 = .ok (.iload_n 1, 1) := D_27 (by decide +kernel)
theorem dX13_isAhead_38 : decode cX13_isAhead 38 = .ok (.iload_n 2, 1) := D_28 (by decide +kernel)
theorem dX13_isAhead_39 : decode cX13_isAhead 39 = .ok (.invokevirtual 559, 3) := D_182 (by decide +kernel)
theorem dX13_isAhead_42 : decode cX13_isAhead 42 = .ok (.aload_n 0, 1) := D_42 (by decide +kernel)
theorem dX13_isAhead_43 : decode cX13_isAhead 43 = .ok (.iload_n 1, 1) := D_27 (by decide +kernel)
theorem dX13_isAhead_44 : decode cX13_isAhead 44 = .ok (.iload_n 3, 1) := D_29 (by decide +kernel)
theorem dX13_isAhead_45 : decode cX13_isAhead 45 = .ok (.invokevirtual 559, 3) := D_182 (by decide +kernel)
theorem dX13_isAhead_48 : decode cX13_isAhead 48 = .ok (.if_icmp .eq 24, 3) := D_159 (by decide +kernel)
theorem dX13_isAhead_51 : decode cX13_isAhead 51 = .ok (.aload_n 0, 1) := D_42 (by decide +kernel)
theorem dX13_isAhead_52 : decode cX13_isAhead 52 = .ok (.iload_n 1, 1) := D_27 (by decide +kernel)
theorem dX13_isAhead_53 : decode cX13_isAhead 53 = .ok (.iload_n 2, 1) := D_28 (by decide +kernel)
theorem dX13_isAhead_54 : decode cX13_isAhead 54 = .ok (.invokevirtual 559, 3) := D_182 (by decide +kernel)
theorem dX13_isAhead_57 : decode cX13_isAhead 57 = .ok (.aload_n 0, 1) := D_42 (by decide +kernel)
theorem dX13_isAhead_58 : decode cX13_isAhead 58 = .ok (.iload_n 1, 1) := D_27 (by decide +kernel)
theorem dX13_isAhead_59 : decode cX13_isAhead 59 = .ok (.iload_n 3, 1) := D_29 (by decide +kernel)
theorem dX13_isAhead_60 : decode cX13_isAhead 60 = .ok (.invokevirtual 559, 3) := D_182 (by decide +kernel)
theorem dX13_isAhead_63 : decode cX13_isAhead 63 = .ok (.if_icmp .le 7, 3) := D_164 (by decide +kernel)
theorem dX13_isAhead_66 : decode cX13_isAhead 66 = .ok (.iconst 1, 1) := D_4 (by decide +kernel)
theorem dX13_isAhead_67 : decode cX13_isAhead 67 = .ok (.goto 4, 3) := D_167 (by decide +kernel)
theorem dX13_isAhead_70 : decode cX13_isAhead 70 = .ok (.iconst 0, 1) := D_3 (by decide +kernel)
theorem dX13_isAhead_71 : decode cX13_isAhead 71 = .ok (.ireturn, 1) := D_172 (by decide +kernel)
theorem dX13_isAhead_72 : decode cX13_isAhead 72 = .ok (.aload_n 0, 1) := D_42 (by decide +kernel)
theorem dX13_isAhead_73 : decode cX13_isAhead 73 = .ok (.iload_n 1, 1) := D_27 (by decide +kernel)
theorem dX13_isAhead_74 : decode cX13_isAhead 74 = .ok (.iload_n 2, 1) := D_28 (by decide +kernel)
theorem dX13_isAhead_75 : decode cX13_isAhead 75 = .ok (.invokevirtual 562, 3) := D_182 (by decide +kernel)
theorem dX13_isAhead_78 : decode cX13_isAhead 78 = .ok (.iconst 2, 1) := D_5 (by decide +kernel)
theorem dX13_isAhead_79 : decode cX13_isAhead 79 = .ok (.if_icmp .ne 88, 3) := D_160 (by decide +kernel)
theorem dX13_isAhead_82 : decode cX13_isAhead 82 = .ok (.iconst 0, 1) := D_3 (by decide +kernel)
theorem dX13_isAhead_83 : decode cX13_isAhead 83 = .ok (.istore 4, 2) := D_54 (by decide +kernel)
theorem dX13_isAhead_85 : decode cX13_isAhead 85 = .ok (.iload 4, 2) := D_21 (by decide +kernel)
theorem dX13_isAhead_87 : decode cX13_isAhead 87 = .ok (.aload_n 0, 1) := D_42 (by decide +kernel)
theorem dX13_isAhead_88 : decode cX13_isAhead 88 = .ok (.iload_n 1, 1) := D_27 (by decide +kernel)
theorem dX13_isAhead_89 : decode cX13_isAhead 89 = .ok (.invokevirtual 218, 3) := D_182 (by decide +kernel)
theorem dX13_isAhead_92 : decode cX13_isAhead 92 = .ok (.if_icmp .ge 75, 3) := D_162 (by decide +kernel)
theorem dX13_isAhead_95 : decode cX13_isAhead 95 = .ok (.aload_n 0, 1) := D_42 (by decide +kernel)
theorem dX13_isAhead_96 : decode cX13_isAhead 96 = .ok (.iload_n 1, 1) := D_27 (by decide +kernel)
theorem dX13_isAhead_97 : decode cX13_isAhead 97 = .ok (.iload 4, 2) := D_21 (by decide +kernel)
theorem dX13_isAhead_99 : decode cX13_isAhead 99 = .ok (.iconst 0, 1) := D_3 (by decide +kernel)
theorem dX13_isAhead_100 : decode cX13_isAhead 100 = .ok (.invokevirtual 252, 3) := D_182 (by decide +kernel)
theorem dX13_isAhead_103 : decode cX13_isAhead 103 = .ok (.istore 5, 2) := D_54 (by decide +kernel)
theorem dX13_isAhead_105 : decode cX13_isAhead 105 = .ok (.aload_n 0, 1) := D_42 (by decide +kernel)
theorem dX13_isAhead_106 : decode cX13_isAhead 106 = .ok (.iload_n 1, 1) := D_27 (by decide +kernel)
theorem dX13_isAhead_107 : decode cX13_isAhead 107 = .ok (.iload 4, 2) := D_21 (by decide +kernel)
theorem dX13_isAhead_109 : decode cX13_isAhead 109 = .ok (.iconst 1, 1) := D_4 (by decide +kernel)
theorem dX13_isAhead_110 : decode cX13_isAhead 110 = .ok (.invokevirtual 252, 3) := D_182 (by decide +kernel)
theorem dX13_isAhead_113 : decode cX13_isAhead 113 = .ok (.istore 6, 2) := D_54 (by decide +kernel)
theorem dX13_isAhead_115 : decode cX13_isAhead 115 = .ok (.iload 5, 2) := D_21 (by decide +kernel)
theorem dX13_isAhead_117 : decode cX13_isAhead 117 = .ok (.iload_n 2, 1) := D_28 (by decide +kernel)
theorem dX13_isAhead_118 : decode cX13_isAhead 118 = .ok (.if_icmp .ne 9, 3) := D_160 (by decide +kernel)
theorem dX13_isAhead_121 : decode cX13_isAhead 121 = .ok (.iload 6, 2) := D_21 (by decide +kernel)
theorem dX13_isAhead_123 : decode cX13_isAhead 123 = .ok (.iload_n 3, 1) := D_29 (by decide +kernel)
theorem dX13_isAhead_124 : decode cX13_isAhead 124 = .ok (.if_icmp .eq 15, 3) := D_159 (by decide +kernel)
theorem dX13_isAhead_127 : decode cX13_isAhead 127 = .ok (.iload 5, 2) := D_21 (by decide +kernel)
theorem dX13_isAhead_129 : decode cX13_isAhead 129 = .ok (.iload_n 3, 1) := D_29 (by decide +kernel)
theorem dX13_isAhead_130 : decode cX13_isAhead 130 = .ok (.if_icmp .ne 31, 3) := D_160 (by decide +kernel)
theorem dX13_isAhead_133 : decode cX13_isAhead 133 = .ok (.iload 6, 2) := D_21 (by decide +kernel)
theorem dX13_isAhead_135 : decode cX13_isAhead 135 = .ok (.iload_n 2, 1) := D_28 (by decide +kernel)
theorem dX13_isAhead_136 : decode cX13_isAhead 136 = .ok (.if_icmp .ne 25, 3) := D_160 (by decide +kernel)
theorem dX13_isAhead_139 : decode cX13_isAhead 139 = .ok (.aload_n 0, 1) := D_42 (by decide +kernel)
theorem dX13_isAhead_140 : decode cX13_isAhead 140 = .ok (.getfield 55, 3) := D_180 (by decide +kernel)
theorem dX13_isAhead_143 : decode cX13_isAhead 143 = .ok (.bipush 40, 2) := D_16 (by decide +kernel)
theorem dX13_isAhead_145 : decode cX13_isAhead 145 = .ok (.iload_n 1, 1) := D_27 (by decide +kernel)
theorem dX13_isAhead_146 : decode cX13_isAhead 146 = .ok (.imul, 1) := D_104 (by decide +kernel)
theorem dX13_isAhead_147 : decode cX13_isAhead 147 = .ok (.iload 4, 2) := D_21 (by decide +kernel)
theorem dX13_isAhead_149 : decode cX13_isAhead 149 = .ok (.iadd, 1) := D_96 (by decide +kernel)
theorem dX13_isAhead_150 : decode cX13_isAhead 150 = .ok (.iaload, 1) := D_46 (by decide +kernel)
theorem dX13_isAhead_151 : decode cX13_isAhead 151 = .ok (.iload_n 2, 1) := D_28 (by decide +kernel)
theorem dX13_isAhead_152 : decode cX13_isAhead 152 = .ok (.if_icmp .ne 7, 3) := D_160 (by decide +kernel)
theorem dX13_isAhead_155 : decode cX13_isAhead 155 = .ok (.iconst 1, 1) := D_4 (by decide +kernel)
theorem dX13_isAhead_156 : decode cX13_isAhead 156 = .ok (.goto 4, 3) := D_167 (by decide +kernel)
theorem dX13_isAhead_159 : decode cX13_isAhead 159 = .ok (.iconst 0, 1) := D_3 (by decide +kernel)
theorem dX13_isAhead_160 : decode cX13_isAhead 160 = .ok (.ireturn, 1) := D_172 (by decide +kernel)
theorem dX13_isAhead_161 : decode cX13_isAhead 161 = .ok (.iinc 4 1, 3) := by decide +kernel
theorem dX13_isAhead_164 : decode cX13_isAhead 164 = .ok (.goto (-79), 3) := D_167 (by decide +kernel)
theorem dX13_isAhead_167 : decode cX13_isAhead 167 = .ok (.aload_n 0, 1) := D_42 (by decide +kernel)
theorem dX13_isAhead_168 : decode cX13_isAhead 168 = .ok (.getfield 22, 3) := D_180 (by decide +kernel)
theorem dX13_isAhead_171 : decode cX13_isAhead 171 = .ok (.iload_n 2, 1) := D_28 (by decide +kernel)
theorem dX13_isAhead_172 : decode cX13_isAhead 172 = .ok (.iaload, 1) := D_46 (by decide +kernel)
theorem dX13_isAhead_173 : decode cX13_isAhead 173 = .ok (.aload_n 0, 1) := D_42 (by decide +kernel)
theorem dX13_isAhead_174 : decode cX13_isAhead 174 = .ok (.getfield 22, 3) := D_180 (by decide +kernel)
theorem dX13_isAhead_177 : decode cX13_isAhead 177 = .ok (.iload_n 3, 1) := D_29 (by decide +kernel)
theorem dX13_isAhead_178 : decode cX13_isAhead 178 = .ok (.iaload, 1) := D_46 (by decide +kernel)
theorem dX13_isAhead_179 : decode cX13_isAhead 179 = .ok (.if_icmp .eq 26, 3) := D_159 (by decide +kernel)
theorem dX13_isAhead_182 : decode cX13_isAhead 182 = .ok (.aload_n 0, 1) := D_42 (by decide +kernel)
theorem dX13_isAhead_183 : decode cX13_isAhead 183 = .ok (.getfield 22, 3) := D_180 (by decide +kernel)
theorem dX13_isAhead_186 : decode cX13_isAhead 186 = .ok (.iload_n 2, 1) := D_28 (by decide +kernel)
theorem dX13_isAhead_187 : decode cX13_isAhead 187 = .ok (.iaload, 1) := D_46 (by decide +kernel)
theorem dX13_isAhead_188 : decode cX13_isAhead 188 = .ok (.aload_n 0, 1) := D_42 (by decide +kernel)
theorem dX13_isAhead_189 : decode cX13_isAhead 189 = .ok (.getfield 22, 3) := D_180 (by decide +kernel)
theorem dX13_isAhead_192 : decode cX13_isAhead 192 = .ok (.iload_n 3, 1) := D_29 (by decide +kernel)
theorem dX13_isAhead_193 : decode cX13_isAhead 193 = .ok (.iaload, 1) := D_46 (by decide +kernel)
theorem dX13_isAhead_194 : decode cX13_isAhead 194 = .ok (.if_icmp .ge 7, 3) := D_162 (by decide +kernel)
theorem dX13_isAhead_197 : decode cX13_isAhead 197 = .ok (.iconst 1, 1) := D_4 (by decide +kernel)
theorem dX13_isAhead_198 : decode cX13_isAhead 198 = .ok (.goto 17, 3) := D_167 (by decide +kernel)
theorem dX13_isAhead_201 : decode cX13_isAhead 201 = .ok (.iconst 0, 1) := D_3 (by decide +kernel)
theorem dX13_isAhead_202 : decode cX13_isAhead 202 = .ok (.goto 13, 3) := D_167 (by decide +kernel)
theorem dX13_isAhead_205 : decode cX13_isAhead 205 = .ok (.iload_n 2, 1) := D_28 (by decide +kernel)
theorem dX13_isAhead_206 : decode cX13_isAhead 206 = .ok (.iload_n 3, 1) := D_29 (by decide +kernel)
theorem dX13_isAhead_207 : decode cX13_isAhead 207 = .ok (.if_icmp .ge 7, 3) := D_162 (by decide +kernel)
theorem dX13_isAhead_210 : decode cX13_isAhead 210 = .ok (.iconst 1, 1) := D_4 (by decide +kernel)
theorem dX13_isAhead_211 : decode cX13_isAhead 211 = .ok (.goto 4, 3) := D_167 (by decide +kernel)
theorem dX13_isAhead_214 : decode cX13_isAhead 214 = .ok (.iconst 0, 1) := D_3 (by decide +kernel)
theorem dX13_isAhead_215 : decode cX13_isAhead 215 = .ok (.ireturn, 1) := D_172 (by decide +kernel)
theorem kSX13_isAhead : yX13_isAhead.cls ≠ "java/lang/invoke/MethodHandle" ∧ yX13_isAhead.cls ≠ "java/lang/invoke/VarHandle" ∧ (parseMethodDescriptor yX13_isAhead.desc).map (fun d => d.parameters.length) = some 3 := by decide +kernel
theorem kVX13_isAhead : yX13_isAhead.cls = RX13 ∧ yX13_isAhead.cls ≠ "java/lang/invoke/MethodHandle" ∧ yX13_isAhead.cls ≠ "java/lang/invoke/VarHandle" ∧ (parseMethodDescriptor yX13_isAhead.desc).map (fun d => d.parameters.length) = some 3 := ⟨rfl, kSX13_isAhead⟩
theorem dX13_ordered_0 : decode cX13_ordered 0 = .ok (.iconst 0, 1) := D_3 (by decide +kernel)
theorem dX13_ordered_1 : decode cX13_ordered 1 = .ok (.istore_n 3, 1) := D_62 (by decide +kernel)
theorem dX13_ordered_2 : decode cX13_ordered 2 = .ok (.iload_n 3, 1) := D_29 (by decide +kernel)
theorem dX13_ordered_3 : decode cX13_ordered 3 = .ok (.aload_n 0, 1) := D_42 (by decide +kernel)
theorem dX13_ordered_4 : decode cX13_ordered 4 = .ok (.getfield 40, 3) := D_180 (by decide +kernel)
theorem dX13_ordered_7 : decode cX13_ordered 7 = .ok (.iload_n 1, 1) := D_27 (by decide +kernel)
theorem dX13_ordered_8 : decode cX13_ordered 8 = .ok (.iaload, 1) := D_46 (by decide +kernel)
theorem dX13_ordered_9 : decode cX13_ordered 9 = .ok (.if_icmp .ge 92, 3) := D_162 (by decide +kernel)
theorem dX13_ordered_12 : decode cX13_ordered 12 = .ok (.aload_n 0, 1) := D_42 (by decide +kernel)
theorem dX13_ordered_13 : decode cX13_ordered 13 = .ok (.getfield 43, 3) := D_180 (by decide +kernel)
theorem dX13_ordered_16 : decode cX13_ordered 16 = .ok (.bipush 32, 2) := D_16 (by decide +kernel)
theorem dX13_ordered_18 : decode cX13_ordered 18 = .ok (.iload_n 1, 1) := D_27 (by decide +kernel)
theorem dX13_ordered_19 : decode cX13_ordered 19 = .ok (.imul, 1) := D_104 (by decide +kernel)
theorem dX13_ordered_20 : decode cX13_ordered 20 = .ok (.iload_n 3, 1) := D_29 (by decide +kernel)
theorem dX13_ordered_21 : decode cX13_ordered 21 = .ok (.iadd, 1) := D_96 (by decide +kernel)
theorem dX13_ordered_22 : decode cX13_ordered 22 = .ok (.iaload, 1) := D_46 (by decide +kernel)
theorem dX13_ordered_23 : decode cX13_ordered 23 = .ok (.istore 4, 2) := D_54 (by decide +kernel)
theorem dX13_ordered_25 : decode cX13_ordered 25 = .ok (.iconst 0, 1) := D_3 (by decide +kernel)
theorem dX13_ordered_26 : decode cX13_ordered 26 = .ok (.istore 5, 2) := D_54 (by decide +kernel)
theorem dX13_ordered_28 : decode cX13_ordered 28 = .ok (.iconst 0, 1) := D_3 (by decide +kernel)
theorem dX13_ordered_29 : decode cX13_ordered 29 = .ok (.istore 6, 2) := D_54 (by decide +kernel)
theorem dX13_ordered_31 : decode cX13_ordered 31 = .ok (.iload 6, 2) := D_21 (by decide +kernel)
theorem dX13_ordered_33 : decode cX13_ordered 33 = .ok (.aload_n 0, 1) := D_42 (by decide +kernel)
theorem dX13_ordered_34 : decode cX13_ordered 34 = .ok (.getfield 40, 3) := D_180 (by decide +kernel)
theorem dX13_ordered_37 : decode cX13_ordered 37 = .ok (.iload_n 1, 1) := D_27 (by decide +kernel)
theorem dX13_ordered_38 : decode cX13_ordered 38 = .ok (.iaload, 1) := D_46 (by decide +kernel)
theorem dX13_ordered_39 : decode cX13_ordered 39 = .ok (.if_icmp .ge 47, 3) := D_162 (by decide +kernel)
theorem dX13_ordered_42 : decode cX13_ordered 42 = .ok (.iload 5, 2) := D_21 (by decide +kernel)
theorem dX13_ordered_44 : decode cX13_ordered 44 = .ok (.iload 6, 2) := D_21 (by decide +kernel)
theorem dX13_ordered_46 : decode cX13_ordered 46 = .ok (.iload_n 3, 1) := D_29 (by decide +kernel)
theorem dX13_ordered_47 : decode cX13_ordered 47 = .ok (.if_icmp .eq 29, 3) := D_159 (by decide +kernel)
theorem dX13_ordered_50 : decode cX13_ordered 50 = .ok (.aload_n 0, 1) := D_42 (by decide +kernel)
theorem dX13_ordered_51 : decode cX13_ordered 51 = .ok (.iload_n 1, 1) := D_27 (by decide +kernel)
theorem dX13_ordered_52 : decode cX13_ordered 52 = .ok (.aload_n 0, 1) := D_42 (by decide +kernel)
theorem dX13_ordered_53 : decode cX13_ordered 53 = .ok (.getfield 43, 3) := D_180 (by decide +kernel)
theorem dX13_ordered_56 : decode cX13_ordered 56 = .ok (.bipush 32, 2) := D_16 (by decide +kernel)
theorem dX13_ordered_58 : decode cX13_ordered 58 = .ok (.iload_n 1, 1) := D_27 (by decide +kernel)
theorem dX13_ordered_59 : decode cX13_ordered 59 = .ok (.imul, 1) := D_104 (by decide +kernel)
theorem dX13_ordered_60 : decode cX13_ordered 60 = .ok (.iload 6, 2) := D_21 (by decide +kernel)
theorem dX13_ordered_62 : decode cX13_ordered 62 = .ok (.iadd, 1) := D_96 (by decide +kernel)
theorem dX13_ordered_63 : decode cX13_ordered 63 = .ok (.iaload, 1) := D_46 (by decide +kernel)
theorem dX13_ordered_64 : decode cX13_ordered 64 = .ok (.iload 4, 2) := D_21 (by decide +kernel)
theorem dX13_ordered_66 : decode cX13_ordered 66 = .ok (.invokevirtual 565, 3) := D_182 (by decide +kernel)
theorem dX13_ordered_69 : decode cX13_ordered 69 = .ok (.ifCond .eq 7, 3) := D_153 (by decide +kernel)
theorem dX13_ordered_72 : decode cX13_ordered 72 = .ok (.iconst 1, 1) := D_4 (by decide +kernel)
theorem dX13_ordered_73 : decode cX13_ordered 73 = .ok (.goto 4, 3) := D_167 (by decide +kernel)
theorem dX13_ordered_76 : decode cX13_ordered 76 = .ok (.iconst 0, 1) := D_3 (by decide +kernel)
theorem dX13_ordered_77 : decode cX13_ordered 77 = .ok (.iadd, 1) := D_96 (by decide +kernel)
theorem dX13_ordered_78 : decode cX13_ordered 78 = .ok (.istore 5, 2) := D_54 (by decide +kernel)
theorem dX13_ordered_80 : decode cX13_ordered 80 = .ok (.iinc 6 1, 3) := by decide +kernel
theorem dX13_ordered_83 : decode cX13_ordered 83 = .ok (.goto (-52), 3) := D_167 (by decide +kernel)
theorem dX13_ordered_86 : decode cX13_ordered 86 = .ok (.iload 5, 2) := D_21 (by decide +kernel)
theorem dX13_ordered_88 : decode cX13_ordered 88 = .ok (.iload_n 2, 1) := D_28 (by decide +kernel)
theorem dX13_ordered_89 : decode cX13_ordered 89 = .ok (.if_icmp .ne 6, 3) := D_160 (by decide +kernel)
theorem dX13_ordered_92 : decode cX13_ordered 92 = .ok (.iload 4, 2) := D_21 (by decide +kernel)
theorem dX13_ordered_94 : decode cX13_ordered 94 = .ok (.ireturn, 1) := D_172 (by decide +kernel)
theorem dX13_ordered_95 : decode cX13_ordered 95 = .ok (.iinc 3 1, 3) := by decide +kernel
theorem dX13_ordered_98 : decode cX13_ordered 98 = .ok (.goto (-96), 3) := D_167 (by decide +kernel)
theorem dX13_ordered_101 : decode cX13_ordered 101 = .ok (.iconst (-1), 1) := D_2 (by decide +kernel)
theorem dX13_ordered_102 : decode cX13_ordered 102 = .ok (.ireturn, 1) := D_172 (by decide +kernel)
theorem kSX13_ordered : yX13_ordered.cls ≠ "java/lang/invoke/MethodHandle" ∧ yX13_ordered.cls ≠ "java/lang/invoke/VarHandle" ∧ (parseMethodDescriptor yX13_ordered.desc).map (fun d => d.parameters.length) = some 2 := by decide +kernel
theorem kVX13_ordered : yX13_ordered.cls = RX13 ∧ yX13_ordered.cls ≠ "java/lang/invoke/MethodHandle" ∧ yX13_ordered.cls ≠ "java/lang/invoke/VarHandle" ∧ (parseMethodDescriptor yX13_ordered.desc).map (fun d => d.parameters.length) = some 2 := ⟨rfl, kSX13_ordered⟩
theorem dX13_stage_0 : decode cX13_stage 0 = .ok (.iload_n 1, 1) := D_27 (by decide +kernel)
theorem dX13_stage_1 : decode cX13_stage 1 = .ok (.bipush 40, 2) := D_16 (by decide +kernel)
theorem dX13_stage_3 : decode cX13_stage 3 = .ok (.idiv, 1) := D_108 (by decide +kernel)
theorem dX13_stage_4 : decode cX13_stage 4 = .ok (.istore_n 2, 1) := D_61 (by decide +kernel)
theorem dX13_stage_5 : decode cX13_stage 5 = .ok (.iload_n 1, 1) := D_27 (by decide +kernel)
theorem dX13_stage_6 : decode cX13_stage 6 = .ok (.bipush 40, 2) := D_16 (by decide +kernel)
theorem dX13_stage_8 : decode cX13_stage 8 = .ok (.irem, 1) := D_112 (by decide +kernel)
theorem dX13_stage_9 : decode cX13_stage 9 = .ok (.istore_n 3, 1) := D_62 (by decide +kernel)
theorem dX13_stage_10 : decode cX13_stage 10 = .ok (.aload_n 0, 1) := D_42 (by decide +kernel)
theorem dX13_stage_11 : decode cX13_stage 11 = .ok (.getfield 37, 3) := D_180 (by decide +kernel)
theorem dX13_stage_14 : decode cX13_stage 14 = .ok (.iload_n 2, 1) := D_28 (by decide +kernel)
theorem dX13_stage_15 : decode cX13_stage 15 = .ok (.iaload, 1) := D_46 (by decide +kernel)
theorem dX13_stage_16 : decode cX13_stage 16 = .ok (.iconst 1, 1) := D_4 (by decide +kernel)
theorem dX13_stage_17 : decode cX13_stage 17 = .ok (.if_icmp .ne 5, 3) := D_160 (by decide +kernel)
theorem dX13_stage_20 : decode cX13_stage 20 = .ok (.iconst 0, 1) := D_3 (by decide +kernel)
theorem dX13_stage_21 : decode cX13_stage 21 = .ok (.ireturn, 1) := D_172 (by decide +kernel)
theorem dX13_stage_22 : decode cX13_stage 22 = .ok (.aload_n 0, 1) := D_42 (by decide +kernel)
theorem dX13_stage_23 : decode cX13_stage 23 = .ok (.iload_n 2, 1) := D_28 (by decide +kernel)
theorem dX13_stage_24 : decode cX13_stage 24 = .ok (.iload_n 3, 1) := D_29 (by decide +kernel)
theorem dX13_stage_25 : decode cX13_stage 25 = .ok (.invokevirtual 229, 3) := D_182 (by decide +kernel)
theorem dX13_stage_28 : decode cX13_stage 28 = .ok (.ifCond .eq 13, 3) := D_153 (by decide +kernel)
theorem dX13_stage_31 : decode cX13_stage 31 = .ok (.bipush 10, 2) := D_16 (by decide +kernel)
theorem dX13_stage_33 : decode cX13_stage 33 = .ok (.aload_n 0, 1) := D_42 (by decide +kernel)
theorem dX13_stage_34 : decode cX13_stage 34 = .ok (.iload_n 2, 1) := D_28 (by decide +kernel)
theorem dX13_stage_35 : decode cX13_stage 35 = .ok (.iload_n 3, 1) := D_29 (by decide +kernel)
theorem dX13_stage_36 : decode cX13_stage 36 = .ok (.invokevirtual 236, 3) := D_182 (by decide +kernel)
theorem dX13_stage_39 : decode cX13_stage 39 = .ok (.iadd, 1) := D_96 (by decide +kernel)
theorem dX13_stage_40 : decode cX13_stage 40 = .ok (.ireturn, 1) := D_172 (by decide +kernel)
theorem dX13_stage_41 : decode cX13_stage 41 = .ok (.iload_n 3, 1) := D_29 (by decide +kernel)
theorem dX13_stage_42 : decode cX13_stage 42 = .ok (.aload_n 0, 1) := D_42 (by decide +kernel)
theorem dX13_stage_43 : decode cX13_stage 43 = .ok (.iload_n 2, 1) := D_28 (by decide +kernel)
theorem dX13_stage_44 : decode cX13_stage 44 = .ok (.invokevirtual 553, 3) := D_182 (by decide +kernel)
theorem dX13_stage_47 : decode cX13_stage 47 = .ok (.if_icmp .ne 8, 3) := D_160 (by decide +kernel)
theorem dX13_stage_50 : decode cX13_stage 50 = .ok (.bipush 20, 2) := D_16 (by decide +kernel)
theorem dX13_stage_52 : decode cX13_stage 52 = .ok (.goto 9, 3) := D_167 (by decide +kernel)
theorem dX13_stage_55 : decode cX13_stage 55 = .ok (.aload_n 0, 1) := D_42 (by decide +kernel)
theorem dX13_stage_56 : decode cX13_stage 56 = .ok (.iload_n 2, 1) := D_28 (by decide +kernel)
theorem dX13_stage_57 : decode cX13_stage 57 = .ok (.iload_n 3, 1) := D_29 (by decide +kernel)
theorem dX13_stage_58 : decode cX13_stage 58 = .ok (.invokevirtual 243, 3) := D_182 (by decide +kernel)
theorem dX13_stage_61 : decode cX13_stage 61 = .ok (.ireturn, 1) := D_172 (by decide +kernel)
theorem kSX13_stage : yX13_stage.cls ≠ "java/lang/invoke/MethodHandle" ∧ yX13_stage.cls ≠ "java/lang/invoke/VarHandle" ∧ (parseMethodDescriptor yX13_stage.desc).map (fun d => d.parameters.length) = some 1 := by decide +kernel
theorem kVX13_stage : yX13_stage.cls = RX13 ∧ yX13_stage.cls ≠ "java/lang/invoke/MethodHandle" ∧ yX13_stage.cls ≠ "java/lang/invoke/VarHandle" ∧ (parseMethodDescriptor yX13_stage.desc).map (fun d => d.parameters.length) = some 1 := ⟨rfl, kSX13_stage⟩
theorem dX13_tires_0 : decode cX13_tires 0 = .ok (.aload_n 0, 1) := D_42 (by decide +kernel)
theorem dX13_tires_1 : decode cX13_tires 1 = .ok (.getfield 161, 3) := D_180 (by decide +kernel)
theorem dX13_tires_4 : decode cX13_tires 4 = .ok (.iload_n 1, 1) := D_27 (by decide +kernel)
theorem dX13_tires_5 : decode cX13_tires 5 = .ok (.iaload, 1) := D_46 (by decide +kernel)
theorem dX13_tires_6 : decode cX13_tires 6 = .ok (.iconst (-1), 1) := D_2 (by decide +kernel)
theorem dX13_tires_7 : decode cX13_tires 7 = .ok (.if_icmp .eq 34, 3) := D_159 (by decide +kernel)
theorem dX13_tires_10 : decode cX13_tires 10 = .ok (.aload_n 0, 1) := D_42 (by decide +kernel)
theorem dX13_tires_11 : decode cX13_tires 11 = .ok (.getfield 167, 3) := D_180 (by decide +kernel)
theorem dX13_tires_14 : decode cX13_tires 14 = .ok (.aload_n 0, 1) := D_42 (by decide +kernel)
theorem dX13_tires_15 : decode cX13_tires 15 = .ok (.getfield 161, 3) := D_180 (by decide +kernel)
theorem dX13_tires_18 : decode cX13_tires 18 = .ok (.iload_n 1, 1) := D_27 (by decide +kernel)
theorem dX13_tires_19 : decode cX13_tires 19 = .ok (.iaload, 1) := D_46 (by decide +kernel)
theorem dX13_tires_20 : decode cX13_tires 20 = .ok (.aload_n 0, 1) := D_42 (by decide +kernel)
theorem dX13_tires_21 : decode cX13_tires 21 = .ok (.getfield 167, 3) := D_180 (by decide +kernel)
theorem dX13_tires_24 : decode cX13_tires 24 = .ok (.aload_n 0, 1) := D_42 (by decide +kernel)
theorem dX13_tires_25 : decode cX13_tires 25 = .ok (.getfield 161, 3) := D_180 (by decide +kernel)
theorem dX13_tires_28 : decode cX13_tires 28 = .ok (.iload_n 1, 1) := D_27 (by decide +kernel)
theorem dX13_tires_29 : decode cX13_tires 29 = .ok (.iaload, 1) := D_46 (by decide +kernel)
theorem dX13_tires_30 : decode cX13_tires 30 = .ok (.iaload, 1) := D_46 (by decide +kernel)
theorem dX13_tires_31 : decode cX13_tires 31 = .ok (.iload_n 2, 1) := D_28 (by decide +kernel)
theorem dX13_tires_32 : decode cX13_tires 32 = .ok (.aload_n 0, 1) := D_42 (by decide +kernel)
theorem dX13_tires_33 : decode cX13_tires 33 = .ok (.getfield 182, 3) := D_180 (by decide +kernel)
theorem dX13_tires_36 : decode cX13_tires 36 = .ok (.iadd, 1) := D_96 (by decide +kernel)
theorem dX13_tires_37 : decode cX13_tires 37 = .ok (.invokestatic 511, 3) := D_184 (by decide +kernel)
theorem dX13_tires_40 : decode cX13_tires 40 = .ok (.iastore, 1) := D_79 (by decide +kernel)
theorem dX13_tires_41 : decode cX13_tires 41 = .ok (.aload_n 0, 1) := D_42 (by decide +kernel)
theorem dX13_tires_42 : decode cX13_tires 42 = .ok (.getfield 164, 3) := D_180 (by decide +kernel)
theorem dX13_tires_45 : decode cX13_tires 45 = .ok (.iload_n 1, 1) := D_27 (by decide +kernel)
theorem dX13_tires_46 : decode cX13_tires 46 = .ok (.iaload, 1) := D_46 (by decide +kernel)
theorem dX13_tires_47 : decode cX13_tires 47 = .ok (.iconst (-1), 1) := D_2 (by decide +kernel)
theorem dX13_tires_48 : decode cX13_tires 48 = .ok (.if_icmp .eq 34, 3) := D_159 (by decide +kernel)
theorem dX13_tires_51 : decode cX13_tires 51 = .ok (.aload_n 0, 1) := D_42 (by decide +kernel)
theorem dX13_tires_52 : decode cX13_tires 52 = .ok (.getfield 167, 3) := D_180 (by decide +kernel)
theorem dX13_tires_55 : decode cX13_tires 55 = .ok (.aload_n 0, 1) := D_42 (by decide +kernel)
theorem dX13_tires_56 : decode cX13_tires 56 = .ok (.getfield 164, 3) := D_180 (by decide +kernel)
theorem dX13_tires_59 : decode cX13_tires 59 = .ok (.iload_n 1, 1) := D_27 (by decide +kernel)
theorem dX13_tires_60 : decode cX13_tires 60 = .ok (.iaload, 1) := D_46 (by decide +kernel)
theorem dX13_tires_61 : decode cX13_tires 61 = .ok (.aload_n 0, 1) := D_42 (by decide +kernel)
theorem dX13_tires_62 : decode cX13_tires 62 = .ok (.getfield 167, 3) := D_180 (by decide +kernel)
theorem dX13_tires_65 : decode cX13_tires 65 = .ok (.aload_n 0, 1) := D_42 (by decide +kernel)
theorem dX13_tires_66 : decode cX13_tires 66 = .ok (.getfield 164, 3) := D_180 (by decide +kernel)
theorem dX13_tires_69 : decode cX13_tires 69 = .ok (.iload_n 1, 1) := D_27 (by decide +kernel)
theorem dX13_tires_70 : decode cX13_tires 70 = .ok (.iaload, 1) := D_46 (by decide +kernel)
theorem dX13_tires_71 : decode cX13_tires 71 = .ok (.iaload, 1) := D_46 (by decide +kernel)
theorem dX13_tires_72 : decode cX13_tires 72 = .ok (.iload_n 2, 1) := D_28 (by decide +kernel)
theorem dX13_tires_73 : decode cX13_tires 73 = .ok (.aload_n 0, 1) := D_42 (by decide +kernel)
theorem dX13_tires_74 : decode cX13_tires 74 = .ok (.getfield 182, 3) := D_180 (by decide +kernel)
theorem dX13_tires_77 : decode cX13_tires 77 = .ok (.iadd, 1) := D_96 (by decide +kernel)
theorem dX13_tires_78 : decode cX13_tires 78 = .ok (.invokestatic 511, 3) := D_184 (by decide +kernel)
theorem dX13_tires_81 : decode cX13_tires 81 = .ok (.iastore, 1) := D_79 (by decide +kernel)
theorem dX13_tires_82 : decode cX13_tires 82 = .ok (.return_, 1) := D_177 (by decide +kernel)
theorem kSX13_tires : yX13_tires.cls ≠ "java/lang/invoke/MethodHandle" ∧ yX13_tires.cls ≠ "java/lang/invoke/VarHandle" ∧ (parseMethodDescriptor yX13_tires.desc).map (fun d => d.parameters.length) = some 2 := by decide +kernel
theorem kVX13_tires : yX13_tires.cls = RX13 ∧ yX13_tires.cls ≠ "java/lang/invoke/MethodHandle" ∧ yX13_tires.cls ≠ "java/lang/invoke/VarHandle" ∧ (parseMethodDescriptor yX13_tires.desc).map (fun d => d.parameters.length) = some 2 := ⟨rfl, kSX13_tires⟩
theorem dX13_isOver_0 : decode cX13_isOver 0 = .ok (.bipush 40, 2) := D_16 (by decide +kernel)
theorem dX13_isOver_2 : decode cX13_isOver 2 = .ok (.iload_n 1, 1) := D_27 (by decide +kernel)
theorem dX13_isOver_3 : decode cX13_isOver 3 = .ok (.imul, 1) := D_104 (by decide +kernel)
theorem dX13_isOver_4 : decode cX13_isOver 4 = .ok (.iload_n 2, 1) := D_28 (by decide +kernel)
theorem dX13_isOver_5 : decode cX13_isOver 5 = .ok (.iadd, 1) := D_96 (by decide +kernel)
theorem dX13_isOver_6 : decode cX13_isOver 6 = .ok (.istore 5, 2) := D_54 (by decide +kernel)
theorem dX13_isOver_8 : decode cX13_isOver 8 = .ok (.aload_n 0, 1) := D_42 (by decide +kernel)
theorem dX13_isOver_9 : decode cX13_isOver 9 = .ok (.getfield 155, 3) := D_180 (by decide +kernel)
theorem dX13_isOver_12 : decode cX13_isOver 12 = .ok (.iload 5, 2) := D_21 (by decide +kernel)
theorem dX13_isOver_14 : decode cX13_isOver 14 = .ok (.iaload, 1) := D_46 (by decide +kernel)
theorem dX13_isOver_15 : decode cX13_isOver 15 = .ok (.ifCond .eq 33, 3) := D_153 (by decide +kernel)
theorem dX13_isOver_18 : decode cX13_isOver 18 = .ok (.aload_n 0, 1) := D_42 (by decide +kernel)
theorem dX13_isOver_19 : decode cX13_isOver 19 = .ok (.getfield 155, 3) := D_180 (by decide +kernel)
theorem dX13_isOver_22 : decode cX13_isOver 22 = .ok (.iload 5, 2) := D_21 (by decide +kernel)
theorem dX13_isOver_24 : decode cX13_isOver 24 = .ok (.iaload, 1) := D_46 (by decide +kernel)
theorem dX13_isOver_25 : decode cX13_isOver 25 = .ok (.iconst 2, 1) := D_5 (by decide +kernel)
theorem dX13_isOver_26 : decode cX13_isOver 26 = .ok (.if_icmp .ne 26, 3) := D_160 (by decide +kernel)
theorem dX13_isOver_29 : decode cX13_isOver 29 = .ok (.iload_n 3, 1) := D_29 (by decide +kernel)
theorem dX13_isOver_30 : decode cX13_isOver 30 = .ok (.aload_n 0, 1) := D_42 (by decide +kernel)
theorem dX13_isOver_31 : decode cX13_isOver 31 = .ok (.getfield 152, 3) := D_180 (by decide +kernel)
theorem dX13_isOver_34 : decode cX13_isOver 34 = .ok (.iload 5, 2) := D_21 (by decide +kernel)
theorem dX13_isOver_36 : decode cX13_isOver 36 = .ok (.iaload, 1) := D_46 (by decide +kernel)
theorem dX13_isOver_37 : decode cX13_isOver 37 = .ok (.iload 4, 2) := D_21 (by decide +kernel)
theorem dX13_isOver_39 : decode cX13_isOver 39 = .ok (.iadd, 1) := D_96 (by decide +kernel)
theorem dX13_isOver_40 : decode cX13_isOver 40 = .ok (.aload_n 0, 1) := D_42 (by decide +kernel)
theorem dX13_isOver_41 : decode cX13_isOver 41 = .ok (.getfield 182, 3) := D_180 (by decide +kernel)
theorem dX13_isOver_44 : decode cX13_isOver 44 = .ok (.iadd, 1) := D_96 (by decide +kernel)
theorem dX13_isOver_45 : decode cX13_isOver 45 = .ok (.if_icmp .lt 7, 3) := D_161 (by decide +kernel)
theorem dX13_isOver_48 : decode cX13_isOver 48 = .ok (.iconst 1, 1) := D_4 (by decide +kernel)
theorem dX13_isOver_49 : decode cX13_isOver 49 = .ok (.goto 4, 3) := D_167 (by decide +kernel)
theorem dX13_isOver_52 : decode cX13_isOver 52 = .ok (.iconst 0, 1) := D_3 (by decide +kernel)
theorem dX13_isOver_53 : decode cX13_isOver 53 = .ok (.ireturn, 1) := D_172 (by decide +kernel)
theorem kSX13_isOver : yX13_isOver.cls ≠ "java/lang/invoke/MethodHandle" ∧ yX13_isOver.cls ≠ "java/lang/invoke/VarHandle" ∧ (parseMethodDescriptor yX13_isOver.desc).map (fun d => d.parameters.length) = some 4 := by decide +kernel
theorem kVX13_isOver : yX13_isOver.cls = RX13 ∧ yX13_isOver.cls ≠ "java/lang/invoke/MethodHandle" ∧ yX13_isOver.cls ≠ "java/lang/invoke/VarHandle" ∧ (parseMethodDescriptor yX13_isOver.desc).map (fun d => d.parameters.length) = some 4 := ⟨rfl, kSX13_isOver⟩
theorem dX13_mayBegin_0 : decode cX13_mayBegin 0 = .ok (.iload_n 1, 1) := D_27 (by decide +kernel)
theorem dX13_mayBegin_1 : decode cX13_mayBegin 1 = .ok (.bipush 40, 2) := D_16 (by decide +kernel)
theorem dX13_mayBegin_3 : decode cX13_mayBegin 3 = .ok (.idiv, 1) := D_108 (by decide +kernel)
theorem dX13_mayBegin_4 : decode cX13_mayBegin 4 = .ok (.istore 4, 2) := D_54 (by decide +kernel)
theorem dX13_mayBegin_6 : decode cX13_mayBegin 6 = .ok (.iload_n 1, 1) := D_27 (by decide +kernel)
theorem dX13_mayBegin_7 : decode cX13_mayBegin 7 = .ok (.bipush 40, 2) := D_16 (by decide +kernel)
theorem dX13_mayBegin_9 : decode cX13_mayBegin 9 = .ok (.irem, 1) := D_112 (by decide +kernel)
theorem dX13_mayBegin_10 : decode cX13_mayBegin 10 = .ok (.istore 5, 2) := D_54 (by decide +kernel)
theorem dX13_mayBegin_12 : decode cX13_mayBegin 12 = .ok (.aload_n 0, 1) := D_42 (by decide +kernel)
theorem dX13_mayBegin_13 : decode cX13_mayBegin 13 = .ok (.getfield 37, 3) := D_180 (by decide +kernel)
theorem dX13_mayBegin_16 : decode cX13_mayBegin 16 = .ok (.iload 4, 2) := D_21 (by decide +kernel)
theorem dX13_mayBegin_18 : decode cX13_mayBegin 18 = .ok (.iaload, 1) := D_46 (by decide +kernel)
theorem dX13_mayBegin_19 : decode cX13_mayBegin 19 = .ok (.iconst 2, 1) := D_5 (by decide +kernel)
theorem dX13_mayBegin_20 : decode cX13_mayBegin 20 = .ok (.if_icmp .ne 154, 3) := D_160 (by decide +kernel)
theorem dX13_mayBegin_23 : decode cX13_mayBegin 23 = .ok (.aload_n 0, 1) := D_42 (by decide +kernel)
theorem dX13_mayBegin_24 : decode cX13_mayBegin 24 = .ok (.iload 4, 2) := D_21 (by decide +kernel)
theorem dX13_mayBegin_26 : decode cX13_mayBegin 26 = .ok (.iload 5, 2) := D_21 (by decide +kernel)
theorem dX13_mayBegin_28 : decode cX13_mayBegin 28 = .ok (.invokevirtual 229, 3) := D_182 (by decide +kernel)
theorem dX13_mayBegin_31 : decode cX13_mayBegin 31 = .ok (.ifCond .eq 66, 3) := D_153 (by decide +kernel)
theorem dX13_mayBegin_34 : decode cX13_mayBegin 34 = .ok (.aload_n 0, 1) := D_42 (by decide +kernel)
theorem dX13_mayBegin_35 : decode cX13_mayBegin 35 = .ok (.iload 4, 2) := D_21 (by decide +kernel)
theorem dX13_mayBegin_37 : decode cX13_mayBegin 37 = .ok (.aload_n 0, 1) := D_42 (by decide +kernel)
theorem dX13_mayBegin_38 : decode cX13_mayBegin 38 = .ok (.iload 4, 2) := D_21 (by decide +kernel)
theorem dX13_mayBegin_40 : decode cX13_mayBegin 40 = .ok (.aload_n 0, 1) := D_42 (by decide +kernel)
theorem dX13_mayBegin_41 : decode cX13_mayBegin 41 = .ok (.iload 4, 2) := D_21 (by decide +kernel)
theorem dX13_mayBegin_43 : decode cX13_mayBegin 43 = .ok (.invokevirtual 211, 3) := D_182 (by decide +kernel)
theorem dX13_mayBegin_46 : decode cX13_mayBegin 46 = .ok (.iconst 1, 1) := D_4 (by decide +kernel)
theorem dX13_mayBegin_47 : decode cX13_mayBegin 47 = .ok (.isub, 1) := D_100 (by decide +kernel)
theorem dX13_mayBegin_48 : decode cX13_mayBegin 48 = .ok (.invokevirtual 221, 3) := D_182 (by decide +kernel)
theorem dX13_mayBegin_51 : decode cX13_mayBegin 51 = .ok (.aload_n 0, 1) := D_42 (by decide +kernel)
theorem dX13_mayBegin_52 : decode cX13_mayBegin 52 = .ok (.iload 4, 2) := D_21 (by decide +kernel)
theorem dX13_mayBegin_54 : decode cX13_mayBegin 54 = .ok (.iload 5, 2) := D_21 (by decide +kernel)
theorem dX13_mayBegin_56 : decode cX13_mayBegin 56 = .ok (.invokevirtual 233, 3) := D_182 (by decide +kernel)
theorem dX13_mayBegin_59 : decode cX13_mayBegin 59 = .ok (.iadd, 1) := D_96 (by decide +kernel)
theorem dX13_mayBegin_60 : decode cX13_mayBegin 60 = .ok (.iload_n 2, 1) := D_28 (by decide +kernel)
theorem dX13_mayBegin_61 : decode cX13_mayBegin 61 = .ok (.iload_n 3, 1) := D_29 (by decide +kernel)
theorem dX13_mayBegin_62 : decode cX13_mayBegin 62 = .ok (.invokevirtual 587, 3) := D_182 (by decide +kernel)
theorem dX13_mayBegin_65 : decode cX13_mayBegin 65 = .ok (.ifCond .eq 30, 3) := D_153 (by decide +kernel)
theorem dX13_mayBegin_68 : decode cX13_mayBegin 68 = .ok (.aload_n 0, 1) := D_42 (by decide +kernel)
theorem dX13_mayBegin_69 : decode cX13_mayBegin 69 = .ok (.iload 4, 2) := D_21 (by decide +kernel)
theorem dX13_mayBegin_71 : decode cX13_mayBegin 71 = .ok (.iload 5, 2) := D_21 (by decide +kernel)
theorem dX13_mayBegin_73 : decode cX13_mayBegin 73 = .ok (.invokevirtual 236, 3) := D_182 (by decide +kernel)
theorem dX13_mayBegin_76 : decode cX13_mayBegin 76 = .ok (.iconst 1, 1) := D_4 (by decide +kernel)
theorem dX13_mayBegin_77 : decode cX13_mayBegin 77 = .ok (.if_icmp .le 97, 3) := D_164 (by decide +kernel)
theorem dX13_mayBegin_80 : decode cX13_mayBegin 80 = .ok (.aload_n 0, 1) := D_42 (by decide +kernel)
theorem dX13_mayBegin_81 : decode cX13_mayBegin 81 = .ok (.iload 4, 2) := D_21 (by decide +kernel)
theorem dX13_mayBegin_83 : decode cX13_mayBegin 83 = .ok (.iload 5, 2) := D_21 (by decide +kernel)
theorem dX13_mayBegin_85 : decode cX13_mayBegin 85 = .ok (.iconst 1, 1) := D_4 (by decide +kernel)
theorem dX13_mayBegin_86 : decode cX13_mayBegin 86 = .ok (.isub, 1) := D_100 (by decide +kernel)
theorem dX13_mayBegin_87 : decode cX13_mayBegin 87 = .ok (.iload_n 2, 1) := D_28 (by decide +kernel)
theorem dX13_mayBegin_88 : decode cX13_mayBegin 88 = .ok (.iload_n 3, 1) := D_29 (by decide +kernel)
theorem dX13_mayBegin_89 : decode cX13_mayBegin 89 = .ok (.invokevirtual 587, 3) := D_182 (by decide +kernel)
theorem dX13_mayBegin_92 : decode cX13_mayBegin 92 = .ok (.ifCond .ne 82, 3) := D_154 (by decide +kernel)
theorem dX13_mayBegin_95 : decode cX13_mayBegin 95 = .ok (.iconst 0, 1) := D_3 (by decide +kernel)
theorem dX13_mayBegin_96 : decode cX13_mayBegin 96 = .ok (.ireturn, 1) := D_172 (by decide +kernel)
theorem dX13_mayBegin_97 : decode cX13_mayBegin 97 = .ok (.aload_n 0, 1) := D_42 (by decide +kernel)
theorem dX13_mayBegin_98 : decode cX13_mayBegin 98 = .ok (.iload 4, 2) := D_21 (by decide +kernel)
theorem dX13_mayBegin_100 : decode cX13_mayBegin 100 = .ok (.iload 5, 2) := D_21 (by decide +kernel)
theorem dX13_mayBegin_102 : decode cX13_mayBegin 102 = .ok (.invokevirtual 243, 3) := D_182 (by decide +kernel)
theorem dX13_mayBegin_105 : decode cX13_mayBegin 105 = .ok (.ifCond .le 69, 3) := D_158 (by decide +kernel)
theorem dX13_mayBegin_108 : decode cX13_mayBegin 108 = .ok (.aload_n 0, 1) := D_42 (by decide +kernel)
theorem dX13_mayBegin_109 : decode cX13_mayBegin 109 = .ok (.iload 4, 2) := D_21 (by decide +kernel)
theorem dX13_mayBegin_111 : decode cX13_mayBegin 111 = .ok (.iload 5, 2) := D_21 (by decide +kernel)
theorem dX13_mayBegin_113 : decode cX13_mayBegin 113 = .ok (.invokevirtual 243, 3) := D_182 (by decide +kernel)
theorem dX13_mayBegin_116 : decode cX13_mayBegin 116 = .ok (.istore 6, 2) := D_54 (by decide +kernel)
theorem dX13_mayBegin_118 : decode cX13_mayBegin 118 = .ok (.aload_n 0, 1) := D_42 (by decide +kernel)
theorem dX13_mayBegin_119 : decode cX13_mayBegin 119 = .ok (.iload 4, 2) := D_21 (by decide +kernel)
theorem dX13_mayBegin_121 : decode cX13_mayBegin 121 = .ok (.iload 6, 2) := D_21 (by decide +kernel)
theorem dX13_mayBegin_123 : decode cX13_mayBegin 123 = .ok (.iconst 1, 1) := D_4 (by decide +kernel)
theorem dX13_mayBegin_124 : decode cX13_mayBegin 124 = .ok (.isub, 1) := D_100 (by decide +kernel)
theorem dX13_mayBegin_125 : decode cX13_mayBegin 125 = .ok (.invokevirtual 221, 3) := D_182 (by decide +kernel)
theorem dX13_mayBegin_128 : decode cX13_mayBegin 128 = .ok (.iconst 2, 1) := D_5 (by decide +kernel)
theorem dX13_mayBegin_129 : decode cX13_mayBegin 129 = .ok (.iload 5, 2) := D_21 (by decide +kernel)
theorem dX13_mayBegin_131 : decode cX13_mayBegin 131 = .ok (.aload_n 0, 1) := D_42 (by decide +kernel)
theorem dX13_mayBegin_132 : decode cX13_mayBegin 132 = .ok (.iload 4, 2) := D_21 (by decide +kernel)
theorem dX13_mayBegin_134 : decode cX13_mayBegin 134 = .ok (.iload 6, 2) := D_21 (by decide +kernel)
theorem dX13_mayBegin_136 : decode cX13_mayBegin 136 = .ok (.invokevirtual 221, 3) := D_182 (by decide +kernel)
theorem dX13_mayBegin_139 : decode cX13_mayBegin 139 = .ok (.isub, 1) := D_100 (by decide +kernel)
theorem dX13_mayBegin_140 : decode cX13_mayBegin 140 = .ok (.imul, 1) := D_104 (by decide +kernel)
theorem dX13_mayBegin_141 : decode cX13_mayBegin 141 = .ok (.iadd, 1) := D_96 (by decide +kernel)
theorem dX13_mayBegin_142 : decode cX13_mayBegin 142 = .ok (.istore 7, 2) := D_54 (by decide +kernel)
theorem dX13_mayBegin_144 : decode cX13_mayBegin 144 = .ok (.aload_n 0, 1) := D_42 (by decide +kernel)
theorem dX13_mayBegin_145 : decode cX13_mayBegin 145 = .ok (.iload 4, 2) := D_21 (by decide +kernel)
theorem dX13_mayBegin_147 : decode cX13_mayBegin 147 = .ok (.iload 7, 2) := D_21 (by decide +kernel)
theorem dX13_mayBegin_149 : decode cX13_mayBegin 149 = .ok (.iload_n 2, 1) := D_28 (by decide +kernel)
theorem dX13_mayBegin_150 : decode cX13_mayBegin 150 = .ok (.iload_n 3, 1) := D_29 (by decide +kernel)
theorem dX13_mayBegin_151 : decode cX13_mayBegin 151 = .ok (.invokevirtual 587, 3) := D_182 (by decide +kernel)
theorem dX13_mayBegin_154 : decode cX13_mayBegin 154 = .ok (.ifCond .eq 18, 3) := D_153 (by decide +kernel)
theorem dX13_mayBegin_157 : decode cX13_mayBegin 157 = .ok (.aload_n 0, 1) := D_42 (by decide +kernel)
theorem dX13_mayBegin_158 : decode cX13_mayBegin 158 = .ok (.iload 4, 2) := D_21 (by decide +kernel)
theorem dX13_mayBegin_160 : decode cX13_mayBegin 160 = .ok (.iload 7, 2) := D_21 (by decide +kernel)
theorem dX13_mayBegin_162 : decode cX13_mayBegin 162 = .ok (.iconst 1, 1) := D_4 (by decide +kernel)
theorem dX13_mayBegin_163 : decode cX13_mayBegin 163 = .ok (.iadd, 1) := D_96 (by decide +kernel)
theorem dX13_mayBegin_164 : decode cX13_mayBegin 164 = .ok (.iload_n 2, 1) := D_28 (by decide +kernel)
theorem dX13_mayBegin_165 : decode cX13_mayBegin 165 = .ok (.iload_n 3, 1) := D_29 (by decide +kernel)
theorem dX13_mayBegin_166 : decode cX13_mayBegin 166 = .ok (.invokevirtual 587, 3) := D_182 (by decide +kernel)
theorem dX13_mayBegin_169 : decode cX13_mayBegin 169 = .ok (.ifCond .ne 5, 3) := D_154 (by decide +kernel)
theorem dX13_mayBegin_172 : decode cX13_mayBegin 172 = .ok (.iconst 0, 1) := D_3 (by decide +kernel)
theorem dX13_mayBegin_173 : decode cX13_mayBegin 173 = .ok (.ireturn, 1) := D_172 (by decide +kernel)
theorem dX13_mayBegin_174 : decode cX13_mayBegin 174 = .ok (.aload_n 0, 1) := D_42 (by decide +kernel)
theorem dX13_mayBegin_175 : decode cX13_mayBegin 175 = .ok (.getfield 161, 3) := D_180 (by decide +kernel)
theorem dX13_mayBegin_178 : decode cX13_mayBegin 178 = .ok (.iload_n 1, 1) := D_27 (by decide +kernel)
theorem dX13_mayBegin_179 : decode cX13_mayBegin 179 = .ok (.iaload, 1) := D_46 (by decide +kernel)
theorem dX13_mayBegin_180 : decode cX13_mayBegin 180 = .ok (.iconst (-1), 1) := D_2 (by decide +kernel)
theorem dX13_mayBegin_181 : decode cX13_mayBegin 181 = .ok (.if_icmp .eq 18, 3) := D_159 (by decide +kernel)
theorem dX13_mayBegin_184 : decode cX13_mayBegin 184 = .ok (.aload_n 0, 1) := D_42 (by decide +kernel)
theorem dX13_mayBegin_185 : decode cX13_mayBegin 185 = .ok (.getfield 167, 3) := D_180 (by decide +kernel)
theorem dX13_mayBegin_188 : decode cX13_mayBegin 188 = .ok (.aload_n 0, 1) := D_42 (by decide +kernel)
theorem dX13_mayBegin_189 : decode cX13_mayBegin 189 = .ok (.getfield 161, 3) := D_180 (by decide +kernel)
theorem dX13_mayBegin_192 : decode cX13_mayBegin 192 = .ok (.iload_n 1, 1) := D_27 (by decide +kernel)
theorem dX13_mayBegin_193 : decode cX13_mayBegin 193 = .ok (.iaload, 1) := D_46 (by decide +kernel)
theorem dX13_mayBegin_194 : decode cX13_mayBegin 194 = .ok (.iaload, 1) := D_46 (by decide +kernel)
theorem dX13_mayBegin_195 : decode cX13_mayBegin 195 = .ok (.iload_n 2, 1) := D_28 (by decide +kernel)
theorem dX13_mayBegin_196 : decode cX13_mayBegin 196 = .ok (.if_icmp .gt 32, 3) := D_163 (by decide +kernel)
theorem dX13_mayBegin_199 : decode cX13_mayBegin 199 = .ok (.aload_n 0, 1) := D_42 (by decide +kernel)
theorem dX13_mayBegin_200 : decode cX13_mayBegin 200 = .ok (.getfield 164, 3) := D_180 (by decide +kernel)
theorem dX13_mayBegin_203 : decode cX13_mayBegin 203 = .ok (.iload_n 1, 1) := D_27 (by decide +kernel)
theorem dX13_mayBegin_204 : decode cX13_mayBegin 204 = .ok (.iaload, 1) := D_46 (by decide +kernel)
theorem dX13_mayBegin_205 : decode cX13_mayBegin 205 = .ok (.iconst (-1), 1) := D_2 (by decide +kernel)
theorem dX13_mayBegin_206 : decode cX13_mayBegin 206 = .ok (.if_icmp .eq 18, 3) := D_159 (by decide +kernel)
theorem dX13_mayBegin_209 : decode cX13_mayBegin 209 = .ok (.aload_n 0, 1) := D_42 (by decide +kernel)
theorem dX13_mayBegin_210 : decode cX13_mayBegin 210 = .ok (.getfield 167, 3) := D_180 (by decide +kernel)
theorem dX13_mayBegin_213 : decode cX13_mayBegin 213 = .ok (.aload_n 0, 1) := D_42 (by decide +kernel)
theorem dX13_mayBegin_214 : decode cX13_mayBegin 214 = .ok (.getfield 164, 3) := D_180 (by decide +kernel)
theorem dX13_mayBegin_217 : decode cX13_mayBegin 217 = .ok (.iload_n 1, 1) := D_27 (by decide +kernel)
theorem dX13_mayBegin_218 : decode cX13_mayBegin 218 = .ok (.iaload, 1) := D_46 (by decide +kernel)
theorem dX13_mayBegin_219 : decode cX13_mayBegin 219 = .ok (.iaload, 1) := D_46 (by decide +kernel)
theorem dX13_mayBegin_220 : decode cX13_mayBegin 220 = .ok (.iload_n 2, 1) := D_28 (by decide +kernel)
theorem dX13_mayBegin_221 : decode cX13_mayBegin 221 = .ok (.if_icmp .gt 7, 3) := D_163 (by decide +kernel)
theorem dX13_mayBegin_224 : decode cX13_mayBegin 224 = .ok (.iconst 1, 1) := D_4 (by decide +kernel)
theorem dX13_mayBegin_225 : decode cX13_mayBegin 225 = .ok (.goto 4, 3) := D_167 (by decide +kernel)
theorem dX13_mayBegin_228 : decode cX13_mayBegin 228 = .ok (.iconst 0, 1) := D_3 (by decide +kernel)
theorem dX13_mayBegin_229 : decode cX13_mayBegin 229 = .ok (.ireturn, 1) := D_172 (by decide +kernel)
theorem kSX13_mayBegin : yX13_mayBegin.cls ≠ "java/lang/invoke/MethodHandle" ∧ yX13_mayBegin.cls ≠ "java/lang/invoke/VarHandle" ∧ (parseMethodDescriptor yX13_mayBegin.desc).map (fun d => d.parameters.length) = some 3 := by decide +kernel
theorem kVX13_mayBegin : yX13_mayBegin.cls = RX13 ∧ yX13_mayBegin.cls ≠ "java/lang/invoke/MethodHandle" ∧ yX13_mayBegin.cls ≠ "java/lang/invoke/VarHandle" ∧ (parseMethodDescriptor yX13_mayBegin.desc).map (fun d => d.parameters.length) = some 3 := ⟨rfl, kSX13_mayBegin⟩
end
section
/-! ===== small words of functions that may fail ===== -/
abbrev MS : Type := (Nat → Int32) × (Nat → Nat → Int32)
def og {α : Type} (b : Bool) (x : Option α) : Option α := match b with
  | true => x
  | false => none
def gi (i : Int32) (n : Nat) : Bool := decide (¬ (i < 0 ∨ n ≤ i.toNatClampNeg))
def gz (y : Int32) : Bool := decide (¬ y = 0)
def gb (y : Int32) : Bool := decide (y = 0 ∨ y = 1)
def gc (y : Int32) : Bool := decide (y.toUInt32.toUInt16.toUInt32.toInt32 = y)
def oi {β : Type} (x : Option Int32) (k : Int32 → Option β) : Option β := match x with
  | some a => k a
  | none => none
def li {β : Type} (x : Int32) (k : Int32 → Option β) : Option β := k x
def fuel : Nat := 4294967296
theorem og_some {α : Type} {b : Bool} {x : Option α} {y : α} (h : og b x = some y) : b = true ∧ x = some y := by
  cases b with
  | true => exact ⟨rfl, h⟩
  | false => cases h
theorem oi_some {β : Type} {x : Option Int32} {k : Int32 → Option β} {y : β} (h : oi x k = some y) : ∃ a : Int32, x = some a ∧ k a = some y := by
  cases x with
  | none => cases h
  | some q => exact ⟨q, rfl, h⟩
theorem li_some {β : Type} {x : Int32} {k : Int32 → Option β} {y : β} (h : li x k = some y) : ∃ v : Int32, x = v ∧ k v = some y := ⟨x, rfl, h⟩
theorem gi_in {i : Int32} {n : Nat} (h : gi i n = true) : vp_in i n := of_decide_eq_true (p := ¬ (i < 0 ∨ n ≤ i.toNatClampNeg)) h
theorem gz_ne {y : Int32} (h : gz y = true) : ¬ y = 0 := of_decide_eq_true h
theorem gb_nar {r : Int32} (h : gb r = true) : narrow FieldType.boolean (Value.int r) = Value.int r := by
  rcases (of_decide_eq_true h : r = 0 ∨ r = 1) with rfl | rfl <;> rfl
theorem gc_nar {r : Int32} (h : gc r = true) : narrow FieldType.char (Value.int r) = Value.int r := congrArg Value.int (of_decide_eq_true h)

def sB : List (String × Nat × String × List Int32) := [("JudoHallModel", 289, "();+-<>=", [40, 41, 59, 43, 45, 60, 62, 61]), ("JudoHallModel", 318, "time", [116, 105, 109, 101]), ("JudoHallModel", 319, "golden", [103, 111, 108, 100, 101, 110]), ("JudoHallModel", 320, "sign", [115, 105, 103, 110]), ("JudoHallModel", 322, "win", [119, 105, 110]), ("JudoHallModel", 324, "when", [119, 104, 101, 110]), ("JudoHallModel", 326, "or", [111, 114]), ("JudoHallModel", 328, "and", [97, 110, 100]), ("JudoHallModel", 330, "not", [110, 111, 116]), ("JudoHallModel", 332, "over", [111, 118, 101, 114]), ("JudoHallModel", 334, "extra", [101, 120, 116, 114, 97]), ("JudoHallModel", 336, "mine", [109, 105, 110, 101]), ("JudoHallModel", 338, "yours", [121, 111, 117, 114, 115]), ("JudoHallModel", 340, "left", [108, 101, 102, 116]), ("JudoHallModel", 355, ";", [59]), ("JudoHallModel", 392, "(", [40]), ("JudoHallModel", 394, ")", [41]), ("JudoHallModel", 399, "<", [60]), ("JudoHallModel", 401, "<=", [60, 61]), ("JudoHallModel", 403, ">", [62]), ("JudoHallModel", 405, ">=", [62, 61]), ("JudoHallModel", 407, "=", [61]), ("JudoHallModel", 409, "!=", [33, 61]), ("JudoHallModel", 414, "+", [43]), ("JudoHallModel", 416, "-", [45]), ("JudoHall$Tape", 68, "time", [116, 105, 109, 101]), ("JudoHall$Tape", 74, "golden", [103, 111, 108, 100, 101, 110]), ("JudoHall$Tape", 76, "sign", [115, 105, 103, 110]), ("JudoHall$Tape", 78, "win", [119, 105, 110]), ("JudoHall$Tape", 80, "when", [119, 104, 101, 110]), ("JudoHall$Tape", 82, "or", [111, 114]), ("JudoHall$Tape", 84, "and", [97, 110, 100]), ("JudoHall$Tape", 86, "not", [110, 111, 116]), ("JudoHall$Tape", 88, "over", [111, 118, 101, 114]), ("JudoHall$Tape", 90, "extra", [101, 120, 116, 114, 97]), ("JudoHall$Tape", 92, "mine", [109, 105, 110, 101]), ("JudoHall$Tape", 94, "yours", [121, 111, 117, 114, 115]), ("JudoHall$Tape", 96, "left", [108, 101, 102, 116])]
def sOw (i : Nat) : String := (sB.getD i ("", 0, "", [])).1
def sCp (i : Nat) : Nat := (sB.getD i ("", 0, "", [])).2.1
def sTx (i : Nat) : String := (sB.getD i ("", 0, "", [])).2.2.1
def sBy (i : Nat) : List Int32 := (sB.getD i ("", 0, "", [])).2.2.2
abbrev gM : Type := (Nat → Nat) × (Nat → Nat) × Value
/-- what is known of String constants and of the two static fields that String's own methods read -/
def sE (Z : gM) (A : Nat → Prop) (U : State) (H : Heap) : Prop := (va_Z "java/lang/String" "COMPACT_STRINGS" "Z" (.int 1) A U H ∧ va_Z "jdk/internal/util/Preconditions" "SIOOBE_FORMATTER" "Ljava/util/function/BiFunction;" Z.2.2 A U H ∧ (Z.2.2 = .null ∨ ∃ a, Z.2.2 = .ref a)) ∧ (∀ i : Nat, i < 38 → va_O "java/lang/String" (Z.1 i) A U H ∧ va_OF "java/lang/String" "coder" "B" (.int 0) (Z.1 i) A U H ∧ va_OF "java/lang/String" "value" "[B" (.ref (Z.2.1 i)) (Z.1 i) A U H ∧ va_T .byte (Z.2.1 i) (sBy i).length (fun j => .int ((sBy i).getD j 0)) A U H) ∧ (∀ i : Nat, i < 38 → vk_R (sOw i) (sCp i) (sTx i) (Z.1 i) U) ∧ va_Nw (.castable "JudoHallModel$Stop" "JudoHallModel$Stop") U
theorem sE.kept {Z : gM} {A : Nat → Prop} {U : State} {H H1 : Heap} (h : sE Z A U H) (hq : ∀ a : Nat, a < H.size → ¬ A a → H1[a]? = H[a]?) : sE Z A U H1 := ⟨⟨h.1.1.kept hq, h.1.2.1.kept hq, h.1.2.2⟩, fun i hi => ⟨(h.2.1 i hi).1.kept hq, (h.2.1 i hi).2.1.kept hq, (h.2.1 i hi).2.2.1.kept hq, (h.2.1 i hi).2.2.2.kept hq⟩, h.2.2⟩
theorem sE.narrow {Z : gM} {A B : Nat → Prop} {U : State} {H : Heap} (h : sE Z A U H) (hAB : ∀ q, B q → A q) : sE Z B U H := ⟨⟨h.1.1.narrow hAB, h.1.2.1.narrow hAB, h.1.2.2⟩, fun i hi => ⟨(h.2.1 i hi).1.narrow hAB, (h.2.1 i hi).2.1.narrow hAB, (h.2.1 i hi).2.2.1.narrow hAB, (h.2.1 i hi).2.2.2.narrow hAB⟩, h.2.2⟩
theorem sE.moved {Z : gM} {A : Nat → Prop} {s U : State} {H : Heap} (hW : s.WarmedH U.vm) (h : sE Z A s H) : sE Z A U H := ⟨⟨h.1.1.moved hW.alike, h.1.2.1.moved hW.alike, h.1.2.2⟩, fun i hi => ⟨(h.2.1 i hi).1.moved hW.alike, (h.2.1 i hi).2.1.moved hW.alike, (h.2.1 i hi).2.2.1.moved hW.alike, (h.2.1 i hi).2.2.2.moved hW.alike⟩, fun i hi => (h.2.2.1 i hi).warm hW, va_Nw.warmC hW h.2.2.2⟩
theorem sE.calling {Z : gM} {A : Nat → Prop} {U : State} (g : JFrame) (mk : MethodId) (a : Array Value) (h : sE Z A U U.heap) : sE Z A (U.calling g mk a) (U.calling g mk a).heap := h.moved (s := U) (U := U.calling g mk a) (State.WarmedH.refl U)
def sP (Z : gM) (A : Nat → Prop) (U : State) : Prop := sE Z A U U.heap
theorem sP.blind {Z : gM} {A : Nat → Prop} {av : List Value} : FrameBlind (va_Pc av (sP Z A)) := fun _ U g mk q => ⟨q.1, q.2.calling g mk _⟩

theorem dJ0_coder_7d493_0 : decode cJ0_coder_7d493 0 = .ok (.getstatic 38, 3) := by decide +kernel
theorem dJ0_coder_7d493_3 : decode cJ0_coder_7d493 3 = .ok (.ifCond .eq 10, 3) := by decide +kernel
theorem dJ0_coder_7d493_6 : decode cJ0_coder_7d493 6 = .ok (.aload_n 0, 1) := by decide +kernel
theorem dJ0_coder_7d493_7 : decode cJ0_coder_7d493 7 = .ok (.getfield 15, 3) := by decide +kernel
theorem dJ0_coder_7d493_10 : decode cJ0_coder_7d493 10 = .ok (.goto 4, 3) := by decide +kernel
theorem dJ0_coder_7d493_13 : decode cJ0_coder_7d493 13 = .ok (.iconst 1, 1) := by decide +kernel
theorem dJ0_coder_7d493_14 : decode cJ0_coder_7d493 14 = .ok (.ireturn, 1) := by decide +kernel
theorem kSJ0_coder_7d493 : yJ0_coder_7d493.cls ≠ "java/lang/invoke/MethodHandle" ∧ yJ0_coder_7d493.cls ≠ "java/lang/invoke/VarHandle" ∧ (parseMethodDescriptor yJ0_coder_7d493.desc).map (fun d => d.parameters.length) = some 0 := by decide +kernel
theorem kVJ0_coder_7d493 : yJ0_coder_7d493.cls = RJ0 ∧ yJ0_coder_7d493.cls ≠ "java/lang/invoke/MethodHandle" ∧ yJ0_coder_7d493.cls ≠ "java/lang/invoke/VarHandle" ∧ (parseMethodDescriptor yJ0_coder_7d493.desc).map (fun d => d.parameters.length) = some 0 := ⟨rfl, kSJ0_coder_7d493⟩
theorem dJ0_isLatin1_aae02_0 : decode cJ0_isLatin1_aae02 0 = .ok (.getstatic 38, 3) := by decide +kernel
theorem dJ0_isLatin1_aae02_3 : decode cJ0_isLatin1_aae02 3 = .ok (.ifCond .eq 14, 3) := by decide +kernel
theorem dJ0_isLatin1_aae02_6 : decode cJ0_isLatin1_aae02 6 = .ok (.aload_n 0, 1) := by decide +kernel
theorem dJ0_isLatin1_aae02_7 : decode cJ0_isLatin1_aae02 7 = .ok (.getfield 15, 3) := by decide +kernel
theorem dJ0_isLatin1_aae02_10 : decode cJ0_isLatin1_aae02 10 = .ok (.ifCond .ne 7, 3) := by decide +kernel
theorem dJ0_isLatin1_aae02_13 : decode cJ0_isLatin1_aae02 13 = .ok (.iconst 1, 1) := by decide +kernel
theorem dJ0_isLatin1_aae02_14 : decode cJ0_isLatin1_aae02 14 = .ok (.goto 4, 3) := by decide +kernel
theorem dJ0_isLatin1_aae02_17 : decode cJ0_isLatin1_aae02 17 = .ok (.iconst 0, 1) := by decide +kernel
theorem dJ0_isLatin1_aae02_18 : decode cJ0_isLatin1_aae02 18 = .ok (.ireturn, 1) := by decide +kernel
theorem kSJ0_isLatin1_aae02 : yJ0_isLatin1_aae02.cls ≠ "java/lang/invoke/MethodHandle" ∧ yJ0_isLatin1_aae02.cls ≠ "java/lang/invoke/VarHandle" ∧ (parseMethodDescriptor yJ0_isLatin1_aae02.desc).map (fun d => d.parameters.length) = some 0 := by decide +kernel
theorem kVJ0_isLatin1_aae02 : yJ0_isLatin1_aae02.cls = RJ0 ∧ yJ0_isLatin1_aae02.cls ≠ "java/lang/invoke/MethodHandle" ∧ yJ0_isLatin1_aae02.cls ≠ "java/lang/invoke/VarHandle" ∧ (parseMethodDescriptor yJ0_isLatin1_aae02.desc).map (fun d => d.parameters.length) = some 0 := ⟨rfl, kSJ0_isLatin1_aae02⟩
theorem dJ0_length_8abf5_0 : decode cJ0_length_8abf5 0 = .ok (.aload_n 0, 1) := by decide +kernel
theorem dJ0_length_8abf5_1 : decode cJ0_length_8abf5 1 = .ok (.getfield 9, 3) := by decide +kernel
theorem dJ0_length_8abf5_4 : decode cJ0_length_8abf5 4 = .ok (.arraylength, 1) := by decide +kernel
theorem dJ0_length_8abf5_5 : decode cJ0_length_8abf5 5 = .ok (.aload_n 0, 1) := by decide +kernel
theorem dJ0_length_8abf5_6 : decode cJ0_length_8abf5 6 = .ok (.invokevirtual 335, 3) := by decide +kernel
theorem dJ0_length_8abf5_9 : decode cJ0_length_8abf5 9 = .ok (.ishr, 1) := by decide +kernel
theorem dJ0_length_8abf5_10 : decode cJ0_length_8abf5 10 = .ok (.ireturn, 1) := by decide +kernel
theorem kSJ0_length_8abf5 : yJ0_length_8abf5.cls ≠ "java/lang/invoke/MethodHandle" ∧ yJ0_length_8abf5.cls ≠ "java/lang/invoke/VarHandle" ∧ (parseMethodDescriptor yJ0_length_8abf5.desc).map (fun d => d.parameters.length) = some 0 := by decide +kernel
theorem kVJ0_length_8abf5 : yJ0_length_8abf5.cls = RJ0 ∧ yJ0_length_8abf5.cls ≠ "java/lang/invoke/MethodHandle" ∧ yJ0_length_8abf5.cls ≠ "java/lang/invoke/VarHandle" ∧ (parseMethodDescriptor yJ0_length_8abf5.desc).map (fun d => d.parameters.length) = some 0 := ⟨rfl, kSJ0_length_8abf5⟩
theorem dJ3_checkIndex_8e157_0 : decode cJ3_checkIndex_8e157 0 = .ok (.iload_n 0, 1) := by decide +kernel
theorem dJ3_checkIndex_8e157_1 : decode cJ3_checkIndex_8e157 1 = .ok (.ifCond .lt 8, 3) := by decide +kernel
theorem dJ3_checkIndex_8e157_4 : decode cJ3_checkIndex_8e157 4 = .ok (.iload_n 0, 1) := by decide +kernel
theorem dJ3_checkIndex_8e157_5 : decode cJ3_checkIndex_8e157 5 = .ok (.iload_n 1, 1) := by decide +kernel
theorem dJ3_checkIndex_8e157_6 : decode cJ3_checkIndex_8e157 6 = .ok (.if_icmp .lt 10, 3) := by decide +kernel
theorem dJ3_checkIndex_8e157_16 : decode cJ3_checkIndex_8e157 16 = .ok (.iload_n 0, 1) := by decide +kernel
theorem dJ3_checkIndex_8e157_17 : decode cJ3_checkIndex_8e157 17 = .ok (.ireturn, 1) := by decide +kernel
theorem kSJ3_checkIndex_8e157 : yJ3_checkIndex_8e157.cls ≠ "java/lang/invoke/MethodHandle" ∧ yJ3_checkIndex_8e157.cls ≠ "java/lang/invoke/VarHandle" ∧ (parseMethodDescriptor yJ3_checkIndex_8e157.desc).map (fun d => d.parameters.length) = some 3 := by decide +kernel
theorem dJ0_checkIndex_df160_0 : decode cJ0_checkIndex_df160 0 = .ok (.iload_n 0, 1) := by decide +kernel
theorem dJ0_checkIndex_df160_1 : decode cJ0_checkIndex_df160 1 = .ok (.iload_n 1, 1) := by decide +kernel
theorem dJ0_checkIndex_df160_2 : decode cJ0_checkIndex_df160 2 = .ok (.getstatic 1053, 3) := by decide +kernel
theorem dJ0_checkIndex_df160_5 : decode cJ0_checkIndex_df160 5 = .ok (.invokestatic 1059, 3) := by decide +kernel
theorem dJ0_checkIndex_df160_8 : decode cJ0_checkIndex_df160 8 = .ok (.pop, 1) := by decide +kernel
theorem dJ0_checkIndex_df160_9 : decode cJ0_checkIndex_df160 9 = .ok (.return_, 1) := by decide +kernel
theorem kSJ0_checkIndex_df160 : yJ0_checkIndex_df160.cls ≠ "java/lang/invoke/MethodHandle" ∧ yJ0_checkIndex_df160.cls ≠ "java/lang/invoke/VarHandle" ∧ (parseMethodDescriptor yJ0_checkIndex_df160.desc).map (fun d => d.parameters.length) = some 2 := by decide +kernel
theorem dJ1_charAt_3b067_0 : decode cJ1_charAt_3b067 0 = .ok (.iload_n 1, 1) := by decide +kernel
theorem dJ1_charAt_3b067_1 : decode cJ1_charAt_3b067 1 = .ok (.aload_n 0, 1) := by decide +kernel
theorem dJ1_charAt_3b067_2 : decode cJ1_charAt_3b067 2 = .ok (.arraylength, 1) := by decide +kernel
theorem dJ1_charAt_3b067_3 : decode cJ1_charAt_3b067 3 = .ok (.invokestatic 9, 3) := by decide +kernel
theorem dJ1_charAt_3b067_6 : decode cJ1_charAt_3b067 6 = .ok (.aload_n 0, 1) := by decide +kernel
theorem dJ1_charAt_3b067_7 : decode cJ1_charAt_3b067 7 = .ok (.iload_n 1, 1) := by decide +kernel
theorem dJ1_charAt_3b067_8 : decode cJ1_charAt_3b067 8 = .ok (.baload, 1) := by decide +kernel
theorem dJ1_charAt_3b067_9 : decode cJ1_charAt_3b067 9 = .ok (.sipush 255, 3) := by decide +kernel
theorem dJ1_charAt_3b067_12 : decode cJ1_charAt_3b067 12 = .ok (.iand, 1) := by decide +kernel
theorem dJ1_charAt_3b067_13 : decode cJ1_charAt_3b067 13 = .ok (.i2c, 1) := by decide +kernel
theorem dJ1_charAt_3b067_14 : decode cJ1_charAt_3b067 14 = .ok (.ireturn, 1) := by decide +kernel
theorem kSJ1_charAt_3b067 : yJ1_charAt_3b067.cls ≠ "java/lang/invoke/MethodHandle" ∧ yJ1_charAt_3b067.cls ≠ "java/lang/invoke/VarHandle" ∧ (parseMethodDescriptor yJ1_charAt_3b067.desc).map (fun d => d.parameters.length) = some 2 := by decide +kernel
theorem dJ0_charAt_5068e_0 : decode cJ0_charAt_5068e 0 = .ok (.aload_n 0, 1) := by decide +kernel
theorem dJ0_charAt_5068e_1 : decode cJ0_charAt_5068e 1 = .ok (.invokevirtual 492, 3) := by decide +kernel
theorem dJ0_charAt_5068e_4 : decode cJ0_charAt_5068e 4 = .ok (.ifCond .eq 12, 3) := by decide +kernel
theorem dJ0_charAt_5068e_7 : decode cJ0_charAt_5068e 7 = .ok (.aload_n 0, 1) := by decide +kernel
theorem dJ0_charAt_5068e_8 : decode cJ0_charAt_5068e 8 = .ok (.getfield 9, 3) := by decide +kernel
theorem dJ0_charAt_5068e_11 : decode cJ0_charAt_5068e 11 = .ok (.iload_n 1, 1) := by decide +kernel
theorem dJ0_charAt_5068e_12 : decode cJ0_charAt_5068e 12 = .ok (.invokestatic 495, 3) := by decide +kernel
theorem dJ0_charAt_5068e_15 : decode cJ0_charAt_5068e 15 = .ok (.ireturn, 1) := by decide +kernel
theorem kSJ0_charAt_5068e : yJ0_charAt_5068e.cls ≠ "java/lang/invoke/MethodHandle" ∧ yJ0_charAt_5068e.cls ≠ "java/lang/invoke/VarHandle" ∧ (parseMethodDescriptor yJ0_charAt_5068e.desc).map (fun d => d.parameters.length) = some 1 := by decide +kernel
theorem kVJ0_charAt_5068e : yJ0_charAt_5068e.cls = RJ0 ∧ yJ0_charAt_5068e.cls ≠ "java/lang/invoke/MethodHandle" ∧ yJ0_charAt_5068e.cls ≠ "java/lang/invoke/VarHandle" ∧ (parseMethodDescriptor yJ0_charAt_5068e.desc).map (fun d => d.parameters.length) = some 1 := ⟨rfl, kSJ0_charAt_5068e⟩
theorem dJ1_canEncode_9a6ad_0 : decode cJ1_canEncode_9a6ad 0 = .ok (.iload_n 0, 1) := by decide +kernel
theorem dJ1_canEncode_9a6ad_1 : decode cJ1_canEncode_9a6ad 1 = .ok (.ifCond .lt 14, 3) := by decide +kernel
theorem dJ1_canEncode_9a6ad_4 : decode cJ1_canEncode_9a6ad 4 = .ok (.iload_n 0, 1) := by decide +kernel
theorem dJ1_canEncode_9a6ad_5 : decode cJ1_canEncode_9a6ad 5 = .ok (.sipush 255, 3) := by decide +kernel
theorem dJ1_canEncode_9a6ad_8 : decode cJ1_canEncode_9a6ad 8 = .ok (.if_icmp .gt 7, 3) := by decide +kernel
theorem dJ1_canEncode_9a6ad_11 : decode cJ1_canEncode_9a6ad 11 = .ok (.iconst 1, 1) := by decide +kernel
theorem dJ1_canEncode_9a6ad_12 : decode cJ1_canEncode_9a6ad 12 = .ok (.goto 4, 3) := by decide +kernel
theorem dJ1_canEncode_9a6ad_15 : decode cJ1_canEncode_9a6ad 15 = .ok (.iconst 0, 1) := by decide +kernel
theorem dJ1_canEncode_9a6ad_16 : decode cJ1_canEncode_9a6ad 16 = .ok (.ireturn, 1) := by decide +kernel
theorem kSJ1_canEncode_9a6ad : yJ1_canEncode_9a6ad.cls ≠ "java/lang/invoke/MethodHandle" ∧ yJ1_canEncode_9a6ad.cls ≠ "java/lang/invoke/VarHandle" ∧ (parseMethodDescriptor yJ1_canEncode_9a6ad.desc).map (fun d => d.parameters.length) = some 1 := by decide +kernel
theorem dJ1_indexOfChar_4cfef_0 : decode cJ1_indexOfChar_4cfef 0 = .ok (.iload_n 1, 1) := by decide +kernel
theorem dJ1_indexOfChar_4cfef_1 : decode cJ1_indexOfChar_4cfef 1 = .ok (.i2b, 1) := by decide +kernel
theorem dJ1_indexOfChar_4cfef_2 : decode cJ1_indexOfChar_4cfef 2 = .ok (.istore 4, 2) := by decide +kernel
theorem dJ1_indexOfChar_4cfef_4 : decode cJ1_indexOfChar_4cfef 4 = .ok (.iload_n 2, 1) := by decide +kernel
theorem dJ1_indexOfChar_4cfef_5 : decode cJ1_indexOfChar_4cfef 5 = .ok (.istore 5, 2) := by decide +kernel
theorem dJ1_indexOfChar_4cfef_7 : decode cJ1_indexOfChar_4cfef 7 = .ok (.iload 5, 2) := by decide +kernel
theorem dJ1_indexOfChar_4cfef_9 : decode cJ1_indexOfChar_4cfef 9 = .ok (.iload_n 3, 1) := by decide +kernel
theorem dJ1_indexOfChar_4cfef_10 : decode cJ1_indexOfChar_4cfef 10 = .ok (.if_icmp .ge 21, 3) := by decide +kernel
theorem dJ1_indexOfChar_4cfef_13 : decode cJ1_indexOfChar_4cfef 13 = .ok (.aload_n 0, 1) := by decide +kernel
theorem dJ1_indexOfChar_4cfef_14 : decode cJ1_indexOfChar_4cfef 14 = .ok (.iload 5, 2) := by decide +kernel
theorem dJ1_indexOfChar_4cfef_16 : decode cJ1_indexOfChar_4cfef 16 = .ok (.baload, 1) := by decide +kernel
theorem dJ1_indexOfChar_4cfef_17 : decode cJ1_indexOfChar_4cfef 17 = .ok (.iload 4, 2) := by decide +kernel
theorem dJ1_indexOfChar_4cfef_19 : decode cJ1_indexOfChar_4cfef 19 = .ok (.if_icmp .ne 6, 3) := by decide +kernel
theorem dJ1_indexOfChar_4cfef_22 : decode cJ1_indexOfChar_4cfef 22 = .ok (.iload 5, 2) := by decide +kernel
theorem dJ1_indexOfChar_4cfef_24 : decode cJ1_indexOfChar_4cfef 24 = .ok (.ireturn, 1) := by decide +kernel
theorem dJ1_indexOfChar_4cfef_25 : decode cJ1_indexOfChar_4cfef 25 = .ok (.iinc 5 1, 3) := by decide +kernel
theorem dJ1_indexOfChar_4cfef_28 : decode cJ1_indexOfChar_4cfef 28 = .ok (.goto (-21), 3) := by decide +kernel
theorem dJ1_indexOfChar_4cfef_31 : decode cJ1_indexOfChar_4cfef 31 = .ok (.iconst (-1), 1) := by decide +kernel
theorem dJ1_indexOfChar_4cfef_32 : decode cJ1_indexOfChar_4cfef 32 = .ok (.ireturn, 1) := by decide +kernel
theorem kSJ1_indexOfChar_4cfef : yJ1_indexOfChar_4cfef.cls ≠ "java/lang/invoke/MethodHandle" ∧ yJ1_indexOfChar_4cfef.cls ≠ "java/lang/invoke/VarHandle" ∧ (parseMethodDescriptor yJ1_indexOfChar_4cfef.desc).map (fun d => d.parameters.length) = some 4 := by decide +kernel
theorem dJ1_indexOf_4cfef_0 : decode cJ1_indexOf_4cfef 0 = .ok (.iload_n 1, 1) := by decide +kernel
theorem dJ1_indexOf_4cfef_1 : decode cJ1_indexOf_4cfef 1 = .ok (.invokestatic 88, 3) := by decide +kernel
theorem dJ1_indexOf_4cfef_4 : decode cJ1_indexOf_4cfef 4 = .ok (.ifCond .ne 5, 3) := by decide +kernel
theorem dJ1_indexOf_4cfef_7 : decode cJ1_indexOf_4cfef 7 = .ok (.iconst (-1), 1) := by decide +kernel
theorem dJ1_indexOf_4cfef_8 : decode cJ1_indexOf_4cfef 8 = .ok (.ireturn, 1) := by decide +kernel
theorem dJ1_indexOf_4cfef_9 : decode cJ1_indexOf_4cfef 9 = .ok (.iload_n 2, 1) := by decide +kernel
theorem dJ1_indexOf_4cfef_10 : decode cJ1_indexOf_4cfef 10 = .ok (.iconst 0, 1) := by decide +kernel
theorem dJ1_indexOf_4cfef_11 : decode cJ1_indexOf_4cfef 11 = .ok (.invokestatic 92, 3) := by decide +kernel
theorem dJ1_indexOf_4cfef_14 : decode cJ1_indexOf_4cfef 14 = .ok (.istore_n 2, 1) := by decide +kernel
theorem dJ1_indexOf_4cfef_15 : decode cJ1_indexOf_4cfef 15 = .ok (.iload_n 3, 1) := by decide +kernel
theorem dJ1_indexOf_4cfef_16 : decode cJ1_indexOf_4cfef 16 = .ok (.aload_n 0, 1) := by decide +kernel
theorem dJ1_indexOf_4cfef_17 : decode cJ1_indexOf_4cfef 17 = .ok (.arraylength, 1) := by decide +kernel
theorem dJ1_indexOf_4cfef_18 : decode cJ1_indexOf_4cfef 18 = .ok (.invokestatic 38, 3) := by decide +kernel
theorem dJ1_indexOf_4cfef_21 : decode cJ1_indexOf_4cfef 21 = .ok (.istore_n 3, 1) := by decide +kernel
theorem dJ1_indexOf_4cfef_22 : decode cJ1_indexOf_4cfef 22 = .ok (.iload_n 2, 1) := by decide +kernel
theorem dJ1_indexOf_4cfef_23 : decode cJ1_indexOf_4cfef 23 = .ok (.iload_n 3, 1) := by decide +kernel
theorem dJ1_indexOf_4cfef_24 : decode cJ1_indexOf_4cfef 24 = .ok (.if_icmp .lt 5, 3) := by decide +kernel
theorem dJ1_indexOf_4cfef_27 : decode cJ1_indexOf_4cfef 27 = .ok (.iconst (-1), 1) := by decide +kernel
theorem dJ1_indexOf_4cfef_28 : decode cJ1_indexOf_4cfef 28 = .ok (.ireturn, 1) := by decide +kernel
theorem dJ1_indexOf_4cfef_29 : decode cJ1_indexOf_4cfef 29 = .ok (.aload_n 0, 1) := by decide +kernel
theorem dJ1_indexOf_4cfef_30 : decode cJ1_indexOf_4cfef 30 = .ok (.iload_n 1, 1) := by decide +kernel
theorem dJ1_indexOf_4cfef_31 : decode cJ1_indexOf_4cfef 31 = .ok (.iload_n 2, 1) := by decide +kernel
theorem dJ1_indexOf_4cfef_32 : decode cJ1_indexOf_4cfef 32 = .ok (.iload_n 3, 1) := by decide +kernel
theorem dJ1_indexOf_4cfef_33 : decode cJ1_indexOf_4cfef 33 = .ok (.invokestatic 95, 3) := by decide +kernel
theorem dJ1_indexOf_4cfef_36 : decode cJ1_indexOf_4cfef 36 = .ok (.ireturn, 1) := by decide +kernel
theorem kSJ1_indexOf_4cfef : yJ1_indexOf_4cfef.cls ≠ "java/lang/invoke/MethodHandle" ∧ yJ1_indexOf_4cfef.cls ≠ "java/lang/invoke/VarHandle" ∧ (parseMethodDescriptor yJ1_indexOf_4cfef.desc).map (fun d => d.parameters.length) = some 4 := by decide +kernel
theorem dJ0_indexOf_7cf53_0 : decode cJ0_indexOf_7cf53 0 = .ok (.aload_n 0, 1) := by decide +kernel
theorem dJ0_indexOf_7cf53_1 : decode cJ0_indexOf_7cf53 1 = .ok (.invokevirtual 492, 3) := by decide +kernel
theorem dJ0_indexOf_7cf53_4 : decode cJ0_indexOf_7cf53 4 = .ok (.ifCond .eq 19, 3) := by decide +kernel
theorem dJ0_indexOf_7cf53_7 : decode cJ0_indexOf_7cf53 7 = .ok (.aload_n 0, 1) := by decide +kernel
theorem dJ0_indexOf_7cf53_8 : decode cJ0_indexOf_7cf53 8 = .ok (.getfield 9, 3) := by decide +kernel
theorem dJ0_indexOf_7cf53_11 : decode cJ0_indexOf_7cf53 11 = .ok (.iload_n 1, 1) := by decide +kernel
theorem dJ0_indexOf_7cf53_12 : decode cJ0_indexOf_7cf53 12 = .ok (.iload_n 2, 1) := by decide +kernel
theorem dJ0_indexOf_7cf53_13 : decode cJ0_indexOf_7cf53 13 = .ok (.aload_n 0, 1) := by decide +kernel
theorem dJ0_indexOf_7cf53_14 : decode cJ0_indexOf_7cf53 14 = .ok (.invokevirtual 505, 3) := by decide +kernel
theorem dJ0_indexOf_7cf53_17 : decode cJ0_indexOf_7cf53 17 = .ok (.invokestatic 637, 3) := by decide +kernel
theorem dJ0_indexOf_7cf53_20 : decode cJ0_indexOf_7cf53 20 = .ok (.goto 16, 3) := by decide +kernel
theorem dJ0_indexOf_7cf53_36 : decode cJ0_indexOf_7cf53 36 = .ok (.ireturn, 1) := by decide +kernel
theorem kSJ0_indexOf_7cf53 : yJ0_indexOf_7cf53.cls ≠ "java/lang/invoke/MethodHandle" ∧ yJ0_indexOf_7cf53.cls ≠ "java/lang/invoke/VarHandle" ∧ (parseMethodDescriptor yJ0_indexOf_7cf53.desc).map (fun d => d.parameters.length) = some 2 := by decide +kernel
theorem kVJ0_indexOf_7cf53 : yJ0_indexOf_7cf53.cls = RJ0 ∧ yJ0_indexOf_7cf53.cls ≠ "java/lang/invoke/MethodHandle" ∧ yJ0_indexOf_7cf53.cls ≠ "java/lang/invoke/VarHandle" ∧ (parseMethodDescriptor yJ0_indexOf_7cf53.desc).map (fun d => d.parameters.length) = some 2 := ⟨rfl, kSJ0_indexOf_7cf53⟩
theorem dJ0_indexOf_0f7a4_0 : decode cJ0_indexOf_0f7a4 0 = .ok (.aload_n 0, 1) := by decide +kernel
theorem dJ0_indexOf_0f7a4_1 : decode cJ0_indexOf_0f7a4 1 = .ok (.iload_n 1, 1) := by decide +kernel
theorem dJ0_indexOf_0f7a4_2 : decode cJ0_indexOf_0f7a4 2 = .ok (.iconst 0, 1) := by decide +kernel
theorem dJ0_indexOf_0f7a4_3 : decode cJ0_indexOf_0f7a4 3 = .ok (.invokevirtual 633, 3) := by decide +kernel
theorem dJ0_indexOf_0f7a4_6 : decode cJ0_indexOf_0f7a4 6 = .ok (.ireturn, 1) := by decide +kernel
theorem kSJ0_indexOf_0f7a4 : yJ0_indexOf_0f7a4.cls ≠ "java/lang/invoke/MethodHandle" ∧ yJ0_indexOf_0f7a4.cls ≠ "java/lang/invoke/VarHandle" ∧ (parseMethodDescriptor yJ0_indexOf_0f7a4.desc).map (fun d => d.parameters.length) = some 1 := by decide +kernel
theorem kVJ0_indexOf_0f7a4 : yJ0_indexOf_0f7a4.cls = RJ0 ∧ yJ0_indexOf_0f7a4.cls ≠ "java/lang/invoke/MethodHandle" ∧ yJ0_indexOf_0f7a4.cls ≠ "java/lang/invoke/VarHandle" ∧ (parseMethodDescriptor yJ0_indexOf_0f7a4.desc).map (fun d => d.parameters.length) = some 1 := ⟨rfl, kSJ0_indexOf_0f7a4⟩

def wJ : List Cond := [.fieldLink RJ0 38 "java/lang/String" "COMPACT_STRINGS" "Z", .fieldLink RJ0 15 "java/lang/String" "coder" "B", .fieldLink RJ0 9 "java/lang/String" "value" "[B", .code yJ0_coder_7d493 cJ0_coder_7d493 1 (some .byte), .methodLink RJ0 335 yJ0_coder_7d493, .instanceMethod yJ0_coder_7d493, .selects RJ0 yJ0_coder_7d493 yJ0_coder_7d493, .initialized RJ0, .fieldLink RJ0 1053 "jdk/internal/util/Preconditions" "SIOOBE_FORMATTER" "Ljava/util/function/BiFunction;", .code yJ3_checkIndex_8e157 cJ3_checkIndex_8e157 3 (some .int), .methodLink RJ0 1059 yJ3_checkIndex_8e157, .static yJ3_checkIndex_8e157, .initialized RJ3, .code yJ0_checkIndex_df160 cJ0_checkIndex_df160 2 none, .methodLink RJ1 9 yJ0_checkIndex_df160, .static yJ0_checkIndex_df160, .code yJ0_isLatin1_aae02 cJ0_isLatin1_aae02 1 (some .boolean), .methodLink RJ0 492 yJ0_isLatin1_aae02, .instanceMethod yJ0_isLatin1_aae02, .selects RJ0 yJ0_isLatin1_aae02 yJ0_isLatin1_aae02, .code yJ1_charAt_3b067 cJ1_charAt_3b067 2 (some .char), .methodLink RJ0 495 yJ1_charAt_3b067, .static yJ1_charAt_3b067, .initialized RJ1, .code yJ1_canEncode_9a6ad cJ1_canEncode_9a6ad 1 (some .boolean), .methodLink RJ1 88 yJ1_canEncode_9a6ad, .static yJ1_canEncode_9a6ad, .methodLink RJ1 92 Lib.Math.max.name, .static Lib.Math.max.name, .initialized RJ9, .code Lib.Math.max.name Lib.Math.max.code 2 (some .int), .methodLink RJ1 38 Lib.Math.min.name, .static Lib.Math.min.name, .code Lib.Math.min.name Lib.Math.min.code 2 (some .int), .code yJ1_indexOfChar_4cfef cJ1_indexOfChar_4cfef 6 (some .int), .methodLink RJ1 95 yJ1_indexOfChar_4cfef, .static yJ1_indexOfChar_4cfef, .code yJ0_length_8abf5 cJ0_length_8abf5 1 (some .int), .methodLink RJ0 505 yJ0_length_8abf5, .instanceMethod yJ0_length_8abf5, .selects RJ0 yJ0_length_8abf5 yJ0_length_8abf5, .code yJ1_indexOf_4cfef cJ1_indexOf_4cfef 4 (some .int), .methodLink RJ0 637 yJ1_indexOf_4cfef, .static yJ1_indexOf_4cfef, .code yJ0_indexOf_7cf53 cJ0_indexOf_7cf53 3 (some .int), .methodLink RJ0 633 yJ0_indexOf_7cf53, .instanceMethod yJ0_indexOf_7cf53, .selects RJ0 yJ0_indexOf_7cf53 yJ0_indexOf_7cf53, .code yJ0_charAt_5068e cJ0_charAt_5068e 2 (some .char), .code yJ0_indexOf_0f7a4 cJ0_indexOf_0f7a4 2 (some .int), .instanceMethod yJ0_charAt_5068e, .selects RJ0 yJ0_charAt_5068e yJ0_charAt_5068e, .instanceMethod yJ0_indexOf_0f7a4, .selects RJ0 yJ0_indexOf_0f7a4 yJ0_indexOf_0f7a4]
theorem gd_wJ : ∀ w ∈ wJ, Gd w := gdl wJ (by decide +kernel)
theorem in_wJ : ∀ w ∈ wJ, w ∈ lw_tbl := inT2 wJ [(3, 40), (10, 49), (10, 48), (3, 39), (3, 36), (3, 37), (3, 38), (1, 22), (3, 56), (3, 60), (3, 58), (3, 59), (1, 24), (3, 55), (3, 53), (3, 54), (3, 49), (3, 46), (3, 47), (3, 48), (3, 52), (3, 50), (3, 51), (1, 23), (8, 47), (8, 45), (8, 46), (8, 48), (1, 51), (1, 4), (1, 52), (8, 49), (4, 63), (4, 64), (8, 52), (8, 50), (8, 51), (3, 35), (8, 41), (3, 33), (3, 34), (8, 44), (8, 42), (8, 43), (8, 40), (8, 37), (8, 38), (8, 39), (3, 45), (8, 36), (3, 43), (3, 44), (8, 34), (8, 35)] (by decide +kernel)
theorem wj0 : Cond.fieldLink RJ0 38 "java/lang/String" "COMPACT_STRINGS" "Z" ∈ wJ := List.mem_of_getElem? (i := 0) rfl
theorem wj1 : Cond.fieldLink RJ0 15 "java/lang/String" "coder" "B" ∈ wJ := List.mem_of_getElem? (i := 1) rfl
theorem wj2 : Cond.fieldLink RJ0 9 "java/lang/String" "value" "[B" ∈ wJ := List.mem_of_getElem? (i := 2) rfl
theorem wj3 : Cond.code yJ0_coder_7d493 cJ0_coder_7d493 1 (some .byte) ∈ wJ := List.mem_of_getElem? (i := 3) rfl
theorem wj4 : Cond.methodLink RJ0 335 yJ0_coder_7d493 ∈ wJ := List.mem_of_getElem? (i := 4) rfl
theorem wj5 : Cond.instanceMethod yJ0_coder_7d493 ∈ wJ := List.mem_of_getElem? (i := 5) rfl
theorem wj6 : Cond.selects RJ0 yJ0_coder_7d493 yJ0_coder_7d493 ∈ wJ := List.mem_of_getElem? (i := 6) rfl
theorem wj7 : Cond.initialized RJ0 ∈ wJ := List.mem_of_getElem? (i := 7) rfl
theorem wj8 : Cond.fieldLink RJ0 1053 "jdk/internal/util/Preconditions" "SIOOBE_FORMATTER" "Ljava/util/function/BiFunction;" ∈ wJ := List.mem_of_getElem? (i := 8) rfl
theorem wj9 : Cond.code yJ3_checkIndex_8e157 cJ3_checkIndex_8e157 3 (some .int) ∈ wJ := List.mem_of_getElem? (i := 9) rfl
theorem wj10 : Cond.methodLink RJ0 1059 yJ3_checkIndex_8e157 ∈ wJ := List.mem_of_getElem? (i := 10) rfl
theorem wj11 : Cond.static yJ3_checkIndex_8e157 ∈ wJ := List.mem_of_getElem? (i := 11) rfl
theorem wj12 : Cond.initialized RJ3 ∈ wJ := List.mem_of_getElem? (i := 12) rfl
theorem wj13 : Cond.code yJ0_checkIndex_df160 cJ0_checkIndex_df160 2 none ∈ wJ := List.mem_of_getElem? (i := 13) rfl
theorem wj14 : Cond.methodLink RJ1 9 yJ0_checkIndex_df160 ∈ wJ := List.mem_of_getElem? (i := 14) rfl
theorem wj15 : Cond.static yJ0_checkIndex_df160 ∈ wJ := List.mem_of_getElem? (i := 15) rfl
theorem wj16 : Cond.code yJ0_isLatin1_aae02 cJ0_isLatin1_aae02 1 (some .boolean) ∈ wJ := List.mem_of_getElem? (i := 16) rfl
theorem wj17 : Cond.methodLink RJ0 492 yJ0_isLatin1_aae02 ∈ wJ := List.mem_of_getElem? (i := 17) rfl
theorem wj18 : Cond.instanceMethod yJ0_isLatin1_aae02 ∈ wJ := List.mem_of_getElem? (i := 18) rfl
theorem wj19 : Cond.selects RJ0 yJ0_isLatin1_aae02 yJ0_isLatin1_aae02 ∈ wJ := List.mem_of_getElem? (i := 19) rfl
theorem wj20 : Cond.code yJ1_charAt_3b067 cJ1_charAt_3b067 2 (some .char) ∈ wJ := List.mem_of_getElem? (i := 20) rfl
theorem wj21 : Cond.methodLink RJ0 495 yJ1_charAt_3b067 ∈ wJ := List.mem_of_getElem? (i := 21) rfl
theorem wj22 : Cond.static yJ1_charAt_3b067 ∈ wJ := List.mem_of_getElem? (i := 22) rfl
theorem wj23 : Cond.initialized RJ1 ∈ wJ := List.mem_of_getElem? (i := 23) rfl
theorem wj24 : Cond.code yJ1_canEncode_9a6ad cJ1_canEncode_9a6ad 1 (some .boolean) ∈ wJ := List.mem_of_getElem? (i := 24) rfl
theorem wj25 : Cond.methodLink RJ1 88 yJ1_canEncode_9a6ad ∈ wJ := List.mem_of_getElem? (i := 25) rfl
theorem wj26 : Cond.static yJ1_canEncode_9a6ad ∈ wJ := List.mem_of_getElem? (i := 26) rfl
theorem wj27 : Cond.methodLink RJ1 92 Lib.Math.max.name ∈ wJ := List.mem_of_getElem? (i := 27) rfl
theorem wj28 : Cond.static Lib.Math.max.name ∈ wJ := List.mem_of_getElem? (i := 28) rfl
theorem wj29 : Cond.initialized RJ9 ∈ wJ := List.mem_of_getElem? (i := 29) rfl
theorem wj30 : Cond.code Lib.Math.max.name Lib.Math.max.code 2 (some .int) ∈ wJ := List.mem_of_getElem? (i := 30) rfl
theorem wj31 : Cond.methodLink RJ1 38 Lib.Math.min.name ∈ wJ := List.mem_of_getElem? (i := 31) rfl
theorem wj32 : Cond.static Lib.Math.min.name ∈ wJ := List.mem_of_getElem? (i := 32) rfl
theorem wj33 : Cond.code Lib.Math.min.name Lib.Math.min.code 2 (some .int) ∈ wJ := List.mem_of_getElem? (i := 33) rfl
theorem wj34 : Cond.code yJ1_indexOfChar_4cfef cJ1_indexOfChar_4cfef 6 (some .int) ∈ wJ := List.mem_of_getElem? (i := 34) rfl
theorem wj35 : Cond.methodLink RJ1 95 yJ1_indexOfChar_4cfef ∈ wJ := List.mem_of_getElem? (i := 35) rfl
theorem wj36 : Cond.static yJ1_indexOfChar_4cfef ∈ wJ := List.mem_of_getElem? (i := 36) rfl
theorem wj37 : Cond.code yJ0_length_8abf5 cJ0_length_8abf5 1 (some .int) ∈ wJ := List.mem_of_getElem? (i := 37) rfl
theorem wj38 : Cond.methodLink RJ0 505 yJ0_length_8abf5 ∈ wJ := List.mem_of_getElem? (i := 38) rfl
theorem wj39 : Cond.instanceMethod yJ0_length_8abf5 ∈ wJ := List.mem_of_getElem? (i := 39) rfl
theorem wj40 : Cond.selects RJ0 yJ0_length_8abf5 yJ0_length_8abf5 ∈ wJ := List.mem_of_getElem? (i := 40) rfl
theorem wj41 : Cond.code yJ1_indexOf_4cfef cJ1_indexOf_4cfef 4 (some .int) ∈ wJ := List.mem_of_getElem? (i := 41) rfl
theorem wj42 : Cond.methodLink RJ0 637 yJ1_indexOf_4cfef ∈ wJ := List.mem_of_getElem? (i := 42) rfl
theorem wj43 : Cond.static yJ1_indexOf_4cfef ∈ wJ := List.mem_of_getElem? (i := 43) rfl
theorem wj44 : Cond.code yJ0_indexOf_7cf53 cJ0_indexOf_7cf53 3 (some .int) ∈ wJ := List.mem_of_getElem? (i := 44) rfl
theorem wj45 : Cond.methodLink RJ0 633 yJ0_indexOf_7cf53 ∈ wJ := List.mem_of_getElem? (i := 45) rfl
theorem wj46 : Cond.instanceMethod yJ0_indexOf_7cf53 ∈ wJ := List.mem_of_getElem? (i := 46) rfl
theorem wj47 : Cond.selects RJ0 yJ0_indexOf_7cf53 yJ0_indexOf_7cf53 ∈ wJ := List.mem_of_getElem? (i := 47) rfl
theorem wj48 : Cond.code yJ0_charAt_5068e cJ0_charAt_5068e 2 (some .char) ∈ wJ := List.mem_of_getElem? (i := 48) rfl
theorem wj49 : Cond.code yJ0_indexOf_0f7a4 cJ0_indexOf_0f7a4 2 (some .int) ∈ wJ := List.mem_of_getElem? (i := 49) rfl
theorem wj50 : Cond.instanceMethod yJ0_charAt_5068e ∈ wJ := List.mem_of_getElem? (i := 50) rfl
theorem wj51 : Cond.selects RJ0 yJ0_charAt_5068e yJ0_charAt_5068e ∈ wJ := List.mem_of_getElem? (i := 51) rfl
theorem wj52 : Cond.instanceMethod yJ0_indexOf_0f7a4 ∈ wJ := List.mem_of_getElem? (i := 52) rfl
theorem wj53 : Cond.selects RJ0 yJ0_indexOf_0f7a4 yJ0_indexOf_0f7a4 ∈ wJ := List.mem_of_getElem? (i := 53) rfl
section JC
variable {p : Program} {l : Launch} {e : Env} {R : Room} {s : State} {m : MethodId} {args : Array Value} {below : List Frame} {meth : Method} {c : Code} {H : Heap} {locs : List Loc} {cells slots : Nat} {Q' : State → Prop} {cc : ByteArray} {nL pc : Nat} {ls : Array Slot} {rest st0 : List Value} {Z : gM} {A : Nat → Prop} {Ts : List Cond} {own : String}
def jX (p : Program) (c : Code) (cc : ByteArray) (nL : Nat) (s : State) (m : MethodId) (args : Array Value) (own : String) (Z : gM) (A : Nat → Prop) : Prop := p.tables.exec = Jvm.exec ∧ c.code = cc ∧ c.maxLocals = nL ∧ s.vm.findClass own = some m.cls ∧ (∀ w ∈ wJ, w.before args s = true) ∧ sE Z A s s.heap
theorem jgood {y : MethodName} {b : ByteArray} {n : Nat} {r : Option FieldType} (h : Cond.code y b n r ∈ wJ) : ∀ w ∈ (Cond.code y b n r :: wJ), w ∈ wJ ∧ Gd w := List.forall_mem_cons.mpr ⟨⟨h, gd_wJ _ h⟩, fun w hw => ⟨hw, gd_wJ _ hw⟩⟩
/-- a call of one of String's methods on a constant, from anywhere -/
theorem jcallV {y : MethodName} {bytes : ByteArray} {maxL n index fr lo k : Nat} {ret : Option FieldType} {As : List Value} {Qc : Array Value → State → Outcome → State → Prop} (S : CallFix p m c cc nL s args Ts own) (hE : sE Z A s s.heap) (hS : va_S A s.heap H locs) (hs : k < 38) (hM : Met l y (Cond.code y bytes maxL ret :: wJ) { frames := fr, cells := 0, slots := 0, locals := lo } (va_Pc (.ref (Z.1 k) :: As) (sP Z A)) Qc 0 0 (fun _ => False)) (hg : GoodIn Ts (wsV own index "java/lang/String" y (Cond.code y bytes maxL ret :: wJ)))
    (hd : y.cls = "java/lang/String" ∧ y.cls ≠ "java/lang/invoke/MethodHandle" ∧ y.cls ≠ "java/lang/invoke/VarHandle" ∧ (parseMethodDescriptor y.desc).map (fun d => d.parameters.length) = some n) (hR : fr + 1 ≤ R.frames ∧ 8 + (maxL + 11) + lo ≤ R.locals) (hn : As.length = n) (hls : ls.size = nL) (hst : st0 = As.reverse ++ .ref (Z.1 k) :: rest) (hcat : (rest.map fun v => v.category).sum ≤ 8) (hdg : decode cc pc = .ok (.invokevirtual index, 3)) (hf : cells ≤ R.cells ∧ slots ≤ R.slots) :
    va_Run p l e R s m args below meth c H locs cells slots 0 0 (F0 m pc ls st0) rest (Qc (Value.ref (Z.1 k) :: As).toArray) (fun _ => False) := by
  obtain ⟨cell, h1, h2, h3, -⟩ := (hE.2.1 k hs).1.kept hS.2.1
  exact va_runV (As := As) (rest := rest) (C := "java/lang/String") S hM (cwV n S.2.2.2.2 hg rfl rfl rfl hd hR) ⟨sP.blind, ⟨cell, h1, h2, h3⟩, fun U hU hW => ⟨rfl, by show sE Z A U U.heap; rw [hU]; exact (hE.kept hS.2.1).moved hW⟩⟩ rfl hn hls hst (lv_room hcat) hdg hf
theorem jcallS {y : MethodName} {bytes : ByteArray} {maxL n index fr lo : Nat} {ret : Option FieldType} {As : List Value} {Qc : Array Value → State → Outcome → State → Prop} (S : CallFix p m c cc nL s args Ts own) (hE : sE Z A s s.heap) (hS : va_S A s.heap H locs) (hM : Met l y (Cond.code y bytes maxL ret :: wJ) { frames := fr, cells := 0, slots := 0, locals := lo } (va_Pc As (sP Z A)) Qc 0 0 (fun _ => False)) (hg : GoodIn Ts (va_wsS own index y (Cond.code y bytes maxL ret :: wJ)))
    (hd : y.cls ≠ "java/lang/invoke/MethodHandle" ∧ y.cls ≠ "java/lang/invoke/VarHandle" ∧ (parseMethodDescriptor y.desc).map (fun d => d.parameters.length) = some n) (hR : fr + 1 ≤ R.frames ∧ 8 + (maxL + 11) + lo ≤ R.locals) (hn : As.length = n) (hls : ls.size = nL) (hst : st0 = As.reverse ++ rest) (hcat : (rest.map fun v => v.category).sum ≤ 8) (hdg : decode cc pc = .ok (.invokestatic index, 3)) (hf : cells ≤ R.cells ∧ slots ≤ R.slots) :
    va_Run p l e R s m args below meth c H locs cells slots 0 0 (F0 m pc ls st0) rest (Qc As.toArray) (fun _ => False) := by
  exact va_runS (As := As) (rest := rest) S hM (va_cwS n S.2.2.2.2 hg rfl rfl rfl hd hR) ⟨sP.blind, fun U hU hW => ⟨rfl, by show sE Z A U U.heap; rw [hU]; exact (hE.kept hS.2.1).moved hW⟩⟩ rfl hn hls hst (lv_room hcat) hdg hf
theorem jcV_i {y : MethodName} {bytes : ByteArray} {maxL n index fr lo k : Nat} {ret : Option FieldType} {As : List Value} {r : Int32} (hs : k < 38) (hC : jX p c cc nL s m args own Z A) (hM : Met l y (Cond.code y bytes maxL ret :: wJ) { frames := fr, cells := 0, slots := 0, locals := lo } (va_Pc (.ref (Z.1 k) :: As) (sP Z A)) (vp_Si (fun x : Int32 => x = r)) 0 0 (fun _ => False)) (kw : Cond.code y bytes maxL ret ∈ wJ ∧ Cond.methodLink own index y ∈ wJ ∧ Cond.instanceMethod y ∈ wJ ∧ Cond.selects "java/lang/String" y y ∈ wJ ∧ Cond.initialized "java/lang/String" ∈ wJ)
    (hd : y.cls = "java/lang/String" ∧ y.cls ≠ "java/lang/invoke/MethodHandle" ∧ y.cls ≠ "java/lang/invoke/VarHandle" ∧ (parseMethodDescriptor y.desc).map (fun d => d.parameters.length) = some n) (hR : fr + 1 ≤ R.frames ∧ 8 + (maxL + 11) + lo ≤ R.locals) (hn : As.length = n) (hls : ls.size = nL) (hst : st0 = As.reverse ++ .ref (Z.1 k) :: rest) (hcat : (rest.map fun v => v.category).sum ≤ 8) (hdg : decode cc pc = .ok (.invokevirtual index, 3)) (kk : W p l e R s m args below meth c s.heap [] 0 0 Q' (F0 m (pc + 3) ls (.int r :: rest))) : W p l e R s m args below meth c s.heap [] 0 0 Q' (F0 m pc ls st0) := by
  obtain ⟨hx, hb, hml, hown, hts, hE⟩ := hC
  refine vp_callSi (va_Run.run (jcallV (rest := rest) ⟨hx, hb, hml, hown, hts⟩ hE va_S.rf hs hM (gdV kw.2.1 kw.2.2.1 kw.2.2.2.1 kw.2.2.2.2 (jgood kw.1)) hd hR hn hls hst hcat hdg ⟨Nat.zero_le _, Nat.zero_le _⟩)) (fun x hx9 => ?_)
  subst hx9
  exact kk
theorem jcS_i {y : MethodName} {bytes : ByteArray} {maxL n index fr lo : Nat} {ret : Option FieldType} {As : List Value} {r : Int32} (hC : jX p c cc nL s m args own Z A) (hM : Met l y (Cond.code y bytes maxL ret :: wJ) { frames := fr, cells := 0, slots := 0, locals := lo } (va_Pc As (sP Z A)) (vp_Si (fun x : Int32 => x = r)) 0 0 (fun _ => False)) (kw : Cond.code y bytes maxL ret ∈ wJ ∧ Cond.methodLink own index y ∈ wJ ∧ Cond.static y ∈ wJ ∧ Cond.initialized y.cls ∈ wJ)
    (hd : y.cls ≠ "java/lang/invoke/MethodHandle" ∧ y.cls ≠ "java/lang/invoke/VarHandle" ∧ (parseMethodDescriptor y.desc).map (fun d => d.parameters.length) = some n) (hR : fr + 1 ≤ R.frames ∧ 8 + (maxL + 11) + lo ≤ R.locals) (hn : As.length = n) (hls : ls.size = nL) (hst : st0 = As.reverse ++ rest) (hcat : (rest.map fun v => v.category).sum ≤ 8) (hdg : decode cc pc = .ok (.invokestatic index, 3)) (kk : W p l e R s m args below meth c s.heap [] 0 0 Q' (F0 m (pc + 3) ls (.int r :: rest))) : W p l e R s m args below meth c s.heap [] 0 0 Q' (F0 m pc ls st0) := by
  obtain ⟨hx, hb, hml, hown, hts, hE⟩ := hC
  refine vp_callSi (va_Run.run (jcallS (rest := rest) ⟨hx, hb, hml, hown, hts⟩ hE va_S.rf hM (gdS kw.2.1 kw.2.2.1 kw.2.2.2 (jgood kw.1)) hd hR hn hls hst hcat hdg ⟨Nat.zero_le _, Nat.zero_le _⟩)) (fun x hx9 => ?_)
  subst hx9
  exact kk
theorem jcS_v {y : MethodName} {bytes : ByteArray} {maxL n index fr lo : Nat} {ret : Option FieldType} {As : List Value} (hC : jX p c cc nL s m args own Z A) (hM : Met l y (Cond.code y bytes maxL ret :: wJ) { frames := fr, cells := 0, slots := 0, locals := lo } (va_Pc As (sP Z A)) (va_Sv (fun _ => True)) 0 0 (fun _ => False)) (kw : Cond.code y bytes maxL ret ∈ wJ ∧ Cond.methodLink own index y ∈ wJ ∧ Cond.static y ∈ wJ ∧ Cond.initialized y.cls ∈ wJ)
    (hd : y.cls ≠ "java/lang/invoke/MethodHandle" ∧ y.cls ≠ "java/lang/invoke/VarHandle" ∧ (parseMethodDescriptor y.desc).map (fun d => d.parameters.length) = some n) (hR : fr + 1 ≤ R.frames ∧ 8 + (maxL + 11) + lo ≤ R.locals) (hn : As.length = n) (hls : ls.size = nL) (hst : st0 = As.reverse ++ rest) (hcat : (rest.map fun v => v.category).sum ≤ 8) (hdg : decode cc pc = .ok (.invokestatic index, 3)) (kk : W p l e R s m args below meth c s.heap [] 0 0 Q' (F0 m (pc + 3) ls rest)) : W p l e R s m args below meth c s.heap [] 0 0 Q' (F0 m pc ls st0) := by
  obtain ⟨hx, hb, hml, hown, hts, hE⟩ := hC
  exact va_csv (va_Run.run (jcallS (rest := rest) ⟨hx, hb, hml, hown, hts⟩ hE va_S.rf hM (gdS kw.2.1 kw.2.2.1 kw.2.2.2 (jgood kw.1)) hd hR hn hls hst hcat hdg ⟨Nat.zero_le _, Nat.zero_le _⟩)) (fun _ => kk)
end JC
def fj_coder (k : Nat) : Option Int32 := (if (1 : Int32) = 0 then some 1 else some 0)
set_option maxHeartbeats 4000000 in
theorem j_coder (l : Launch) (Z : gM) (A : Nat → Prop) (k : Nat) (r : Int32) (hs : k < 38) (hF : fj_coder k = some r) : Met l yJ0_coder_7d493 (Cond.code yJ0_coder_7d493 cJ0_coder_7d493 1 (some .byte) :: wJ) { frames := 0, cells := 0, slots := 0, locals := 0 } (va_Pc [.ref (Z.1 k)] (sP Z A)) (vp_Si (fun x : Int32 => x = r)) 0 0 (fun _ => False) := by
  refine Met.ofW (cc := cJ0_coder_7d493) (maxL := 1) (ret := (some .byte)) (by decide) rfl ?_
  intro p e s m args below meth c s₁ B hml hv
  obtain ⟨rfl, hE⟩ := hv
  have hr := B.returns
  have hlocks := B.notSynchronized
  have hts := atoms_spec (ws := Cond.code yJ0_coder_7d493 cJ0_coder_7d493 1 (some .byte) :: wJ) B.pre
  have hC : jX p c cJ0_coder_7d493 1 s m _ RJ0 Z A := ⟨B.exec, B.bytes, hml, findClass_of_methodNamed B.named, fun w h => hts w (List.mem_cons_of_mem _ h), hE⟩
  have hx := hC.1
  have hb := hC.2.1
  have hl := lv_entry ([.ref (Z.1 k)]) (n := 1) (Nat.le_of_ble_eq_true rfl)
  rw [lg_entry_eq]
  generalize (lg_sl ([.ref (Z.1 k)]) ++ List.replicate (1 - (lg_sl ([.ref (Z.1 k)])).length) Slot.unset).toArray = ls at hl ⊢
  have hl : lv_has ls 1 [(0, .ref (Z.1 k))] := hl
  unfold fj_coder at hF
  refine va_gets hx hb hC.2.2.2.2.2.1.1 va_S.rf hC.2.2.2.1 (hC.2.2.2.2.1 _ wj0) (fun _ h9 => h9) dJ0_coder_7d493_0 ?_
  refine lv_if_eq (tgt := 13) hx hb dJ0_coder_7d493_3 (by decide) (fun c_1 => ?_) (fun c_1 => ?_)
  · rw [if_pos c_1] at hF
    refine lv_iconst (v := 1) hx hb dJ0_coder_7d493_13 (by decide) ?_
    exact W.zret (v := 1) hx hb hr rfl (fun t ht hW => ⟨_, rfl, Option.some.inj hF, ht⟩) (fun q h => absurd h List.not_mem_nil) dJ0_coder_7d493_14
  · rw [if_neg c_1] at hF
    refine lv_aload_n hx hb dJ0_coder_7d493_6 rfl (lv_at hl 0 rfl) ?_
    refine vk_getf hx hb (hC.2.2.2.2.2.2.1 k hs).2.1 va_S.rf hC.2.2.2.1 (hC.2.2.2.2.1 _ wj1) (fun _ h9 => h9) dJ0_coder_7d493_7 ?_
    refine lv_goto (tgt := 14) hx hb dJ0_coder_7d493_10 (by decide) ?_
    exact W.zret (v := 0) hx hb hr rfl (fun t ht hW => ⟨_, rfl, Option.some.inj hF, ht⟩) (fun q h => absurd h List.not_mem_nil) dJ0_coder_7d493_14
def fj_isLatin1 (k : Nat) : Option Int32 := (if (1 : Int32) = 0 then some 0 else (if (0 : Int32) = 0 then some 1 else some 0))
set_option maxHeartbeats 4000000 in
theorem j_isLatin1 (l : Launch) (Z : gM) (A : Nat → Prop) (k : Nat) (r : Int32) (hs : k < 38) (hF : fj_isLatin1 k = some r) : Met l yJ0_isLatin1_aae02 (Cond.code yJ0_isLatin1_aae02 cJ0_isLatin1_aae02 1 (some .boolean) :: wJ) { frames := 0, cells := 0, slots := 0, locals := 0 } (va_Pc [.ref (Z.1 k)] (sP Z A)) (vp_Si (fun x : Int32 => x = r)) 0 0 (fun _ => False) := by
  refine Met.ofW (cc := cJ0_isLatin1_aae02) (maxL := 1) (ret := (some .boolean)) (by decide) rfl ?_
  intro p e s m args below meth c s₁ B hml hv
  obtain ⟨rfl, hE⟩ := hv
  have hr := B.returns
  have hlocks := B.notSynchronized
  have hts := atoms_spec (ws := Cond.code yJ0_isLatin1_aae02 cJ0_isLatin1_aae02 1 (some .boolean) :: wJ) B.pre
  have hC : jX p c cJ0_isLatin1_aae02 1 s m _ RJ0 Z A := ⟨B.exec, B.bytes, hml, findClass_of_methodNamed B.named, fun w h => hts w (List.mem_cons_of_mem _ h), hE⟩
  have hx := hC.1
  have hb := hC.2.1
  have hl := lv_entry ([.ref (Z.1 k)]) (n := 1) (Nat.le_of_ble_eq_true rfl)
  rw [lg_entry_eq]
  generalize (lg_sl ([.ref (Z.1 k)]) ++ List.replicate (1 - (lg_sl ([.ref (Z.1 k)])).length) Slot.unset).toArray = ls at hl ⊢
  have hl : lv_has ls 1 [(0, .ref (Z.1 k))] := hl
  unfold fj_isLatin1 at hF
  refine va_gets hx hb hC.2.2.2.2.2.1.1 va_S.rf hC.2.2.2.1 (hC.2.2.2.2.1 _ wj0) (fun _ h9 => h9) dJ0_isLatin1_aae02_0 ?_
  refine lv_if_eq (tgt := 17) hx hb dJ0_isLatin1_aae02_3 (by decide) (fun c_1 => ?_) (fun c_1 => ?_)
  · rw [if_pos c_1] at hF
    refine lv_iconst (v := 0) hx hb dJ0_isLatin1_aae02_17 (by decide) ?_
    exact W.zret (v := 0) hx hb hr rfl (fun t ht hW => ⟨_, rfl, Option.some.inj hF, ht⟩) (fun q h => absurd h List.not_mem_nil) dJ0_isLatin1_aae02_18
  · rw [if_neg c_1] at hF
    refine lv_aload_n hx hb dJ0_isLatin1_aae02_6 rfl (lv_at hl 0 rfl) ?_
    refine vk_getf hx hb (hC.2.2.2.2.2.2.1 k hs).2.1 va_S.rf hC.2.2.2.1 (hC.2.2.2.2.1 _ wj1) (fun _ h9 => h9) dJ0_isLatin1_aae02_7 ?_
    refine lv_if_ne (tgt := 17) hx hb dJ0_isLatin1_aae02_10 (by decide) (fun c_2 => ?_) (fun c_2 => ?_)
    · rw [if_neg c_2] at hF
      refine lv_iconst (v := 0) hx hb dJ0_isLatin1_aae02_17 (by decide) ?_
      exact W.zret (v := 0) hx hb hr rfl (fun t ht hW => ⟨_, rfl, Option.some.inj hF, ht⟩) (fun q h => absurd h List.not_mem_nil) dJ0_isLatin1_aae02_18
    · rw [if_pos c_2] at hF
      refine lv_iconst (v := 1) hx hb dJ0_isLatin1_aae02_13 (by decide) ?_
      refine lv_goto (tgt := 18) hx hb dJ0_isLatin1_aae02_14 (by decide) ?_
      exact W.zret (v := 1) hx hb hr rfl (fun t ht hW => ⟨_, rfl, Option.some.inj hF, ht⟩) (fun q h => absurd h List.not_mem_nil) dJ0_isLatin1_aae02_18
def fj_len (k : Nat) : Option Int32 := oi (fj_coder k) (fun r_1 => some ((Int32.ofNat (sBy k).length) >>> (r_1 &&& 31)))
set_option maxHeartbeats 4000000 in
theorem j_len (l : Launch) (Z : gM) (A : Nat → Prop) (k : Nat) (r : Int32) (hs : k < 38) (hF : fj_len k = some r) : Met l yJ0_length_8abf5 (Cond.code yJ0_length_8abf5 cJ0_length_8abf5 1 (some .int) :: wJ) { frames := 1, cells := 0, slots := 0, locals := 20 } (va_Pc [.ref (Z.1 k)] (sP Z A)) (vp_Si (fun x : Int32 => x = r)) 0 0 (fun _ => False) := by
  refine Met.ofW (cc := cJ0_length_8abf5) (maxL := 1) (ret := (some .int)) (by decide) rfl ?_
  intro p e s m args below meth c s₁ B hml hv
  obtain ⟨rfl, hE⟩ := hv
  have hr := B.returns
  have hlocks := B.notSynchronized
  have hts := atoms_spec (ws := Cond.code yJ0_length_8abf5 cJ0_length_8abf5 1 (some .int) :: wJ) B.pre
  have hC : jX p c cJ0_length_8abf5 1 s m _ RJ0 Z A := ⟨B.exec, B.bytes, hml, findClass_of_methodNamed B.named, fun w h => hts w (List.mem_cons_of_mem _ h), hE⟩
  have hx := hC.1
  have hb := hC.2.1
  have hl := lv_entry ([.ref (Z.1 k)]) (n := 1) (Nat.le_of_ble_eq_true rfl)
  rw [lg_entry_eq]
  generalize (lg_sl ([.ref (Z.1 k)]) ++ List.replicate (1 - (lg_sl ([.ref (Z.1 k)])).length) Slot.unset).toArray = ls at hl ⊢
  have hl : lv_has ls 1 [(0, .ref (Z.1 k))] := hl
  unfold fj_len at hF
  refine lv_aload_n hx hb dJ0_length_8abf5_0 rfl (lv_at hl 0 rfl) ?_
  refine vk_getf hx hb (hC.2.2.2.2.2.2.1 k hs).2.2.1 va_S.rf hC.2.2.2.1 (hC.2.2.2.2.1 _ wj2) (fun _ h9 => h9) dJ0_length_8abf5_1 ?_
  refine va_tlen hx hb (hC.2.2.2.2.2.2.1 k hs).2.2.2 va_S.rf rfl dJ0_length_8abf5_4 ?_
  refine lv_aload_n hx hb dJ0_length_8abf5_5 rfl (lv_at hl 0 rfl) ?_
  obtain ⟨r_1, h_2, hF⟩ := oi_some hF
  refine jcV_i (As := []) (rest := [.int (Int32.ofNat (sBy k).length)]) hs hC (j_coder l Z A k r_1 hs h_2) ⟨wj3, wj4, wj5, wj6, wj7⟩ kVJ0_coder_7d493 ⟨Nat.le_of_ble_eq_true rfl, Nat.le_of_ble_eq_true rfl⟩ rfl hl.1 rfl (Nat.le_of_ble_eq_true rfl) dJ0_length_8abf5_6 ?_
  refine lv_ishr hx hb dJ0_length_8abf5_9 ?_
  exact W.iret (v := ((Int32.ofNat (sBy k).length) >>> (r_1 &&& 31))) hx hb hr (fun t ht hW => ⟨_, rfl, Option.some.inj hF, ht⟩) (fun q h => absurd h List.not_mem_nil) dJ0_length_8abf5_10
def fj_chk3 (a0 : Int32) (a1 : Int32) : Option Int32 := (if a0 < 0 then none else (if a0 < a1 then some a0 else none))
set_option maxHeartbeats 4000000 in
theorem j_chk3N (l : Launch) (Z : gM) (A : Nat → Prop) (a0 : Int32) (a1 : Int32) (r : Int32) (hF : fj_chk3 a0 a1 = some r) : Met l yJ3_checkIndex_8e157 (Cond.code yJ3_checkIndex_8e157 cJ3_checkIndex_8e157 3 (some .int) :: wJ) { frames := 0, cells := 0, slots := 0, locals := 0 } (va_Pc [.int a0, .int a1, .null] (sP Z A)) (vp_Si (fun x : Int32 => x = r)) 0 0 (fun _ => False) := by
  refine Met.ofW (cc := cJ3_checkIndex_8e157) (maxL := 3) (ret := (some .int)) (by decide) rfl ?_
  intro p e s m args below meth c s₁ B hml hv
  obtain ⟨rfl, hE⟩ := hv
  have hr := B.returns
  have hlocks := B.notSynchronized
  have hts := atoms_spec (ws := Cond.code yJ3_checkIndex_8e157 cJ3_checkIndex_8e157 3 (some .int) :: wJ) B.pre
  have hC : jX p c cJ3_checkIndex_8e157 3 s m _ RJ3 Z A := ⟨B.exec, B.bytes, hml, findClass_of_methodNamed B.named, fun w h => hts w (List.mem_cons_of_mem _ h), hE⟩
  have hx := hC.1
  have hb := hC.2.1
  have hl := lv_entry ([.int a0, .int a1, .null]) (n := 3) (Nat.le_of_ble_eq_true rfl)
  rw [lg_entry_eq]
  generalize (lg_sl ([.int a0, .int a1, .null]) ++ List.replicate (3 - (lg_sl ([.int a0, .int a1, .null])).length) Slot.unset).toArray = ls at hl ⊢
  have hl : lv_has ls 3 [(0, .int a0), (1, .int a1), (2, .null)] := hl
  unfold fj_chk3 at hF
  refine lv_iload_n hx hb dJ3_checkIndex_8e157_0 rfl (lv_at hl 0 rfl) ?_
  refine lv_if_lt (tgt := 9) hx hb dJ3_checkIndex_8e157_1 (by decide) (fun c_1 => ?_) (fun c_1 => ?_)
  · rw [if_pos c_1] at hF
    cases hF
  · rw [if_neg c_1] at hF
    refine lv_iload_n hx hb dJ3_checkIndex_8e157_4 rfl (lv_at hl 0 rfl) ?_
    refine lv_iload_n hx hb dJ3_checkIndex_8e157_5 rfl (lv_at hl 1 rfl) ?_
    refine lv_icmp_lt (tgt := 16) hx hb dJ3_checkIndex_8e157_6 (by decide) (fun c_2 => ?_) (fun c_2 => ?_)
    · rw [if_pos c_2] at hF
      refine lv_iload_n hx hb dJ3_checkIndex_8e157_16 rfl (lv_at hl 0 rfl) ?_
      exact W.iret (v := a0) hx hb hr (fun t ht hW => ⟨_, rfl, Option.some.inj hF, ht⟩) (fun q h => absurd h List.not_mem_nil) dJ3_checkIndex_8e157_17
    · rw [if_neg c_2] at hF
      cases hF
set_option maxHeartbeats 4000000 in
theorem j_chk3R (l : Launch) (Z : gM) (A : Nat → Prop) (q0 : Nat) (a0 : Int32) (a1 : Int32) (r : Int32) (hF : fj_chk3 a0 a1 = some r) : Met l yJ3_checkIndex_8e157 (Cond.code yJ3_checkIndex_8e157 cJ3_checkIndex_8e157 3 (some .int) :: wJ) { frames := 0, cells := 0, slots := 0, locals := 0 } (va_Pc [.int a0, .int a1, .ref q0] (sP Z A)) (vp_Si (fun x : Int32 => x = r)) 0 0 (fun _ => False) := by
  refine Met.ofW (cc := cJ3_checkIndex_8e157) (maxL := 3) (ret := (some .int)) (by decide) rfl ?_
  intro p e s m args below meth c s₁ B hml hv
  obtain ⟨rfl, hE⟩ := hv
  have hr := B.returns
  have hlocks := B.notSynchronized
  have hts := atoms_spec (ws := Cond.code yJ3_checkIndex_8e157 cJ3_checkIndex_8e157 3 (some .int) :: wJ) B.pre
  have hC : jX p c cJ3_checkIndex_8e157 3 s m _ RJ3 Z A := ⟨B.exec, B.bytes, hml, findClass_of_methodNamed B.named, fun w h => hts w (List.mem_cons_of_mem _ h), hE⟩
  have hx := hC.1
  have hb := hC.2.1
  have hl := lv_entry ([.int a0, .int a1, .ref q0]) (n := 3) (Nat.le_of_ble_eq_true rfl)
  rw [lg_entry_eq]
  generalize (lg_sl ([.int a0, .int a1, .ref q0]) ++ List.replicate (3 - (lg_sl ([.int a0, .int a1, .ref q0])).length) Slot.unset).toArray = ls at hl ⊢
  have hl : lv_has ls 3 [(0, .int a0), (1, .int a1), (2, .ref q0)] := hl
  unfold fj_chk3 at hF
  refine lv_iload_n hx hb dJ3_checkIndex_8e157_0 rfl (lv_at hl 0 rfl) ?_
  refine lv_if_lt (tgt := 9) hx hb dJ3_checkIndex_8e157_1 (by decide) (fun c_1 => ?_) (fun c_1 => ?_)
  · rw [if_pos c_1] at hF
    cases hF
  · rw [if_neg c_1] at hF
    refine lv_iload_n hx hb dJ3_checkIndex_8e157_4 rfl (lv_at hl 0 rfl) ?_
    refine lv_iload_n hx hb dJ3_checkIndex_8e157_5 rfl (lv_at hl 1 rfl) ?_
    refine lv_icmp_lt (tgt := 16) hx hb dJ3_checkIndex_8e157_6 (by decide) (fun c_2 => ?_) (fun c_2 => ?_)
    · rw [if_pos c_2] at hF
      refine lv_iload_n hx hb dJ3_checkIndex_8e157_16 rfl (lv_at hl 0 rfl) ?_
      exact W.iret (v := a0) hx hb hr (fun t ht hW => ⟨_, rfl, Option.some.inj hF, ht⟩) (fun q h => absurd h List.not_mem_nil) dJ3_checkIndex_8e157_17
    · rw [if_neg c_2] at hF
      cases hF
def fj_chk (a0 : Int32) (a1 : Int32) : Option Int32 := oi (fj_chk3 a0 a1) (fun r_3 => some 0)
set_option maxHeartbeats 4000000 in
theorem j_chk (l : Launch) (Z : gM) (A : Nat → Prop) (a0 : Int32) (a1 : Int32) (r : Int32) (hF : fj_chk a0 a1 = some r) : Met l yJ0_checkIndex_df160 (Cond.code yJ0_checkIndex_df160 cJ0_checkIndex_df160 2 none :: wJ) { frames := 1, cells := 0, slots := 0, locals := 22 } (va_Pc [.int a0, .int a1] (sP Z A)) (va_Sv (fun _ => True)) 0 0 (fun _ => False) := by
  refine Met.ofW (cc := cJ0_checkIndex_df160) (maxL := 2) (ret := none) (by decide) rfl ?_
  intro p e s m args below meth c s₁ B hml hv
  obtain ⟨rfl, hE⟩ := hv
  have hr := B.returns
  have hlocks := B.notSynchronized
  have hts := atoms_spec (ws := Cond.code yJ0_checkIndex_df160 cJ0_checkIndex_df160 2 none :: wJ) B.pre
  have hC : jX p c cJ0_checkIndex_df160 2 s m _ RJ0 Z A := ⟨B.exec, B.bytes, hml, findClass_of_methodNamed B.named, fun w h => hts w (List.mem_cons_of_mem _ h), hE⟩
  have hx := hC.1
  have hb := hC.2.1
  have hl := lv_entry ([.int a0, .int a1]) (n := 2) (Nat.le_of_ble_eq_true rfl)
  rw [lg_entry_eq]
  generalize (lg_sl ([.int a0, .int a1]) ++ List.replicate (2 - (lg_sl ([.int a0, .int a1])).length) Slot.unset).toArray = ls at hl ⊢
  have hl : lv_has ls 2 [(0, .int a0), (1, .int a1)] := hl
  unfold fj_chk at hF
  refine lv_iload_n hx hb dJ0_checkIndex_df160_0 rfl (lv_at hl 0 rfl) ?_
  refine lv_iload_n hx hb dJ0_checkIndex_df160_1 rfl (lv_at hl 1 rfl) ?_
  have hz9 := hC.2.2.2.2.2.1.2.1
  rcases hC.2.2.2.2.2.1.2.2 with h9 | ⟨q0, h9⟩
  · rw [h9] at hz9
    refine va_gets hx hb hz9 va_S.rf hC.2.2.2.1 (hC.2.2.2.2.1 _ wj8) (fun _ h9 => h9) dJ0_checkIndex_df160_2 ?_
    obtain ⟨r_1, h_2, hF⟩ := oi_some hF
    refine jcS_i (As := [.int a0, .int a1, .null]) (rest := []) hC (j_chk3N l Z A a0 a1 r_1 h_2) ⟨wj9, wj10, wj11, wj12⟩ kSJ3_checkIndex_8e157 ⟨Nat.le_of_ble_eq_true rfl, Nat.le_of_ble_eq_true rfl⟩ rfl hl.1 rfl (Nat.le_of_ble_eq_true rfl) dJ0_checkIndex_df160_5 ?_
    refine lv_pop hx hb dJ0_checkIndex_df160_8 rfl ?_
    exact W.vret hx hb hr (fun t ht hW => ⟨rfl, trivial, ht⟩) (fun q h => absurd h List.not_mem_nil) dJ0_checkIndex_df160_9
  · rw [h9] at hz9
    refine va_gets hx hb hz9 va_S.rf hC.2.2.2.1 (hC.2.2.2.2.1 _ wj8) (fun _ h9 => h9) dJ0_checkIndex_df160_2 ?_
    obtain ⟨r_3, h_4, hF⟩ := oi_some hF
    refine jcS_i (As := [.int a0, .int a1, .ref q0]) (rest := []) hC (j_chk3R l Z A q0 a0 a1 r_3 h_4) ⟨wj9, wj10, wj11, wj12⟩ kSJ3_checkIndex_8e157 ⟨Nat.le_of_ble_eq_true rfl, Nat.le_of_ble_eq_true rfl⟩ rfl hl.1 rfl (Nat.le_of_ble_eq_true rfl) dJ0_checkIndex_df160_5 ?_
    refine lv_pop hx hb dJ0_checkIndex_df160_8 rfl ?_
    exact W.vret hx hb hr (fun t ht hW => ⟨rfl, trivial, ht⟩) (fun q h => absurd h List.not_mem_nil) dJ0_checkIndex_df160_9
def fj_l1charAt (k : Nat) (a1 : Int32) : Option Int32 := oi (fj_chk a1 (Int32.ofNat (sBy k).length)) (fun r_1 => og (gi a1 (sBy k).length) (og (gc (((((sBy k).getD a1.toNatClampNeg 0) &&& 255).toUInt32 % 65536).toInt32)) (some (((((sBy k).getD a1.toNatClampNeg 0) &&& 255).toUInt32 % 65536).toInt32))))
set_option maxHeartbeats 4000000 in
theorem j_l1charAt (l : Launch) (Z : gM) (A : Nat → Prop) (k : Nat) (a1 : Int32) (r : Int32) (hs : k < 38) (hF : fj_l1charAt k a1 = some r) : Met l yJ1_charAt_3b067 (Cond.code yJ1_charAt_3b067 cJ1_charAt_3b067 2 (some .char) :: wJ) { frames := 2, cells := 0, slots := 0, locals := 43 } (va_Pc [.ref (Z.2.1 k), .int a1] (sP Z A)) (vp_Si (fun x : Int32 => x = r)) 0 0 (fun _ => False) := by
  refine Met.ofW (cc := cJ1_charAt_3b067) (maxL := 2) (ret := (some .char)) (by decide) rfl ?_
  intro p e s m args below meth c s₁ B hml hv
  obtain ⟨rfl, hE⟩ := hv
  have hr := B.returns
  have hlocks := B.notSynchronized
  have hts := atoms_spec (ws := Cond.code yJ1_charAt_3b067 cJ1_charAt_3b067 2 (some .char) :: wJ) B.pre
  have hC : jX p c cJ1_charAt_3b067 2 s m _ RJ1 Z A := ⟨B.exec, B.bytes, hml, findClass_of_methodNamed B.named, fun w h => hts w (List.mem_cons_of_mem _ h), hE⟩
  have hx := hC.1
  have hb := hC.2.1
  have hl := lv_entry ([.ref (Z.2.1 k), .int a1]) (n := 2) (Nat.le_of_ble_eq_true rfl)
  rw [lg_entry_eq]
  generalize (lg_sl ([.ref (Z.2.1 k), .int a1]) ++ List.replicate (2 - (lg_sl ([.ref (Z.2.1 k), .int a1])).length) Slot.unset).toArray = ls at hl ⊢
  have hl : lv_has ls 2 [(0, .ref (Z.2.1 k)), (1, .int a1)] := hl
  unfold fj_l1charAt at hF
  refine lv_iload_n hx hb dJ1_charAt_3b067_0 rfl (lv_at hl 1 rfl) ?_
  refine lv_aload_n hx hb dJ1_charAt_3b067_1 rfl (lv_at hl 0 rfl) ?_
  refine va_tlen hx hb (hC.2.2.2.2.2.2.1 k hs).2.2.2 va_S.rf rfl dJ1_charAt_3b067_2 ?_
  obtain ⟨r_1, h_2, hF⟩ := oi_some hF
  refine jcS_v (As := [.int a1, .int (Int32.ofNat (sBy k).length)]) (rest := []) hC (j_chk l Z A a1 (Int32.ofNat (sBy k).length) r_1 h_2) ⟨wj13, wj14, wj15, wj7⟩ kSJ0_checkIndex_df160 ⟨Nat.le_of_ble_eq_true rfl, Nat.le_of_ble_eq_true rfl⟩ rfl hl.1 rfl (Nat.le_of_ble_eq_true rfl) dJ1_charAt_3b067_3 ?_
  refine lv_aload_n hx hb dJ1_charAt_3b067_6 rfl (lv_at hl 0 rfl) ?_
  refine lv_iload_n hx hb dJ1_charAt_3b067_7 rfl (lv_at hl 1 rfl) ?_
  obtain ⟨g_3, hF⟩ := og_some hF
  refine va_tb hx hb (hC.2.2.2.2.2.2.1 k hs).2.2.2 va_S.rf (gi_in g_3) rfl dJ1_charAt_3b067_8 ?_
  refine lv_sipush (v := 255) hx hb dJ1_charAt_3b067_9 (by decide) ?_
  refine lv_iand hx hb dJ1_charAt_3b067_12 ?_
  refine lv_i2c (v := ((((sBy k).getD a1.toNatClampNeg 0) &&& 255).toUInt32 % 65536).toInt32) hx hb dJ1_charAt_3b067_13 rfl ?_
  obtain ⟨g_4, hF⟩ := og_some hF
  exact W.zret (v := (((((sBy k).getD a1.toNatClampNeg 0) &&& 255).toUInt32 % 65536).toInt32)) hx hb hr (gc_nar g_4) (fun t ht hW => ⟨_, rfl, Option.some.inj hF, ht⟩) (fun q h => absurd h List.not_mem_nil) dJ1_charAt_3b067_14
def fj_charAt (k : Nat) (a1 : Int32) : Option Int32 := oi (fj_isLatin1 k) (fun r_1 => (if r_1 = 0 then none else oi (fj_l1charAt k a1) (fun r_4 => og (gc r_4) (some r_4))))
set_option maxHeartbeats 4000000 in
theorem j_charAt (l : Launch) (Z : gM) (A : Nat → Prop) (k : Nat) (a1 : Int32) (r : Int32) (hs : k < 38) (hF : fj_charAt k a1 = some r) : Met l yJ0_charAt_5068e (Cond.code yJ0_charAt_5068e cJ0_charAt_5068e 2 (some .char) :: wJ) { frames := 3, cells := 0, slots := 0, locals := 64 } (va_Pc [.ref (Z.1 k), .int a1] (sP Z A)) (vp_Si (fun x : Int32 => x = r)) 0 0 (fun _ => False) := by
  refine Met.ofW (cc := cJ0_charAt_5068e) (maxL := 2) (ret := (some .char)) (by decide) rfl ?_
  intro p e s m args below meth c s₁ B hml hv
  obtain ⟨rfl, hE⟩ := hv
  have hr := B.returns
  have hlocks := B.notSynchronized
  have hts := atoms_spec (ws := Cond.code yJ0_charAt_5068e cJ0_charAt_5068e 2 (some .char) :: wJ) B.pre
  have hC : jX p c cJ0_charAt_5068e 2 s m _ RJ0 Z A := ⟨B.exec, B.bytes, hml, findClass_of_methodNamed B.named, fun w h => hts w (List.mem_cons_of_mem _ h), hE⟩
  have hx := hC.1
  have hb := hC.2.1
  have hl := lv_entry ([.ref (Z.1 k), .int a1]) (n := 2) (Nat.le_of_ble_eq_true rfl)
  rw [lg_entry_eq]
  generalize (lg_sl ([.ref (Z.1 k), .int a1]) ++ List.replicate (2 - (lg_sl ([.ref (Z.1 k), .int a1])).length) Slot.unset).toArray = ls at hl ⊢
  have hl : lv_has ls 2 [(0, .ref (Z.1 k)), (1, .int a1)] := hl
  unfold fj_charAt at hF
  refine lv_aload_n hx hb dJ0_charAt_5068e_0 rfl (lv_at hl 0 rfl) ?_
  obtain ⟨r_1, h_2, hF⟩ := oi_some hF
  refine jcV_i (As := []) (rest := []) hs hC (j_isLatin1 l Z A k r_1 hs h_2) ⟨wj16, wj17, wj18, wj19, wj7⟩ kVJ0_isLatin1_aae02 ⟨Nat.le_of_ble_eq_true rfl, Nat.le_of_ble_eq_true rfl⟩ rfl hl.1 rfl (Nat.le_of_ble_eq_true rfl) dJ0_charAt_5068e_1 ?_
  refine lv_if_eq (tgt := 16) hx hb dJ0_charAt_5068e_4 (by decide) (fun c_3 => ?_) (fun c_3 => ?_)
  · rw [if_pos c_3] at hF
    cases hF
  · rw [if_neg c_3] at hF
    refine lv_aload_n hx hb dJ0_charAt_5068e_7 rfl (lv_at hl 0 rfl) ?_
    refine vk_getf hx hb (hC.2.2.2.2.2.2.1 k hs).2.2.1 va_S.rf hC.2.2.2.1 (hC.2.2.2.2.1 _ wj2) (fun _ h9 => h9) dJ0_charAt_5068e_8 ?_
    refine lv_iload_n hx hb dJ0_charAt_5068e_11 rfl (lv_at hl 1 rfl) ?_
    obtain ⟨r_4, h_5, hF⟩ := oi_some hF
    refine jcS_i (As := [.ref (Z.2.1 k), .int a1]) (rest := []) hC (j_l1charAt l Z A k a1 r_4 hs h_5) ⟨wj20, wj21, wj22, wj23⟩ kSJ1_charAt_3b067 ⟨Nat.le_of_ble_eq_true rfl, Nat.le_of_ble_eq_true rfl⟩ rfl hl.1 rfl (Nat.le_of_ble_eq_true rfl) dJ0_charAt_5068e_12 ?_
    obtain ⟨g_6, hF⟩ := og_some hF
    exact W.zret (v := r_4) hx hb hr (gc_nar g_6) (fun t ht hW => ⟨_, rfl, Option.some.inj hF, ht⟩) (fun q h => absurd h List.not_mem_nil) dJ0_charAt_5068e_15
def fj_canEncode (a0 : Int32) : Option Int32 := (if a0 < 0 then some 0 else (if 255 < a0 then some 0 else some 1))
set_option maxHeartbeats 4000000 in
theorem j_canEncode (l : Launch) (Z : gM) (A : Nat → Prop) (a0 : Int32) (r : Int32) (hF : fj_canEncode a0 = some r) : Met l yJ1_canEncode_9a6ad (Cond.code yJ1_canEncode_9a6ad cJ1_canEncode_9a6ad 1 (some .boolean) :: wJ) { frames := 0, cells := 0, slots := 0, locals := 0 } (va_Pc [.int a0] (sP Z A)) (vp_Si (fun x : Int32 => x = r)) 0 0 (fun _ => False) := by
  refine Met.ofW (cc := cJ1_canEncode_9a6ad) (maxL := 1) (ret := (some .boolean)) (by decide) rfl ?_
  intro p e s m args below meth c s₁ B hml hv
  obtain ⟨rfl, hE⟩ := hv
  have hr := B.returns
  have hlocks := B.notSynchronized
  have hts := atoms_spec (ws := Cond.code yJ1_canEncode_9a6ad cJ1_canEncode_9a6ad 1 (some .boolean) :: wJ) B.pre
  have hC : jX p c cJ1_canEncode_9a6ad 1 s m _ RJ1 Z A := ⟨B.exec, B.bytes, hml, findClass_of_methodNamed B.named, fun w h => hts w (List.mem_cons_of_mem _ h), hE⟩
  have hx := hC.1
  have hb := hC.2.1
  have hl := lv_entry ([.int a0]) (n := 1) (Nat.le_of_ble_eq_true rfl)
  rw [lg_entry_eq]
  generalize (lg_sl ([.int a0]) ++ List.replicate (1 - (lg_sl ([.int a0])).length) Slot.unset).toArray = ls at hl ⊢
  have hl : lv_has ls 1 [(0, .int a0)] := hl
  unfold fj_canEncode at hF
  refine lv_iload_n hx hb dJ1_canEncode_9a6ad_0 rfl (lv_at hl 0 rfl) ?_
  refine lv_if_lt (tgt := 15) hx hb dJ1_canEncode_9a6ad_1 (by decide) (fun c_1 => ?_) (fun c_1 => ?_)
  · rw [if_pos c_1] at hF
    refine lv_iconst (v := 0) hx hb dJ1_canEncode_9a6ad_15 (by decide) ?_
    exact W.zret (v := 0) hx hb hr rfl (fun t ht hW => ⟨_, rfl, Option.some.inj hF, ht⟩) (fun q h => absurd h List.not_mem_nil) dJ1_canEncode_9a6ad_16
  · rw [if_neg c_1] at hF
    refine lv_iload_n hx hb dJ1_canEncode_9a6ad_4 rfl (lv_at hl 0 rfl) ?_
    refine lv_sipush (v := 255) hx hb dJ1_canEncode_9a6ad_5 (by decide) ?_
    refine lv_icmp_gt (tgt := 15) hx hb dJ1_canEncode_9a6ad_8 (by decide) (fun c_2 => ?_) (fun c_2 => ?_)
    · rw [if_pos c_2] at hF
      refine lv_iconst (v := 0) hx hb dJ1_canEncode_9a6ad_15 (by decide) ?_
      exact W.zret (v := 0) hx hb hr rfl (fun t ht hW => ⟨_, rfl, Option.some.inj hF, ht⟩) (fun q h => absurd h List.not_mem_nil) dJ1_canEncode_9a6ad_16
    · rw [if_neg c_2] at hF
      refine lv_iconst (v := 1) hx hb dJ1_canEncode_9a6ad_11 (by decide) ?_
      refine lv_goto (tgt := 16) hx hb dJ1_canEncode_9a6ad_12 (by decide) ?_
      exact W.zret (v := 1) hx hb hr rfl (fun t ht hW => ⟨_, rfl, Option.some.inj hF, ht⟩) (fun q h => absurd h List.not_mem_nil) dJ1_canEncode_9a6ad_16
def jl_ioc (k : Nat) (a1 a2 a3 v4 : Int32) : Nat → Int32 → Option Int32
  | 0, _ => none
  | n + 1, v5 => (if a3 ≤ v5 then some (-1) else og (gi v5 (sBy k).length) ((if ((sBy k).getD v5.toNatClampNeg 0) = v4 then some v5 else li (v5 + 1) (fun x_6 => jl_ioc k a1 a2 a3 v4 n x_6))))
def fj_ioc (k : Nat) (a1 : Int32) (a2 : Int32) (a3 : Int32) : Option Int32 := li a1.toInt8.toInt32 (fun x_1 => jl_ioc k a1 a2 a3 x_1 fuel a2)
set_option maxHeartbeats 4000000 in
theorem j_ioc (l : Launch) (Z : gM) (A : Nat → Prop) (k : Nat) (a1 : Int32) (a2 : Int32) (a3 : Int32) (r : Int32) (hs : k < 38) (hF : fj_ioc k a1 a2 a3 = some r) : Met l yJ1_indexOfChar_4cfef (Cond.code yJ1_indexOfChar_4cfef cJ1_indexOfChar_4cfef 6 (some .int) :: wJ) { frames := 0, cells := 0, slots := 0, locals := 0 } (va_Pc [.ref (Z.2.1 k), .int a1, .int a2, .int a3] (sP Z A)) (vp_Si (fun x : Int32 => x = r)) 0 0 (fun _ => False) := by
  refine Met.ofW (cc := cJ1_indexOfChar_4cfef) (maxL := 6) (ret := (some .int)) (by decide) rfl ?_
  intro p e s m args below meth c s₁ B hml hv
  obtain ⟨rfl, hE⟩ := hv
  have hr := B.returns
  have hlocks := B.notSynchronized
  have hts := atoms_spec (ws := Cond.code yJ1_indexOfChar_4cfef cJ1_indexOfChar_4cfef 6 (some .int) :: wJ) B.pre
  have hC : jX p c cJ1_indexOfChar_4cfef 6 s m _ RJ1 Z A := ⟨B.exec, B.bytes, hml, findClass_of_methodNamed B.named, fun w h => hts w (List.mem_cons_of_mem _ h), hE⟩
  have hx := hC.1
  have hb := hC.2.1
  have hl := lv_entry ([.ref (Z.2.1 k), .int a1, .int a2, .int a3]) (n := 6) (Nat.le_of_ble_eq_true rfl)
  rw [lg_entry_eq]
  generalize (lg_sl ([.ref (Z.2.1 k), .int a1, .int a2, .int a3]) ++ List.replicate (6 - (lg_sl ([.ref (Z.2.1 k), .int a1, .int a2, .int a3])).length) Slot.unset).toArray = ls at hl ⊢
  have hl : lv_has ls 6 [(0, .ref (Z.2.1 k)), (1, .int a1), (2, .int a2), (3, .int a3)] := hl
  unfold fj_ioc at hF
  refine lv_iload_n hx hb dJ1_indexOfChar_4cfef_0 rfl (lv_at hl 1 rfl) ?_
  refine lv_i2b (v := a1.toInt8.toInt32) hx hb dJ1_indexOfChar_4cfef_1 rfl ?_
  obtain ⟨x_1, e_2, hF⟩ := li_some hF
  refine gx_ti e_2 ?_
  refine lv_istore (lv' := [(4, .int x_1), (0, .ref (Z.2.1 k)), (1, .int a1), (2, .int a2), (3, .int a3)]) hx hb dJ1_indexOfChar_4cfef_2 hl (by decide) rfl (fun ls hl => ?_)
  refine lv_iload_n hx hb dJ1_indexOfChar_4cfef_4 rfl (lv_at hl 3 rfl) ?_
  refine lv_istore (lv' := [(5, .int a2), (4, .int x_1), (0, .ref (Z.2.1 k)), (1, .int a1), (2, .int a2), (3, .int a3)]) hx hb dJ1_indexOfChar_4cfef_5 hl (by decide) rfl (fun ls hl => ?_)
  have hL : ∀ (v4 : Int32) (n : Nat) (v5 : Int32) (ls : Array Slot), lv_has ls 6 [(0, .ref (Z.2.1 k)), (1, .int a1), (2, .int a2), (3, .int a3), (4, .int v4), (5, .int v5)] → jl_ioc k a1 a2 a3 v4 n v5 = some r → W p l e (headSpec (Cond.code yJ1_indexOfChar_4cfef cJ1_indexOfChar_4cfef 6 (some .int) :: wJ) { frames := 0, cells := 0, slots := 0, locals := 0 }).room s m [.ref (Z.2.1 k), .int a1, .int a2, .int a3].toArray below meth c s.heap [] 0 0 (MQ below (vp_Si (fun x : Int32 => x = r)) [.ref (Z.2.1 k), .int a1, .int a2, .int a3].toArray s 0 0 (fun _ => False)) (F0 m 7 ls []) := by
    intro v4 n
    induction n with
    | zero => intro v5 ls hl hF; cases hF
    | succ n ih =>
      intro v5 ls hl hF
      unfold jl_ioc at hF
      refine lv_iload hx hb dJ1_indexOfChar_4cfef_7 (lv_at hl 5 rfl) ?_
      refine lv_iload_n hx hb dJ1_indexOfChar_4cfef_9 rfl (lv_at hl 3 rfl) ?_
      refine lv_icmp_ge (tgt := 31) hx hb dJ1_indexOfChar_4cfef_10 (by decide) (fun c_3 => ?_) (fun c_3 => ?_)
      · rw [if_pos c_3] at hF
        refine lv_iconst (v := (-1)) hx hb dJ1_indexOfChar_4cfef_31 (by decide) ?_
        exact W.iret (v := (-1)) hx hb hr (fun t ht hW => ⟨_, rfl, Option.some.inj hF, ht⟩) (fun q h => absurd h List.not_mem_nil) dJ1_indexOfChar_4cfef_32
      · rw [if_neg c_3] at hF
        refine lv_aload_n hx hb dJ1_indexOfChar_4cfef_13 rfl (lv_at hl 0 rfl) ?_
        refine lv_iload hx hb dJ1_indexOfChar_4cfef_14 (lv_at hl 5 rfl) ?_
        obtain ⟨g_4, hF⟩ := og_some hF
        refine va_tb hx hb (hC.2.2.2.2.2.2.1 k hs).2.2.2 va_S.rf (gi_in g_4) rfl dJ1_indexOfChar_4cfef_16 ?_
        refine lv_iload hx hb dJ1_indexOfChar_4cfef_17 (lv_at hl 4 rfl) ?_
        refine lv_icmp_ne (tgt := 25) hx hb dJ1_indexOfChar_4cfef_19 (by decide) (fun c_5 => ?_) (fun c_5 => ?_)
        · rw [if_neg c_5] at hF
          obtain ⟨x_6, e_7, hF⟩ := li_some hF
          refine lv_iinc (v := x_6) (lv' := [(5, .int x_6), (0, .ref (Z.2.1 k)), (1, .int a1), (2, .int a2), (3, .int a3), (4, .int v4)]) hx hb dJ1_indexOfChar_4cfef_25 hl (k := 5) rfl e_7 (by decide) rfl (fun ls hl => ?_)
          refine lv_goto (tgt := 7) hx hb dJ1_indexOfChar_4cfef_28 (by decide) ?_
          exact ih x_6 _ (lv_sub hl [1, 2, 3, 4, 5, 0] rfl) hF
        · rw [if_pos c_5] at hF
          refine lv_iload hx hb dJ1_indexOfChar_4cfef_22 (lv_at hl 5 rfl) ?_
          exact W.iret (v := v5) hx hb hr (fun t ht hW => ⟨_, rfl, Option.some.inj hF, ht⟩) (fun q h => absurd h List.not_mem_nil) dJ1_indexOfChar_4cfef_24
  exact hL x_1 fuel a2 _ (lv_sub hl [2, 3, 4, 5, 1, 0] rfl) hF
def fj_l1indexOf (k : Nat) (a1 : Int32) (a2 : Int32) (a3 : Int32) : Option Int32 := oi (fj_canEncode a1) (fun r_1 => (if r_1 = 0 then some (-1) else li (if a2 < 0 then 0 else a2) (fun x_4 => li (if (Int32.ofNat (sBy k).length) < a3 then (Int32.ofNat (sBy k).length) else a3) (fun x_6 => (if x_4 < x_6 then oi (fj_ioc k a1 x_4 x_6) (fun r_9 => some r_9) else some (-1))))))
set_option maxHeartbeats 4000000 in
theorem j_l1indexOf (l : Launch) (Z : gM) (A : Nat → Prop) (k : Nat) (a1 : Int32) (a2 : Int32) (a3 : Int32) (r : Int32) (hs : k < 38) (hF : fj_l1indexOf k a1 a2 a3 = some r) : Met l yJ1_indexOf_4cfef (Cond.code yJ1_indexOf_4cfef cJ1_indexOf_4cfef 4 (some .int) :: wJ) { frames := 1, cells := 0, slots := 0, locals := 25 } (va_Pc [.ref (Z.2.1 k), .int a1, .int a2, .int a3] (sP Z A)) (vp_Si (fun x : Int32 => x = r)) 0 0 (fun _ => False) := by
  refine Met.ofW (cc := cJ1_indexOf_4cfef) (maxL := 4) (ret := (some .int)) (by decide) rfl ?_
  intro p e s m args below meth c s₁ B hml hv
  obtain ⟨rfl, hE⟩ := hv
  have hr := B.returns
  have hlocks := B.notSynchronized
  have hts := atoms_spec (ws := Cond.code yJ1_indexOf_4cfef cJ1_indexOf_4cfef 4 (some .int) :: wJ) B.pre
  have hC : jX p c cJ1_indexOf_4cfef 4 s m _ RJ1 Z A := ⟨B.exec, B.bytes, hml, findClass_of_methodNamed B.named, fun w h => hts w (List.mem_cons_of_mem _ h), hE⟩
  have hx := hC.1
  have hb := hC.2.1
  have hl := lv_entry ([.ref (Z.2.1 k), .int a1, .int a2, .int a3]) (n := 4) (Nat.le_of_ble_eq_true rfl)
  rw [lg_entry_eq]
  generalize (lg_sl ([.ref (Z.2.1 k), .int a1, .int a2, .int a3]) ++ List.replicate (4 - (lg_sl ([.ref (Z.2.1 k), .int a1, .int a2, .int a3])).length) Slot.unset).toArray = ls at hl ⊢
  have hl : lv_has ls 4 [(0, .ref (Z.2.1 k)), (1, .int a1), (2, .int a2), (3, .int a3)] := hl
  unfold fj_l1indexOf at hF
  refine lv_iload_n hx hb dJ1_indexOf_4cfef_0 rfl (lv_at hl 1 rfl) ?_
  obtain ⟨r_1, h_2, hF⟩ := oi_some hF
  refine jcS_i (As := [.int a1]) (rest := []) hC (j_canEncode l Z A a1 r_1 h_2) ⟨wj24, wj25, wj26, wj23⟩ kSJ1_canEncode_9a6ad ⟨Nat.le_of_ble_eq_true rfl, Nat.le_of_ble_eq_true rfl⟩ rfl hl.1 rfl (Nat.le_of_ble_eq_true rfl) dJ1_indexOf_4cfef_1 ?_
  refine lv_if_ne (tgt := 9) hx hb dJ1_indexOf_4cfef_4 (by decide) (fun c_3 => ?_) (fun c_3 => ?_)
  · rw [if_neg c_3] at hF
    refine lv_iload_n hx hb dJ1_indexOf_4cfef_9 rfl (lv_at hl 2 rfl) ?_
    refine lv_iconst (v := 0) hx hb dJ1_indexOf_4cfef_10 (by decide) ?_
    refine va_mmax hx hb (hC.2.2.1.trans hl.1.symm) hC.2.2.2.1 (hC.2.2.2.2.1 _ wj27) (hC.2.2.2.2.1 _ wj28) (hC.2.2.2.2.1 _ wj29) (hC.2.2.2.2.1 _ wj30) (Nat.le_of_ble_eq_true rfl) (Nat.le_of_ble_eq_true rfl) (Nat.le_of_ble_eq_true rfl) (Nat.le_of_ble_eq_true rfl) dJ1_indexOf_4cfef_11 ?_
    obtain ⟨x_4, e_5, hF⟩ := li_some hF
    refine gx_ti e_5 ?_
    refine lv_istore_n (lv' := [(2, .int x_4), (0, .ref (Z.2.1 k)), (1, .int a1), (3, .int a3)]) hx hb dJ1_indexOf_4cfef_14 rfl hl (by decide) rfl (fun ls hl => ?_)
    refine lv_iload_n hx hb dJ1_indexOf_4cfef_15 rfl (lv_at hl 3 rfl) ?_
    refine lv_aload_n hx hb dJ1_indexOf_4cfef_16 rfl (lv_at hl 1 rfl) ?_
    refine va_tlen hx hb (hC.2.2.2.2.2.2.1 k hs).2.2.2 va_S.rf rfl dJ1_indexOf_4cfef_17 ?_
    refine va_mmin hx hb (hC.2.2.1.trans hl.1.symm) hC.2.2.2.1 (hC.2.2.2.2.1 _ wj31) (hC.2.2.2.2.1 _ wj32) (hC.2.2.2.2.1 _ wj29) (hC.2.2.2.2.1 _ wj33) (Nat.le_of_ble_eq_true rfl) (Nat.le_of_ble_eq_true rfl) (Nat.le_of_ble_eq_true rfl) (Nat.le_of_ble_eq_true rfl) dJ1_indexOf_4cfef_18 ?_
    obtain ⟨x_6, e_7, hF⟩ := li_some hF
    refine gx_ti e_7 ?_
    refine lv_istore_n (lv' := [(3, .int x_6), (2, .int x_4), (0, .ref (Z.2.1 k)), (1, .int a1)]) hx hb dJ1_indexOf_4cfef_21 rfl hl (by decide) rfl (fun ls hl => ?_)
    refine lv_iload_n hx hb dJ1_indexOf_4cfef_22 rfl (lv_at hl 1 rfl) ?_
    refine lv_iload_n hx hb dJ1_indexOf_4cfef_23 rfl (lv_at hl 0 rfl) ?_
    refine lv_icmp_lt (tgt := 29) hx hb dJ1_indexOf_4cfef_24 (by decide) (fun c_8 => ?_) (fun c_8 => ?_)
    · rw [if_pos c_8] at hF
      refine lv_aload_n hx hb dJ1_indexOf_4cfef_29 rfl (lv_at hl 2 rfl) ?_
      refine lv_iload_n hx hb dJ1_indexOf_4cfef_30 rfl (lv_at hl 3 rfl) ?_
      refine lv_iload_n hx hb dJ1_indexOf_4cfef_31 rfl (lv_at hl 1 rfl) ?_
      refine lv_iload_n hx hb dJ1_indexOf_4cfef_32 rfl (lv_at hl 0 rfl) ?_
      obtain ⟨r_9, h_10, hF⟩ := oi_some hF
      refine jcS_i (As := [.ref (Z.2.1 k), .int a1, .int x_4, .int x_6]) (rest := []) hC (j_ioc l Z A k a1 x_4 x_6 r_9 hs h_10) ⟨wj34, wj35, wj36, wj23⟩ kSJ1_indexOfChar_4cfef ⟨Nat.le_of_ble_eq_true rfl, Nat.le_of_ble_eq_true rfl⟩ rfl hl.1 rfl (Nat.le_of_ble_eq_true rfl) dJ1_indexOf_4cfef_33 ?_
      exact W.iret (v := r_9) hx hb hr (fun t ht hW => ⟨_, rfl, Option.some.inj hF, ht⟩) (fun q h => absurd h List.not_mem_nil) dJ1_indexOf_4cfef_36
    · rw [if_neg c_8] at hF
      refine lv_iconst (v := (-1)) hx hb dJ1_indexOf_4cfef_27 (by decide) ?_
      exact W.iret (v := (-1)) hx hb hr (fun t ht hW => ⟨_, rfl, Option.some.inj hF, ht⟩) (fun q h => absurd h List.not_mem_nil) dJ1_indexOf_4cfef_28
  · rw [if_pos c_3] at hF
    refine lv_iconst (v := (-1)) hx hb dJ1_indexOf_4cfef_7 (by decide) ?_
    exact W.iret (v := (-1)) hx hb hr (fun t ht hW => ⟨_, rfl, Option.some.inj hF, ht⟩) (fun q h => absurd h List.not_mem_nil) dJ1_indexOf_4cfef_8
def fj_indexOf2 (k : Nat) (a1 : Int32) (a2 : Int32) : Option Int32 := oi (fj_isLatin1 k) (fun r_1 => (if r_1 = 0 then none else oi (fj_len k) (fun r_4 => oi (fj_l1indexOf k a1 a2 r_4) (fun r_6 => some r_6))))
set_option maxHeartbeats 4000000 in
theorem j_indexOf2 (l : Launch) (Z : gM) (A : Nat → Prop) (k : Nat) (a1 : Int32) (a2 : Int32) (r : Int32) (hs : k < 38) (hF : fj_indexOf2 k a1 a2 = some r) : Met l yJ0_indexOf_7cf53 (Cond.code yJ0_indexOf_7cf53 cJ0_indexOf_7cf53 3 (some .int) :: wJ) { frames := 2, cells := 0, slots := 0, locals := 48 } (va_Pc [.ref (Z.1 k), .int a1, .int a2] (sP Z A)) (vp_Si (fun x : Int32 => x = r)) 0 0 (fun _ => False) := by
  refine Met.ofW (cc := cJ0_indexOf_7cf53) (maxL := 3) (ret := (some .int)) (by decide) rfl ?_
  intro p e s m args below meth c s₁ B hml hv
  obtain ⟨rfl, hE⟩ := hv
  have hr := B.returns
  have hlocks := B.notSynchronized
  have hts := atoms_spec (ws := Cond.code yJ0_indexOf_7cf53 cJ0_indexOf_7cf53 3 (some .int) :: wJ) B.pre
  have hC : jX p c cJ0_indexOf_7cf53 3 s m _ RJ0 Z A := ⟨B.exec, B.bytes, hml, findClass_of_methodNamed B.named, fun w h => hts w (List.mem_cons_of_mem _ h), hE⟩
  have hx := hC.1
  have hb := hC.2.1
  have hl := lv_entry ([.ref (Z.1 k), .int a1, .int a2]) (n := 3) (Nat.le_of_ble_eq_true rfl)
  rw [lg_entry_eq]
  generalize (lg_sl ([.ref (Z.1 k), .int a1, .int a2]) ++ List.replicate (3 - (lg_sl ([.ref (Z.1 k), .int a1, .int a2])).length) Slot.unset).toArray = ls at hl ⊢
  have hl : lv_has ls 3 [(0, .ref (Z.1 k)), (1, .int a1), (2, .int a2)] := hl
  unfold fj_indexOf2 at hF
  refine lv_aload_n hx hb dJ0_indexOf_7cf53_0 rfl (lv_at hl 0 rfl) ?_
  obtain ⟨r_1, h_2, hF⟩ := oi_some hF
  refine jcV_i (As := []) (rest := []) hs hC (j_isLatin1 l Z A k r_1 hs h_2) ⟨wj16, wj17, wj18, wj19, wj7⟩ kVJ0_isLatin1_aae02 ⟨Nat.le_of_ble_eq_true rfl, Nat.le_of_ble_eq_true rfl⟩ rfl hl.1 rfl (Nat.le_of_ble_eq_true rfl) dJ0_indexOf_7cf53_1 ?_
  refine lv_if_eq (tgt := 23) hx hb dJ0_indexOf_7cf53_4 (by decide) (fun c_3 => ?_) (fun c_3 => ?_)
  · rw [if_pos c_3] at hF
    cases hF
  · rw [if_neg c_3] at hF
    refine lv_aload_n hx hb dJ0_indexOf_7cf53_7 rfl (lv_at hl 0 rfl) ?_
    refine vk_getf hx hb (hC.2.2.2.2.2.2.1 k hs).2.2.1 va_S.rf hC.2.2.2.1 (hC.2.2.2.2.1 _ wj2) (fun _ h9 => h9) dJ0_indexOf_7cf53_8 ?_
    refine lv_iload_n hx hb dJ0_indexOf_7cf53_11 rfl (lv_at hl 1 rfl) ?_
    refine lv_iload_n hx hb dJ0_indexOf_7cf53_12 rfl (lv_at hl 2 rfl) ?_
    refine lv_aload_n hx hb dJ0_indexOf_7cf53_13 rfl (lv_at hl 0 rfl) ?_
    obtain ⟨r_4, h_5, hF⟩ := oi_some hF
    refine jcV_i (As := []) (rest := [.int a2, .int a1, .ref (Z.2.1 k)]) hs hC (j_len l Z A k r_4 hs h_5) ⟨wj37, wj38, wj39, wj40, wj7⟩ kVJ0_length_8abf5 ⟨Nat.le_of_ble_eq_true rfl, Nat.le_of_ble_eq_true rfl⟩ rfl hl.1 rfl (Nat.le_of_ble_eq_true rfl) dJ0_indexOf_7cf53_14 ?_
    obtain ⟨r_6, h_7, hF⟩ := oi_some hF
    refine jcS_i (As := [.ref (Z.2.1 k), .int a1, .int a2, .int r_4]) (rest := []) hC (j_l1indexOf l Z A k a1 a2 r_4 r_6 hs h_7) ⟨wj41, wj42, wj43, wj23⟩ kSJ1_indexOf_4cfef ⟨Nat.le_of_ble_eq_true rfl, Nat.le_of_ble_eq_true rfl⟩ rfl hl.1 rfl (Nat.le_of_ble_eq_true rfl) dJ0_indexOf_7cf53_17 ?_
    refine lv_goto (tgt := 36) hx hb dJ0_indexOf_7cf53_20 (by decide) ?_
    exact W.iret (v := r_6) hx hb hr (fun t ht hW => ⟨_, rfl, Option.some.inj hF, ht⟩) (fun q h => absurd h List.not_mem_nil) dJ0_indexOf_7cf53_36
def fj_indexOf (k : Nat) (a1 : Int32) : Option Int32 := oi (fj_indexOf2 k a1 0) (fun r_1 => some r_1)
set_option maxHeartbeats 4000000 in
theorem j_indexOf (l : Launch) (Z : gM) (A : Nat → Prop) (k : Nat) (a1 : Int32) (r : Int32) (hs : k < 38) (hF : fj_indexOf k a1 = some r) : Met l yJ0_indexOf_0f7a4 (Cond.code yJ0_indexOf_0f7a4 cJ0_indexOf_0f7a4 2 (some .int) :: wJ) { frames := 3, cells := 0, slots := 0, locals := 70 } (va_Pc [.ref (Z.1 k), .int a1] (sP Z A)) (vp_Si (fun x : Int32 => x = r)) 0 0 (fun _ => False) := by
  refine Met.ofW (cc := cJ0_indexOf_0f7a4) (maxL := 2) (ret := (some .int)) (by decide) rfl ?_
  intro p e s m args below meth c s₁ B hml hv
  obtain ⟨rfl, hE⟩ := hv
  have hr := B.returns
  have hlocks := B.notSynchronized
  have hts := atoms_spec (ws := Cond.code yJ0_indexOf_0f7a4 cJ0_indexOf_0f7a4 2 (some .int) :: wJ) B.pre
  have hC : jX p c cJ0_indexOf_0f7a4 2 s m _ RJ0 Z A := ⟨B.exec, B.bytes, hml, findClass_of_methodNamed B.named, fun w h => hts w (List.mem_cons_of_mem _ h), hE⟩
  have hx := hC.1
  have hb := hC.2.1
  have hl := lv_entry ([.ref (Z.1 k), .int a1]) (n := 2) (Nat.le_of_ble_eq_true rfl)
  rw [lg_entry_eq]
  generalize (lg_sl ([.ref (Z.1 k), .int a1]) ++ List.replicate (2 - (lg_sl ([.ref (Z.1 k), .int a1])).length) Slot.unset).toArray = ls at hl ⊢
  have hl : lv_has ls 2 [(0, .ref (Z.1 k)), (1, .int a1)] := hl
  unfold fj_indexOf at hF
  refine lv_aload_n hx hb dJ0_indexOf_0f7a4_0 rfl (lv_at hl 0 rfl) ?_
  refine lv_iload_n hx hb dJ0_indexOf_0f7a4_1 rfl (lv_at hl 1 rfl) ?_
  refine lv_iconst (v := 0) hx hb dJ0_indexOf_0f7a4_2 (by decide) ?_
  obtain ⟨r_1, h_2, hF⟩ := oi_some hF
  refine jcV_i (As := [.int a1, .int 0]) (rest := []) hs hC (j_indexOf2 l Z A k a1 0 r_1 hs h_2) ⟨wj44, wj45, wj46, wj47, wj7⟩ kVJ0_indexOf_7cf53 ⟨Nat.le_of_ble_eq_true rfl, Nat.le_of_ble_eq_true rfl⟩ rfl hl.1 rfl (Nat.le_of_ble_eq_true rfl) dJ0_indexOf_0f7a4_3 ?_
  exact W.iret (v := r_1) hx hb hr (fun t ht hW => ⟨_, rfl, Option.some.inj hF, ht⟩) (fun q h => absurd h List.not_mem_nil) dJ0_indexOf_0f7a4_6
end
