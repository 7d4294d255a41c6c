theorem dX5_signOfToken_0 : decode cX5_signOfToken 0 = .ok (.iconst 0, 1) := by decide +kernel
theorem dX5_signOfToken_1 : decode cX5_signOfToken 1 = .ok (.istore_n 1, 1) := by decide +kernel
theorem dX5_signOfToken_2 : decode cX5_signOfToken 2 = .ok (.iload_n 1, 1) := by decide +kernel
theorem dX5_signOfToken_3 : decode cX5_signOfToken 3 = .ok (.aload_n 0, 1) := by decide +kernel
theorem dX5_signOfToken_4 : decode cX5_signOfToken 4 = .ok (.getfield 33, 3) := by decide +kernel
theorem dX5_signOfToken_7 : decode cX5_signOfToken 7 = .ok (.getfield 130, 3) := by decide +kernel
theorem dX5_signOfToken_10 : decode cX5_signOfToken 10 = .ok (.if_icmp .ge 37, 3) := by decide +kernel
theorem dX5_signOfToken_13 : decode cX5_signOfToken 13 = .ok (.aload_n 0, 1) := by decide +kernel
theorem dX5_signOfToken_14 : decode cX5_signOfToken 14 = .ok (.getfield 9, 3) := by decide +kernel
theorem dX5_signOfToken_17 : decode cX5_signOfToken 17 = .ok (.aload_n 0, 1) := by decide +kernel
theorem dX5_signOfToken_18 : decode cX5_signOfToken 18 = .ok (.getfield 22, 3) := by decide +kernel
theorem dX5_signOfToken_21 : decode cX5_signOfToken 21 = .ok (.iload_n 1, 1) := by decide +kernel
theorem dX5_signOfToken_22 : decode cX5_signOfToken 22 = .ok (.invokevirtual 152, 3) := by decide +kernel
theorem dX5_signOfToken_25 : decode cX5_signOfToken 25 = .ok (.aload_n 0, 1) := by decide +kernel
theorem dX5_signOfToken_26 : decode cX5_signOfToken 26 = .ok (.getfield 26, 3) := by decide +kernel
theorem dX5_signOfToken_29 : decode cX5_signOfToken 29 = .ok (.iload_n 1, 1) := by decide +kernel
theorem dX5_signOfToken_30 : decode cX5_signOfToken 30 = .ok (.invokevirtual 152, 3) := by decide +kernel
theorem dX5_signOfToken_33 : decode cX5_signOfToken 33 = .ok (.invokevirtual 156, 3) := by decide +kernel
theorem dX5_signOfToken_36 : decode cX5_signOfToken 36 = .ok (.ifCond .eq 5, 3) := by decide +kernel
theorem dX5_signOfToken_39 : decode cX5_signOfToken 39 = .ok (.iload_n 1, 1) := by decide +kernel
theorem dX5_signOfToken_40 : decode cX5_signOfToken 40 = .ok (.ireturn, 1) := by decide +kernel
theorem dX5_signOfToken_41 : decode cX5_signOfToken 41 = .ok (.iinc 1 1, 3) := by decide +kernel
theorem dX5_signOfToken_44 : decode cX5_signOfToken 44 = .ok (.goto (-42), 3) := by decide +kernel
theorem dX5_signOfToken_47 : decode cX5_signOfToken 47 = .ok (.iconst (-1), 1) := by decide +kernel
theorem dX5_signOfToken_48 : decode cX5_signOfToken 48 = .ok (.ireturn, 1) := by decide +kernel
theorem kSX5_signOfToken : yX5_signOfToken.cls ≠ "java/lang/invoke/MethodHandle" ∧ yX5_signOfToken.cls ≠ "java/lang/invoke/VarHandle" ∧ (parseMethodDescriptor yX5_signOfToken.desc).map (fun d => d.parameters.length) = some 0 := by decide +kernel
theorem kVX5_signOfToken : yX5_signOfToken.cls = RX5 ∧ yX5_signOfToken.cls ≠ "java/lang/invoke/MethodHandle" ∧ yX5_signOfToken.cls ≠ "java/lang/invoke/VarHandle" ∧ (parseMethodDescriptor yX5_signOfToken.desc).map (fun d => d.parameters.length) = some 0 := ⟨rfl, kSX5_signOfToken⟩
theorem dX5_takeTerm_0 : decode cX5_takeTerm 0 = .ok (.iload_n 1, 1) := by decide +kernel
theorem dX5_takeTerm_1 : decode cX5_takeTerm 1 = .ok (.bipush 14, 2) := by decide +kernel
theorem dX5_takeTerm_3 : decode cX5_takeTerm 3 = .ok (.if_icmp .eq 9, 3) := by decide +kernel
theorem dX5_takeTerm_6 : decode cX5_takeTerm 6 = .ok (.iload_n 1, 1) := by decide +kernel
theorem dX5_takeTerm_7 : decode cX5_takeTerm 7 = .ok (.bipush 15, 2) := by decide +kernel
theorem dX5_takeTerm_9 : decode cX5_takeTerm 9 = .ok (.if_icmp .ne 17, 3) := by decide +kernel
theorem dX5_takeTerm_12 : decode cX5_takeTerm 12 = .ok (.aload_n 0, 1) := by decide +kernel
theorem dX5_takeTerm_13 : decode cX5_takeTerm 13 = .ok (.bipush 14, 2) := by decide +kernel
theorem dX5_takeTerm_15 : decode cX5_takeTerm 15 = .ok (.invokevirtual 163, 3) := by decide +kernel
theorem dX5_takeTerm_18 : decode cX5_takeTerm 18 = .ok (.aload_n 0, 1) := by decide +kernel
theorem dX5_takeTerm_19 : decode cX5_takeTerm 19 = .ok (.iload_n 1, 1) := by decide +kernel
theorem dX5_takeTerm_20 : decode cX5_takeTerm 20 = .ok (.putfield 181, 3) := by decide +kernel
theorem dX5_takeTerm_23 : decode cX5_takeTerm 23 = .ok (.goto 49, 3) := by decide +kernel
theorem dX5_takeTerm_26 : decode cX5_takeTerm 26 = .ok (.iload_n 1, 1) := by decide +kernel
theorem dX5_takeTerm_27 : decode cX5_takeTerm 27 = .ok (.bipush 16, 2) := by decide +kernel
theorem dX5_takeTerm_29 : decode cX5_takeTerm 29 = .ok (.if_icmp .eq 8, 3) := by decide +kernel
theorem dX5_takeTerm_32 : decode cX5_takeTerm 32 = .ok (.iload_n 1, 1) := by decide +kernel
theorem dX5_takeTerm_33 : decode cX5_takeTerm 33 = .ok (.iconst 3, 1) := by decide +kernel
theorem dX5_takeTerm_34 : decode cX5_takeTerm 34 = .ok (.if_icmp .ne 33, 3) := by decide +kernel
theorem dX5_takeTerm_37 : decode cX5_takeTerm 37 = .ok (.aload_n 0, 1) := by decide +kernel
theorem dX5_takeTerm_38 : decode cX5_takeTerm 38 = .ok (.bipush 15, 2) := by decide +kernel
theorem dX5_takeTerm_40 : decode cX5_takeTerm 40 = .ok (.invokevirtual 163, 3) := by decide +kernel
theorem dX5_takeTerm_43 : decode cX5_takeTerm 43 = .ok (.aload_n 0, 1) := by decide +kernel
theorem dX5_takeTerm_44 : decode cX5_takeTerm 44 = .ok (.iload_n 1, 1) := by decide +kernel
theorem dX5_takeTerm_45 : decode cX5_takeTerm 45 = .ok (.iload_n 1, 1) := by decide +kernel
theorem dX5_takeTerm_46 : decode cX5_takeTerm 46 = .ok (.iconst 3, 1) := by decide +kernel
theorem dX5_takeTerm_47 : decode cX5_takeTerm 47 = .ok (.if_icmp .ne 13, 3) := by decide +kernel
theorem dX5_takeTerm_50 : decode cX5_takeTerm 50 = .ok (.aload_n 0, 1) := by decide +kernel
theorem dX5_takeTerm_51 : decode cX5_takeTerm 51 = .ok (.getfield 9, 3) := by decide +kernel
theorem dX5_takeTerm_54 : decode cX5_takeTerm 54 = .ok (.getfield 121, 3) := by decide +kernel
theorem dX5_takeTerm_57 : decode cX5_takeTerm 57 = .ok (.goto 4, 3) := by decide +kernel
theorem dX5_takeTerm_60 : decode cX5_takeTerm 60 = .ok (.iconst 0, 1) := by decide +kernel
theorem dX5_takeTerm_61 : decode cX5_takeTerm 61 = .ok (.invokevirtual 184, 3) := by decide +kernel
theorem dX5_takeTerm_64 : decode cX5_takeTerm 64 = .ok (.goto 8, 3) := by decide +kernel
theorem dX5_takeTerm_67 : decode cX5_takeTerm 67 = .ok (.aload_n 0, 1) := by decide +kernel
theorem dX5_takeTerm_68 : decode cX5_takeTerm 68 = .ok (.iconst 1, 1) := by decide +kernel
theorem dX5_takeTerm_69 : decode cX5_takeTerm 69 = .ok (.invokevirtual 118, 3) := by decide +kernel
theorem dX5_takeTerm_72 : decode cX5_takeTerm 72 = .ok (.return_, 1) := by decide +kernel
theorem kSX5_takeTerm : yX5_takeTerm.cls ≠ "java/lang/invoke/MethodHandle" ∧ yX5_takeTerm.cls ≠ "java/lang/invoke/VarHandle" ∧ (parseMethodDescriptor yX5_takeTerm.desc).map (fun d => d.parameters.length) = some 1 := by decide +kernel
theorem kVX5_takeTerm : yX5_takeTerm.cls = RX5 ∧ yX5_takeTerm.cls ≠ "java/lang/invoke/MethodHandle" ∧ yX5_takeTerm.cls ≠ "java/lang/invoke/VarHandle" ∧ (parseMethodDescriptor yX5_takeTerm.desc).map (fun d => d.parameters.length) = some 1 := ⟨rfl, kSX5_takeTerm⟩
theorem dX5_takeTermName_0 : decode cX5_takeTermName 0 = .ok (.iload_n 1, 1) := by decide +kernel
theorem dX5_takeTermName_1 : decode cX5_takeTermName 1 = .ok (.iconst 2, 1) := by decide +kernel
theorem dX5_takeTermName_2 : decode cX5_takeTermName 2 = .ok (.if_icmp .eq 11, 3) := by decide +kernel
theorem dX5_takeTermName_5 : decode cX5_takeTermName 5 = .ok (.aload_n 0, 1) := by decide +kernel
theorem dX5_takeTermName_6 : decode cX5_takeTermName 6 = .ok (.iconst 1, 1) := by decide +kernel
theorem dX5_takeTermName_7 : decode cX5_takeTermName 7 = .ok (.invokevirtual 118, 3) := by decide +kernel
theorem dX5_takeTermName_10 : decode cX5_takeTermName 10 = .ok (.goto 37, 3) := by decide +kernel
theorem dX5_takeTermName_13 : decode cX5_takeTermName 13 = .ok (.aload_n 0, 1) := by decide +kernel
theorem dX5_takeTermName_14 : decode cX5_takeTermName 14 = .ok (.invokevirtual 145, 3) := by decide +kernel
theorem dX5_takeTermName_17 : decode cX5_takeTermName 17 = .ok (.iconst (-1), 1) := by decide +kernel
theorem dX5_takeTermName_18 : decode cX5_takeTermName 18 = .ok (.if_icmp .ne 11, 3) := by decide +kernel
theorem dX5_takeTermName_21 : decode cX5_takeTermName 21 = .ok (.aload_n 0, 1) := by decide +kernel
theorem dX5_takeTermName_22 : decode cX5_takeTermName 22 = .ok (.iconst 2, 1) := by decide +kernel
theorem dX5_takeTermName_23 : decode cX5_takeTermName 23 = .ok (.invokevirtual 118, 3) := by decide +kernel
theorem dX5_takeTermName_26 : decode cX5_takeTermName 26 = .ok (.goto 21, 3) := by decide +kernel
theorem dX5_takeTermName_29 : decode cX5_takeTermName 29 = .ok (.aload_n 0, 1) := by decide +kernel
theorem dX5_takeTermName_30 : decode cX5_takeTermName 30 = .ok (.aload_n 0, 1) := by decide +kernel
theorem dX5_takeTermName_31 : decode cX5_takeTermName 31 = .ok (.getfield 181, 3) := by decide +kernel
theorem dX5_takeTermName_34 : decode cX5_takeTermName 34 = .ok (.aload_n 0, 1) := by decide +kernel
theorem dX5_takeTermName_35 : decode cX5_takeTermName 35 = .ok (.invokevirtual 145, 3) := by decide +kernel
theorem dX5_takeTermName_38 : decode cX5_takeTermName 38 = .ok (.invokevirtual 184, 3) := by decide +kernel
theorem dX5_takeTermName_41 : decode cX5_takeTermName 41 = .ok (.aload_n 0, 1) := by decide +kernel
theorem dX5_takeTermName_42 : decode cX5_takeTermName 42 = .ok (.bipush 15, 2) := by decide +kernel
theorem dX5_takeTermName_44 : decode cX5_takeTermName 44 = .ok (.putfield 52, 3) := by decide +kernel
theorem dX5_takeTermName_47 : decode cX5_takeTermName 47 = .ok (.return_, 1) := by decide +kernel
theorem kSX5_takeTermName : yX5_takeTermName.cls ≠ "java/lang/invoke/MethodHandle" ∧ yX5_takeTermName.cls ≠ "java/lang/invoke/VarHandle" ∧ (parseMethodDescriptor yX5_takeTermName.desc).map (fun d => d.parameters.length) = some 1 := by decide +kernel
theorem kVX5_takeTermName : yX5_takeTermName.cls = RX5 ∧ yX5_takeTermName.cls ≠ "java/lang/invoke/MethodHandle" ∧ yX5_takeTermName.cls ≠ "java/lang/invoke/VarHandle" ∧ (parseMethodDescriptor yX5_takeTermName.desc).map (fun d => d.parameters.length) = some 1 := ⟨rfl, kSX5_takeTermName⟩
theorem dX5_takeSignOrLine_0 : decode cX5_takeSignOrLine 0 = .ok (.iload_n 1, 1) := by decide +kernel
theorem dX5_takeSignOrLine_1 : decode cX5_takeSignOrLine 1 = .ok (.ifCond .ne 12, 3) := by decide +kernel
theorem dX5_takeSignOrLine_4 : decode cX5_takeSignOrLine 4 = .ok (.aload_n 0, 1) := by decide +kernel
theorem dX5_takeSignOrLine_5 : decode cX5_takeSignOrLine 5 = .ok (.bipush 17, 2) := by decide +kernel
theorem dX5_takeSignOrLine_7 : decode cX5_takeSignOrLine 7 = .ok (.putfield 52, 3) := by decide +kernel
theorem dX5_takeSignOrLine_10 : decode cX5_takeSignOrLine 10 = .ok (.goto 99, 3) := by decide +kernel
theorem dX5_takeSignOrLine_13 : decode cX5_takeSignOrLine 13 = .ok (.iload_n 1, 1) := by decide +kernel
theorem dX5_takeSignOrLine_14 : decode cX5_takeSignOrLine 14 = .ok (.bipush 6, 2) := by decide +kernel
theorem dX5_takeSignOrLine_16 : decode cX5_takeSignOrLine 16 = .ok (.if_icmp .ne 38, 3) := by decide +kernel
theorem dX5_takeSignOrLine_19 : decode cX5_takeSignOrLine 19 = .ok (.aload_n 0, 1) := by decide +kernel
theorem dX5_takeSignOrLine_20 : decode cX5_takeSignOrLine 20 = .ok (.getfield 52, 3) := by decide +kernel
theorem dX5_takeSignOrLine_23 : decode cX5_takeSignOrLine 23 = .ok (.bipush 6, 2) := by decide +kernel
theorem dX5_takeSignOrLine_25 : decode cX5_takeSignOrLine 25 = .ok (.if_icmp .ne 29, 3) := by decide +kernel
theorem dX5_takeSignOrLine_28 : decode cX5_takeSignOrLine 28 = .ok (.aload_n 0, 1) := by decide +kernel
theorem dX5_takeSignOrLine_29 : decode cX5_takeSignOrLine 29 = .ok (.aload_n 0, 1) := by decide +kernel
theorem dX5_takeSignOrLine_30 : decode cX5_takeSignOrLine 30 = .ok (.getfield 33, 3) := by decide +kernel
theorem dX5_takeSignOrLine_33 : decode cX5_takeSignOrLine 33 = .ok (.getfield 130, 3) := by decide +kernel
theorem dX5_takeSignOrLine_36 : decode cX5_takeSignOrLine 36 = .ok (.bipush 8, 2) := by decide +kernel
theorem dX5_takeSignOrLine_38 : decode cX5_takeSignOrLine 38 = .ok (.if_icmp .ge 7, 3) := by decide +kernel
theorem dX5_takeSignOrLine_41 : decode cX5_takeSignOrLine 41 = .ok (.iconst 1, 1) := by decide +kernel
theorem dX5_takeSignOrLine_42 : decode cX5_takeSignOrLine 42 = .ok (.goto 4, 3) := by decide +kernel
theorem dX5_takeSignOrLine_45 : decode cX5_takeSignOrLine 45 = .ok (.iconst 0, 1) := by decide +kernel
theorem dX5_takeSignOrLine_46 : decode cX5_takeSignOrLine 46 = .ok (.bipush 7, 2) := by decide +kernel
theorem dX5_takeSignOrLine_48 : decode cX5_takeSignOrLine 48 = .ok (.invokevirtual 133, 3) := by decide +kernel
theorem dX5_takeSignOrLine_51 : decode cX5_takeSignOrLine 51 = .ok (.goto 58, 3) := by decide +kernel
theorem dX5_takeSignOrLine_54 : decode cX5_takeSignOrLine 54 = .ok (.iload_n 1, 1) := by decide +kernel
theorem dX5_takeSignOrLine_55 : decode cX5_takeSignOrLine 55 = .ok (.bipush 7, 2) := by decide +kernel
theorem dX5_takeSignOrLine_57 : decode cX5_takeSignOrLine 57 = .ok (.if_icmp .ne 47, 3) := by decide +kernel
theorem dX5_takeSignOrLine_60 : decode cX5_takeSignOrLine 60 = .ok (.aload_n 0, 1) := by decide +kernel
theorem dX5_takeSignOrLine_61 : decode cX5_takeSignOrLine 61 = .ok (.getfield 33, 3) := by decide +kernel
theorem dX5_takeSignOrLine_64 : decode cX5_takeSignOrLine 64 = .ok (.getfield 136, 3) := by decide +kernel
theorem dX5_takeSignOrLine_67 : decode cX5_takeSignOrLine 67 = .ok (.aload_n 0, 1) := by decide +kernel
theorem dX5_takeSignOrLine_68 : decode cX5_takeSignOrLine 68 = .ok (.getfield 33, 3) := by decide +kernel
theorem dX5_takeSignOrLine_71 : decode cX5_takeSignOrLine 71 = .ok (.getfield 139, 3) := by decide +kernel
theorem dX5_takeSignOrLine_74 : decode cX5_takeSignOrLine 74 = .ok (.iconst 1, 1) := by decide +kernel
theorem dX5_takeSignOrLine_75 : decode cX5_takeSignOrLine 75 = .ok (.invokevirtual 142, 3) := by decide +kernel
theorem dX5_takeSignOrLine_78 : decode cX5_takeSignOrLine 78 = .ok (.aload_n 0, 1) := by decide +kernel
theorem dX5_takeSignOrLine_79 : decode cX5_takeSignOrLine 79 = .ok (.aload_n 0, 1) := by decide +kernel
theorem dX5_takeSignOrLine_80 : decode cX5_takeSignOrLine 80 = .ok (.getfield 33, 3) := by decide +kernel
theorem dX5_takeSignOrLine_83 : decode cX5_takeSignOrLine 83 = .ok (.getfield 139, 3) := by decide +kernel
theorem dX5_takeSignOrLine_86 : decode cX5_takeSignOrLine 86 = .ok (.bipush 20, 2) := by decide +kernel
theorem dX5_takeSignOrLine_88 : decode cX5_takeSignOrLine 88 = .ok (.if_icmp .ge 7, 3) := by decide +kernel
theorem dX5_takeSignOrLine_91 : decode cX5_takeSignOrLine 91 = .ok (.iconst 1, 1) := by decide +kernel
theorem dX5_takeSignOrLine_92 : decode cX5_takeSignOrLine 92 = .ok (.goto 4, 3) := by decide +kernel
theorem dX5_takeSignOrLine_95 : decode cX5_takeSignOrLine 95 = .ok (.iconst 0, 1) := by decide +kernel
theorem dX5_takeSignOrLine_96 : decode cX5_takeSignOrLine 96 = .ok (.bipush 10, 2) := by decide +kernel
theorem dX5_takeSignOrLine_98 : decode cX5_takeSignOrLine 98 = .ok (.invokevirtual 133, 3) := by decide +kernel
theorem dX5_takeSignOrLine_101 : decode cX5_takeSignOrLine 101 = .ok (.goto 8, 3) := by decide +kernel
theorem dX5_takeSignOrLine_104 : decode cX5_takeSignOrLine 104 = .ok (.aload_n 0, 1) := by decide +kernel
theorem dX5_takeSignOrLine_105 : decode cX5_takeSignOrLine 105 = .ok (.iconst 1, 1) := by decide +kernel
theorem dX5_takeSignOrLine_106 : decode cX5_takeSignOrLine 106 = .ok (.invokevirtual 118, 3) := by decide +kernel
theorem dX5_takeSignOrLine_109 : decode cX5_takeSignOrLine 109 = .ok (.return_, 1) := by decide +kernel
theorem kSX5_takeSignOrLine : yX5_takeSignOrLine.cls ≠ "java/lang/invoke/MethodHandle" ∧ yX5_takeSignOrLine.cls ≠ "java/lang/invoke/VarHandle" ∧ (parseMethodDescriptor yX5_takeSignOrLine.desc).map (fun d => d.parameters.length) = some 1 := by decide +kernel
theorem kVX5_takeSignOrLine : yX5_takeSignOrLine.cls = RX5 ∧ yX5_takeSignOrLine.cls ≠ "java/lang/invoke/MethodHandle" ∧ yX5_takeSignOrLine.cls ≠ "java/lang/invoke/VarHandle" ∧ (parseMethodDescriptor yX5_takeSignOrLine.desc).map (fun d => d.parameters.length) = some 1 := ⟨rfl, kSX5_takeSignOrLine⟩
theorem dX5_takeSignName_0 : decode cX5_takeSignName 0 = .ok (.iload_n 1, 1) := by decide +kernel
theorem dX5_takeSignName_1 : decode cX5_takeSignName 1 = .ok (.iconst 2, 1) := by decide +kernel
theorem dX5_takeSignName_2 : decode cX5_takeSignName 2 = .ok (.if_icmp .eq 11, 3) := by decide +kernel
theorem dX5_takeSignName_5 : decode cX5_takeSignName 5 = .ok (.aload_n 0, 1) := by decide +kernel
theorem dX5_takeSignName_6 : decode cX5_takeSignName 6 = .ok (.iconst 1, 1) := by decide +kernel
theorem dX5_takeSignName_7 : decode cX5_takeSignName 7 = .ok (.invokevirtual 118, 3) := by decide +kernel
theorem dX5_takeSignName_10 : decode cX5_takeSignName 10 = .ok (.goto 80, 3) := by decide +kernel
theorem dX5_takeSignName_13 : decode cX5_takeSignName 13 = .ok (.aload_n 0, 1) := by decide +kernel
theorem dX5_takeSignName_14 : decode cX5_takeSignName 14 = .ok (.invokevirtual 145, 3) := by decide +kernel
theorem dX5_takeSignName_17 : decode cX5_takeSignName 17 = .ok (.iconst (-1), 1) := by decide +kernel
theorem dX5_takeSignName_18 : decode cX5_takeSignName 18 = .ok (.if_icmp .eq 11, 3) := by decide +kernel
theorem dX5_takeSignName_21 : decode cX5_takeSignName 21 = .ok (.aload_n 0, 1) := by decide +kernel
theorem dX5_takeSignName_22 : decode cX5_takeSignName 22 = .ok (.iconst 2, 1) := by decide +kernel
theorem dX5_takeSignName_23 : decode cX5_takeSignName 23 = .ok (.invokevirtual 118, 3) := by decide +kernel
theorem dX5_takeSignName_26 : decode cX5_takeSignName 26 = .ok (.goto 64, 3) := by decide +kernel
theorem dX5_takeSignName_29 : decode cX5_takeSignName 29 = .ok (.aload_n 0, 1) := by decide +kernel
theorem dX5_takeSignName_30 : decode cX5_takeSignName 30 = .ok (.getfield 22, 3) := by decide +kernel
theorem dX5_takeSignName_33 : decode cX5_takeSignName 33 = .ok (.aload_n 0, 1) := by decide +kernel
theorem dX5_takeSignName_34 : decode cX5_takeSignName 34 = .ok (.getfield 33, 3) := by decide +kernel
theorem dX5_takeSignName_37 : decode cX5_takeSignName 37 = .ok (.getfield 130, 3) := by decide +kernel
theorem dX5_takeSignName_40 : decode cX5_takeSignName 40 = .ok (.aload_n 0, 1) := by decide +kernel
theorem dX5_takeSignName_41 : decode cX5_takeSignName 41 = .ok (.getfield 9, 3) := by decide +kernel
theorem dX5_takeSignName_44 : decode cX5_takeSignName 44 = .ok (.getfield 74, 3) := by decide +kernel
theorem dX5_takeSignName_47 : decode cX5_takeSignName 47 = .ok (.invokevirtual 142, 3) := by decide +kernel
theorem dX5_takeSignName_50 : decode cX5_takeSignName 50 = .ok (.aload_n 0, 1) := by decide +kernel
theorem dX5_takeSignName_51 : decode cX5_takeSignName 51 = .ok (.getfield 26, 3) := by decide +kernel
theorem dX5_takeSignName_54 : decode cX5_takeSignName 54 = .ok (.aload_n 0, 1) := by decide +kernel
theorem dX5_takeSignName_55 : decode cX5_takeSignName 55 = .ok (.getfield 33, 3) := by decide +kernel
theorem dX5_takeSignName_58 : decode cX5_takeSignName 58 = .ok (.getfield 130, 3) := by decide +kernel
theorem dX5_takeSignName_61 : decode cX5_takeSignName 61 = .ok (.aload_n 0, 1) := by decide +kernel
theorem dX5_takeSignName_62 : decode cX5_takeSignName 62 = .ok (.getfield 9, 3) := by decide +kernel
theorem dX5_takeSignName_65 : decode cX5_takeSignName 65 = .ok (.invokevirtual 149, 3) := by decide +kernel
theorem dX5_takeSignName_68 : decode cX5_takeSignName 68 = .ok (.invokevirtual 142, 3) := by decide +kernel
theorem dX5_takeSignName_71 : decode cX5_takeSignName 71 = .ok (.aload_n 0, 1) := by decide +kernel
theorem dX5_takeSignName_72 : decode cX5_takeSignName 72 = .ok (.getfield 33, 3) := by decide +kernel
theorem dX5_takeSignName_75 : decode cX5_takeSignName 75 = .ok (.dup, 1) := by decide +kernel
theorem dX5_takeSignName_76 : decode cX5_takeSignName 76 = .ok (.getfield 130, 3) := by decide +kernel
theorem dX5_takeSignName_79 : decode cX5_takeSignName 79 = .ok (.iconst 1, 1) := by decide +kernel
theorem dX5_takeSignName_80 : decode cX5_takeSignName 80 = .ok (.iadd, 1) := by decide +kernel
theorem dX5_takeSignName_81 : decode cX5_takeSignName 81 = .ok (.putfield 130, 3) := by decide +kernel
theorem dX5_takeSignName_84 : decode cX5_takeSignName 84 = .ok (.aload_n 0, 1) := by decide +kernel
theorem dX5_takeSignName_85 : decode cX5_takeSignName 85 = .ok (.bipush 8, 2) := by decide +kernel
theorem dX5_takeSignName_87 : decode cX5_takeSignName 87 = .ok (.putfield 52, 3) := by decide +kernel
theorem dX5_takeSignName_90 : decode cX5_takeSignName 90 = .ok (.return_, 1) := by decide +kernel
theorem kSX5_takeSignName : yX5_takeSignName.cls ≠ "java/lang/invoke/MethodHandle" ∧ yX5_takeSignName.cls ≠ "java/lang/invoke/VarHandle" ∧ (parseMethodDescriptor yX5_takeSignName.desc).map (fun d => d.parameters.length) = some 1 := by decide +kernel
theorem kVX5_takeSignName : yX5_takeSignName.cls = RX5 ∧ yX5_takeSignName.cls ≠ "java/lang/invoke/MethodHandle" ∧ yX5_takeSignName.cls ≠ "java/lang/invoke/VarHandle" ∧ (parseMethodDescriptor yX5_takeSignName.desc).map (fun d => d.parameters.length) = some 1 := ⟨rfl, kSX5_takeSignName⟩
theorem dX5_takePoints_0 : decode cX5_takePoints 0 = .ok (.iload_n 1, 1) := by decide +kernel
theorem dX5_takePoints_1 : decode cX5_takePoints 1 = .ok (.iconst 3, 1) := by decide +kernel
theorem dX5_takePoints_2 : decode cX5_takePoints 2 = .ok (.if_icmp .ne 36, 3) := by decide +kernel
theorem dX5_takePoints_5 : decode cX5_takePoints 5 = .ok (.aload_n 0, 1) := by decide +kernel
theorem dX5_takePoints_6 : decode cX5_takePoints 6 = .ok (.getfield 33, 3) := by decide +kernel
theorem dX5_takePoints_9 : decode cX5_takePoints 9 = .ok (.getfield 136, 3) := by decide +kernel
theorem dX5_takePoints_12 : decode cX5_takePoints 12 = .ok (.aload_n 0, 1) := by decide +kernel
theorem dX5_takePoints_13 : decode cX5_takePoints 13 = .ok (.getfield 33, 3) := by decide +kernel
theorem dX5_takePoints_16 : decode cX5_takePoints 16 = .ok (.getfield 139, 3) := by decide +kernel
theorem dX5_takePoints_19 : decode cX5_takePoints 19 = .ok (.aload_n 0, 1) := by decide +kernel
theorem dX5_takePoints_20 : decode cX5_takePoints 20 = .ok (.getfield 9, 3) := by decide +kernel
theorem dX5_takePoints_23 : decode cX5_takePoints 23 = .ok (.getfield 121, 3) := by decide +kernel
theorem dX5_takePoints_26 : decode cX5_takePoints 26 = .ok (.invokevirtual 142, 3) := by decide +kernel
theorem dX5_takePoints_29 : decode cX5_takePoints 29 = .ok (.aload_n 0, 1) := by decide +kernel
theorem dX5_takePoints_30 : decode cX5_takePoints 30 = .ok (.bipush 11, 2) := by decide +kernel
theorem dX5_takePoints_32 : decode cX5_takePoints 32 = .ok (.putfield 52, 3) := by decide +kernel
theorem dX5_takePoints_35 : decode cX5_takePoints 35 = .ok (.goto 20, 3) := by decide +kernel
theorem dX5_takePoints_38 : decode cX5_takePoints 38 = .ok (.aload_n 0, 1) := by decide +kernel
theorem dX5_takePoints_39 : decode cX5_takePoints 39 = .ok (.iload_n 1, 1) := by decide +kernel
theorem dX5_takePoints_40 : decode cX5_takePoints 40 = .ok (.bipush 8, 2) := by decide +kernel
theorem dX5_takePoints_42 : decode cX5_takePoints 42 = .ok (.if_icmp .ne 7, 3) := by decide +kernel
theorem dX5_takePoints_45 : decode cX5_takePoints 45 = .ok (.iconst 1, 1) := by decide +kernel
theorem dX5_takePoints_46 : decode cX5_takePoints 46 = .ok (.goto 4, 3) := by decide +kernel
theorem dX5_takePoints_49 : decode cX5_takePoints 49 = .ok (.iconst 0, 1) := by decide +kernel
theorem dX5_takePoints_50 : decode cX5_takePoints 50 = .ok (.bipush 12, 2) := by decide +kernel
theorem dX5_takePoints_52 : decode cX5_takePoints 52 = .ok (.invokevirtual 96, 3) := by decide +kernel
theorem dX5_takePoints_55 : decode cX5_takePoints 55 = .ok (.return_, 1) := by decide +kernel
theorem kSX5_takePoints : yX5_takePoints.cls ≠ "java/lang/invoke/MethodHandle" ∧ yX5_takePoints.cls ≠ "java/lang/invoke/VarHandle" ∧ (parseMethodDescriptor yX5_takePoints.desc).map (fun d => d.parameters.length) = some 1 := by decide +kernel
theorem kVX5_takePoints : yX5_takePoints.cls = RX5 ∧ yX5_takePoints.cls ≠ "java/lang/invoke/MethodHandle" ∧ yX5_takePoints.cls ≠ "java/lang/invoke/VarHandle" ∧ (parseMethodDescriptor yX5_takePoints.desc).map (fun d => d.parameters.length) = some 1 := ⟨rfl, kSX5_takePoints⟩
theorem dX5_takeBehindTerm_0 : decode cX5_takeBehindTerm 0 = .ok (.iload_n 1, 1) := by decide +kernel
theorem dX5_takeBehindTerm_1 : decode cX5_takeBehindTerm 1 = .ok (.bipush 20, 2) := by decide +kernel
theorem dX5_takeBehindTerm_3 : decode cX5_takeBehindTerm 3 = .ok (.if_icmp .eq 9, 3) := by decide +kernel
theorem dX5_takeBehindTerm_6 : decode cX5_takeBehindTerm 6 = .ok (.iload_n 1, 1) := by decide +kernel
theorem dX5_takeBehindTerm_7 : decode cX5_takeBehindTerm 7 = .ok (.bipush 21, 2) := by decide +kernel
theorem dX5_takeBehindTerm_9 : decode cX5_takeBehindTerm 9 = .ok (.if_icmp .ne 17, 3) := by decide +kernel
theorem dX5_takeBehindTerm_12 : decode cX5_takeBehindTerm 12 = .ok (.aload_n 0, 1) := by decide +kernel
theorem dX5_takeBehindTerm_13 : decode cX5_takeBehindTerm 13 = .ok (.bipush 13, 2) := by decide +kernel
theorem dX5_takeBehindTerm_15 : decode cX5_takeBehindTerm 15 = .ok (.invokevirtual 163, 3) := by decide +kernel
theorem dX5_takeBehindTerm_18 : decode cX5_takeBehindTerm 18 = .ok (.aload_n 0, 1) := by decide +kernel
theorem dX5_takeBehindTerm_19 : decode cX5_takeBehindTerm 19 = .ok (.iload_n 1, 1) := by decide +kernel
theorem dX5_takeBehindTerm_20 : decode cX5_takeBehindTerm 20 = .ok (.putfield 160, 3) := by decide +kernel
theorem dX5_takeBehindTerm_23 : decode cX5_takeBehindTerm 23 = .ok (.goto 34, 3) := by decide +kernel
theorem dX5_takeBehindTerm_26 : decode cX5_takeBehindTerm 26 = .ok (.iload_n 1, 1) := by decide +kernel
theorem dX5_takeBehindTerm_27 : decode cX5_takeBehindTerm 27 = .ok (.bipush 22, 2) := by decide +kernel
theorem dX5_takeBehindTerm_29 : decode cX5_takeBehindTerm 29 = .ok (.if_icmp .lt 23, 3) := by decide +kernel
theorem dX5_takeBehindTerm_32 : decode cX5_takeBehindTerm 32 = .ok (.iload_n 1, 1) := by decide +kernel
theorem dX5_takeBehindTerm_33 : decode cX5_takeBehindTerm 33 = .ok (.bipush 27, 2) := by decide +kernel
theorem dX5_takeBehindTerm_35 : decode cX5_takeBehindTerm 35 = .ok (.if_icmp .gt 17, 3) := by decide +kernel
theorem dX5_takeBehindTerm_38 : decode cX5_takeBehindTerm 38 = .ok (.aload_n 0, 1) := by decide +kernel
theorem dX5_takeBehindTerm_39 : decode cX5_takeBehindTerm 39 = .ok (.bipush 13, 2) := by decide +kernel
theorem dX5_takeBehindTerm_41 : decode cX5_takeBehindTerm 41 = .ok (.invokevirtual 163, 3) := by decide +kernel
theorem dX5_takeBehindTerm_44 : decode cX5_takeBehindTerm 44 = .ok (.aload_n 0, 1) := by decide +kernel
theorem dX5_takeBehindTerm_45 : decode cX5_takeBehindTerm 45 = .ok (.iload_n 1, 1) := by decide +kernel
theorem dX5_takeBehindTerm_46 : decode cX5_takeBehindTerm 46 = .ok (.putfield 84, 3) := by decide +kernel
theorem dX5_takeBehindTerm_49 : decode cX5_takeBehindTerm 49 = .ok (.goto 8, 3) := by decide +kernel
theorem dX5_takeBehindTerm_52 : decode cX5_takeBehindTerm 52 = .ok (.aload_n 0, 1) := by decide +kernel
theorem dX5_takeBehindTerm_53 : decode cX5_takeBehindTerm 53 = .ok (.iconst 1, 1) := by decide +kernel
theorem dX5_takeBehindTerm_54 : decode cX5_takeBehindTerm 54 = .ok (.invokevirtual 118, 3) := by decide +kernel
theorem dX5_takeBehindTerm_57 : decode cX5_takeBehindTerm 57 = .ok (.return_, 1) := by decide +kernel
theorem kSX5_takeBehindTerm : yX5_takeBehindTerm.cls ≠ "java/lang/invoke/MethodHandle" ∧ yX5_takeBehindTerm.cls ≠ "java/lang/invoke/VarHandle" ∧ (parseMethodDescriptor yX5_takeBehindTerm.desc).map (fun d => d.parameters.length) = some 1 := by decide +kernel
theorem kVX5_takeBehindTerm : yX5_takeBehindTerm.cls = RX5 ∧ yX5_takeBehindTerm.cls ≠ "java/lang/invoke/MethodHandle" ∧ yX5_takeBehindTerm.cls ≠ "java/lang/invoke/VarHandle" ∧ (parseMethodDescriptor yX5_takeBehindTerm.desc).map (fun d => d.parameters.length) = some 1 := ⟨rfl, kSX5_takeBehindTerm⟩
theorem dX5_takeBehindCond_0 : decode cX5_takeBehindCond 0 = .ok (.iload_n 1, 1) := by decide +kernel
theorem dX5_takeBehindCond_1 : decode cX5_takeBehindCond 1 = .ok (.bipush 10, 2) := by decide +kernel
theorem dX5_takeBehindCond_3 : decode cX5_takeBehindCond 3 = .ok (.if_icmp .eq 9, 3) := by decide +kernel
theorem dX5_takeBehindCond_6 : decode cX5_takeBehindCond 6 = .ok (.iload_n 1, 1) := by decide +kernel
theorem dX5_takeBehindCond_7 : decode cX5_takeBehindCond 7 = .ok (.bipush 9, 2) := by decide +kernel
theorem dX5_takeBehindCond_9 : decode cX5_takeBehindCond 9 = .ok (.if_icmp .ne 22, 3) := by decide +kernel
theorem dX5_takeBehindCond_12 : decode cX5_takeBehindCond 12 = .ok (.aload_n 0, 1) := by decide +kernel
theorem dX5_takeBehindCond_13 : decode cX5_takeBehindCond 13 = .ok (.bipush 12, 2) := by decide +kernel
theorem dX5_takeBehindCond_15 : decode cX5_takeBehindCond 15 = .ok (.invokevirtual 163, 3) := by decide +kernel
theorem dX5_takeBehindCond_18 : decode cX5_takeBehindCond 18 = .ok (.aload_n 0, 1) := by decide +kernel
theorem dX5_takeBehindCond_19 : decode cX5_takeBehindCond 19 = .ok (.iload_n 1, 1) := by decide +kernel
theorem dX5_takeBehindCond_20 : decode cX5_takeBehindCond 20 = .ok (.invokevirtual 187, 3) := by decide +kernel
theorem dX5_takeBehindCond_23 : decode cX5_takeBehindCond 23 = .ok (.aload_n 0, 1) := by decide +kernel
theorem dX5_takeBehindCond_24 : decode cX5_takeBehindCond 24 = .ok (.iload_n 1, 1) := by decide +kernel
theorem dX5_takeBehindCond_25 : decode cX5_takeBehindCond 25 = .ok (.invokevirtual 178, 3) := by decide +kernel
theorem dX5_takeBehindCond_28 : decode cX5_takeBehindCond 28 = .ok (.goto 69, 3) := by decide +kernel
theorem dX5_takeBehindCond_31 : decode cX5_takeBehindCond 31 = .ok (.iload_n 1, 1) := by decide +kernel
theorem dX5_takeBehindCond_32 : decode cX5_takeBehindCond 32 = .ok (.bipush 18, 2) := by decide +kernel
theorem dX5_takeBehindCond_34 : decode cX5_takeBehindCond 34 = .ok (.if_icmp .ne 23, 3) := by decide +kernel
theorem dX5_takeBehindCond_37 : decode cX5_takeBehindCond 37 = .ok (.aload_n 0, 1) := by decide +kernel
theorem dX5_takeBehindCond_38 : decode cX5_takeBehindCond 38 = .ok (.getfield 61, 3) := by decide +kernel
theorem dX5_takeBehindCond_41 : decode cX5_takeBehindCond 41 = .ok (.ifCond .le 16, 3) := by decide +kernel
theorem dX5_takeBehindCond_44 : decode cX5_takeBehindCond 44 = .ok (.aload_n 0, 1) := by decide +kernel
theorem dX5_takeBehindCond_45 : decode cX5_takeBehindCond 45 = .ok (.invokevirtual 190, 3) := by decide +kernel
theorem dX5_takeBehindCond_48 : decode cX5_takeBehindCond 48 = .ok (.aload_n 0, 1) := by decide +kernel
theorem dX5_takeBehindCond_49 : decode cX5_takeBehindCond 49 = .ok (.bipush 16, 2) := by decide +kernel
theorem dX5_takeBehindCond_51 : decode cX5_takeBehindCond 51 = .ok (.putfield 52, 3) := by decide +kernel
theorem dX5_takeBehindCond_54 : decode cX5_takeBehindCond 54 = .ok (.goto 43, 3) := by decide +kernel
theorem dX5_takeBehindCond_57 : decode cX5_takeBehindCond 57 = .ok (.iload_n 1, 1) := by decide +kernel
theorem dX5_takeBehindCond_58 : decode cX5_takeBehindCond 58 = .ok (.bipush 19, 2) := by decide +kernel
theorem dX5_takeBehindCond_60 : decode cX5_takeBehindCond 60 = .ok (.if_icmp .ne 32, 3) := by decide +kernel
theorem dX5_takeBehindCond_63 : decode cX5_takeBehindCond 63 = .ok (.aload_n 0, 1) := by decide +kernel
theorem dX5_takeBehindCond_64 : decode cX5_takeBehindCond 64 = .ok (.getfield 61, 3) := by decide +kernel
theorem dX5_takeBehindCond_67 : decode cX5_takeBehindCond 67 = .ok (.ifCond .ne 25, 3) := by decide +kernel
theorem dX5_takeBehindCond_70 : decode cX5_takeBehindCond 70 = .ok (.aload_n 0, 1) := by decide +kernel
theorem dX5_takeBehindCond_71 : decode cX5_takeBehindCond 71 = .ok (.bipush 9, 2) := by decide +kernel
theorem dX5_takeBehindCond_73 : decode cX5_takeBehindCond 73 = .ok (.invokevirtual 187, 3) := by decide +kernel
theorem dX5_takeBehindCond_76 : decode cX5_takeBehindCond 76 = .ok (.aload_n 0, 1) := by decide +kernel
theorem dX5_takeBehindCond_77 : decode cX5_takeBehindCond 77 = .ok (.getfield 33, 3) := by decide +kernel
theorem dX5_takeBehindCond_80 : decode cX5_takeBehindCond 80 = .ok (.invokevirtual 193, 3) := by decide +kernel
theorem dX5_takeBehindCond_83 : decode cX5_takeBehindCond 83 = .ok (.aload_n 0, 1) := by decide +kernel
theorem dX5_takeBehindCond_84 : decode cX5_takeBehindCond 84 = .ok (.bipush 9, 2) := by decide +kernel
theorem dX5_takeBehindCond_86 : decode cX5_takeBehindCond 86 = .ok (.putfield 52, 3) := by decide +kernel
theorem dX5_takeBehindCond_89 : decode cX5_takeBehindCond 89 = .ok (.goto 8, 3) := by decide +kernel
theorem dX5_takeBehindCond_92 : decode cX5_takeBehindCond 92 = .ok (.aload_n 0, 1) := by decide +kernel
theorem dX5_takeBehindCond_93 : decode cX5_takeBehindCond 93 = .ok (.iconst 1, 1) := by decide +kernel
theorem dX5_takeBehindCond_94 : decode cX5_takeBehindCond 94 = .ok (.invokevirtual 118, 3) := by decide +kernel
theorem dX5_takeBehindCond_97 : decode cX5_takeBehindCond 97 = .ok (.return_, 1) := by decide +kernel
theorem kSX5_takeBehindCond : yX5_takeBehindCond.cls ≠ "java/lang/invoke/MethodHandle" ∧ yX5_takeBehindCond.cls ≠ "java/lang/invoke/VarHandle" ∧ (parseMethodDescriptor yX5_takeBehindCond.desc).map (fun d => d.parameters.length) = some 1 := by decide +kernel
theorem kVX5_takeBehindCond : yX5_takeBehindCond.cls = RX5 ∧ yX5_takeBehindCond.cls ≠ "java/lang/invoke/MethodHandle" ∧ yX5_takeBehindCond.cls ≠ "java/lang/invoke/VarHandle" ∧ (parseMethodDescriptor yX5_takeBehindCond.desc).map (fun d => d.parameters.length) = some 1 := ⟨rfl, kSX5_takeBehindCond⟩
theorem dX5_takeCond_0 : decode cX5_takeCond 0 = .ok (.aload_n 0, 1) := by decide +kernel
theorem dX5_takeCond_1 : decode cX5_takeCond 1 = .ok (.iconst 0, 1) := by decide +kernel
theorem dX5_takeCond_2 : decode cX5_takeCond 2 = .ok (.putfield 84, 3) := by decide +kernel
theorem dX5_takeCond_5 : decode cX5_takeCond 5 = .ok (.aload_n 0, 1) := by decide +kernel
theorem dX5_takeCond_6 : decode cX5_takeCond 6 = .ok (.iconst 0, 1) := by decide +kernel
theorem dX5_takeCond_7 : decode cX5_takeCond 7 = .ok (.putfield 160, 3) := by decide +kernel
theorem dX5_takeCond_10 : decode cX5_takeCond 10 = .ok (.iload_n 1, 1) := by decide +kernel
theorem dX5_takeCond_11 : decode cX5_takeCond 11 = .ok (.bipush 11, 2) := by decide +kernel
theorem dX5_takeCond_13 : decode cX5_takeCond 13 = .ok (.if_icmp .ne 17, 3) := by decide +kernel
theorem dX5_takeCond_16 : decode cX5_takeCond 16 = .ok (.aload_n 0, 1) := by decide +kernel
theorem dX5_takeCond_17 : decode cX5_takeCond 17 = .ok (.bipush 12, 2) := by decide +kernel
theorem dX5_takeCond_19 : decode cX5_takeCond 19 = .ok (.invokevirtual 163, 3) := by decide +kernel
theorem dX5_takeCond_22 : decode cX5_takeCond 22 = .ok (.aload_n 0, 1) := by decide +kernel
theorem dX5_takeCond_23 : decode cX5_takeCond 23 = .ok (.iload_n 1, 1) := by decide +kernel
theorem dX5_takeCond_24 : decode cX5_takeCond 24 = .ok (.invokevirtual 166, 3) := by decide +kernel
theorem dX5_takeCond_27 : decode cX5_takeCond 27 = .ok (.goto 66, 3) := by decide +kernel
theorem dX5_takeCond_30 : decode cX5_takeCond 30 = .ok (.iload_n 1, 1) := by decide +kernel
theorem dX5_takeCond_31 : decode cX5_takeCond 31 = .ok (.bipush 17, 2) := by decide +kernel
theorem dX5_takeCond_33 : decode cX5_takeCond 33 = .ok (.if_icmp .ne 21, 3) := by decide +kernel
theorem dX5_takeCond_36 : decode cX5_takeCond 36 = .ok (.aload_n 0, 1) := by decide +kernel
theorem dX5_takeCond_37 : decode cX5_takeCond 37 = .ok (.iload_n 1, 1) := by decide +kernel
theorem dX5_takeCond_38 : decode cX5_takeCond 38 = .ok (.invokevirtual 166, 3) := by decide +kernel
theorem dX5_takeCond_41 : decode cX5_takeCond 41 = .ok (.aload_n 0, 1) := by decide +kernel
theorem dX5_takeCond_42 : decode cX5_takeCond 42 = .ok (.dup, 1) := by decide +kernel
theorem dX5_takeCond_43 : decode cX5_takeCond 43 = .ok (.getfield 61, 3) := by decide +kernel
theorem dX5_takeCond_46 : decode cX5_takeCond 46 = .ok (.iconst 1, 1) := by decide +kernel
theorem dX5_takeCond_47 : decode cX5_takeCond 47 = .ok (.iadd, 1) := by decide +kernel
theorem dX5_takeCond_48 : decode cX5_takeCond 48 = .ok (.putfield 61, 3) := by decide +kernel
theorem dX5_takeCond_51 : decode cX5_takeCond 51 = .ok (.goto 42, 3) := by decide +kernel
theorem dX5_takeCond_54 : decode cX5_takeCond 54 = .ok (.iload_n 1, 1) := by decide +kernel
theorem dX5_takeCond_55 : decode cX5_takeCond 55 = .ok (.bipush 12, 2) := by decide +kernel
theorem dX5_takeCond_57 : decode cX5_takeCond 57 = .ok (.if_icmp .eq 9, 3) := by decide +kernel
theorem dX5_takeCond_60 : decode cX5_takeCond 60 = .ok (.iload_n 1, 1) := by decide +kernel
theorem dX5_takeCond_61 : decode cX5_takeCond 61 = .ok (.bipush 13, 2) := by decide +kernel
theorem dX5_takeCond_63 : decode cX5_takeCond 63 = .ok (.if_icmp .ne 25, 3) := by decide +kernel
theorem dX5_takeCond_66 : decode cX5_takeCond 66 = .ok (.aload_n 0, 1) := by decide +kernel
theorem dX5_takeCond_67 : decode cX5_takeCond 67 = .ok (.bipush 16, 2) := by decide +kernel
theorem dX5_takeCond_69 : decode cX5_takeCond 69 = .ok (.invokevirtual 163, 3) := by decide +kernel
theorem dX5_takeCond_72 : decode cX5_takeCond 72 = .ok (.aload_n 0, 1) := by decide +kernel
theorem dX5_takeCond_73 : decode cX5_takeCond 73 = .ok (.getfield 33, 3) := by decide +kernel
theorem dX5_takeCond_76 : decode cX5_takeCond 76 = .ok (.iload_n 1, 1) := by decide +kernel
theorem dX5_takeCond_77 : decode cX5_takeCond 77 = .ok (.iconst 0, 1) := by decide +kernel
theorem dX5_takeCond_78 : decode cX5_takeCond 78 = .ok (.invokevirtual 169, 3) := by decide +kernel
theorem dX5_takeCond_81 : decode cX5_takeCond 81 = .ok (.aload_n 0, 1) := by decide +kernel
theorem dX5_takeCond_82 : decode cX5_takeCond 82 = .ok (.invokevirtual 172, 3) := by decide +kernel
theorem dX5_takeCond_85 : decode cX5_takeCond 85 = .ok (.goto 8, 3) := by decide +kernel
theorem dX5_takeCond_88 : decode cX5_takeCond 88 = .ok (.aload_n 0, 1) := by decide +kernel
theorem dX5_takeCond_89 : decode cX5_takeCond 89 = .ok (.iload_n 1, 1) := by decide +kernel
theorem dX5_takeCond_90 : decode cX5_takeCond 90 = .ok (.invokevirtual 106, 3) := by decide +kernel
theorem dX5_takeCond_93 : decode cX5_takeCond 93 = .ok (.return_, 1) := by decide +kernel
theorem kSX5_takeCond : yX5_takeCond.cls ≠ "java/lang/invoke/MethodHandle" ∧ yX5_takeCond.cls ≠ "java/lang/invoke/VarHandle" ∧ (parseMethodDescriptor yX5_takeCond.desc).map (fun d => d.parameters.length) = some 1 := by decide +kernel
theorem kVX5_takeCond : yX5_takeCond.cls = RX5 ∧ yX5_takeCond.cls ≠ "java/lang/invoke/MethodHandle" ∧ yX5_takeCond.cls ≠ "java/lang/invoke/VarHandle" ∧ (parseMethodDescriptor yX5_takeCond.desc).map (fun d => d.parameters.length) = some 1 := ⟨rfl, kSX5_takeCond⟩

