theorem dX0_aheadOf_0 : decode cX0_aheadOf 0 = .ok (.aload_n 0, 1) := by decide +kernel
theorem dX0_aheadOf_1 : decode cX0_aheadOf 1 = .ok (.iload_n 1, 1) := by decide +kernel
theorem dX0_aheadOf_2 : decode cX0_aheadOf 2 = .ok (.invokevirtual 49, 3) := by decide +kernel
theorem dX0_aheadOf_5 : decode cX0_aheadOf 5 = .ok (.istore 4, 2) := by decide +kernel
theorem dX0_aheadOf_7 : decode cX0_aheadOf 7 = .ok (.aload_n 0, 1) := by decide +kernel
theorem dX0_aheadOf_8 : decode cX0_aheadOf 8 = .ok (.iload_n 1, 1) := by decide +kernel
theorem dX0_aheadOf_9 : decode cX0_aheadOf 9 = .ok (.invokevirtual 46, 3) := by decide +kernel
theorem dX0_aheadOf_12 : decode cX0_aheadOf 12 = .ok (.iconst 2, 1) := by decide +kernel
theorem dX0_aheadOf_13 : decode cX0_aheadOf 13 = .ok (.if_icmp .ne 11, 3) := by decide +kernel
theorem dX0_aheadOf_16 : decode cX0_aheadOf 16 = .ok (.iload_n 2, 1) := by decide +kernel
theorem dX0_aheadOf_17 : decode cX0_aheadOf 17 = .ok (.iload 4, 2) := by decide +kernel
theorem dX0_aheadOf_19 : decode cX0_aheadOf 19 = .ok (.iconst 2, 1) := by decide +kernel
theorem dX0_aheadOf_20 : decode cX0_aheadOf 20 = .ok (.idiv, 1) := by decide +kernel
theorem dX0_aheadOf_21 : decode cX0_aheadOf 21 = .ok (.if_icmp .ge 5, 3) := by decide +kernel
theorem dX0_aheadOf_24 : decode cX0_aheadOf 24 = .ok (.iconst (-1), 1) := by decide +kernel
theorem dX0_aheadOf_25 : decode cX0_aheadOf 25 = .ok (.ireturn, 1) := by decide +kernel
theorem dX0_aheadOf_26 : decode cX0_aheadOf 26 = .ok (.iload_n 2, 1) := by decide +kernel
theorem dX0_aheadOf_27 : decode cX0_aheadOf 27 = .ok (.iload 4, 2) := by decide +kernel
theorem dX0_aheadOf_29 : decode cX0_aheadOf 29 = .ok (.iconst 2, 1) := by decide +kernel
theorem dX0_aheadOf_30 : decode cX0_aheadOf 30 = .ok (.isub, 1) := by decide +kernel
theorem dX0_aheadOf_31 : decode cX0_aheadOf 31 = .ok (.if_icmp .gt 12, 3) := by decide +kernel
theorem dX0_aheadOf_34 : decode cX0_aheadOf 34 = .ok (.iload 4, 2) := by decide +kernel
theorem dX0_aheadOf_36 : decode cX0_aheadOf 36 = .ok (.iload_n 2, 1) := by decide +kernel
theorem dX0_aheadOf_37 : decode cX0_aheadOf 37 = .ok (.invokestatic 97, 3) := by decide +kernel
theorem dX0_aheadOf_40 : decode cX0_aheadOf 40 = .ok (.iload_n 3, 1) := by decide +kernel
theorem dX0_aheadOf_41 : decode cX0_aheadOf 41 = .ok (.iadd, 1) := by decide +kernel
theorem dX0_aheadOf_42 : decode cX0_aheadOf 42 = .ok (.ireturn, 1) := by decide +kernel
theorem dX0_aheadOf_43 : decode cX0_aheadOf 43 = .ok (.iload_n 2, 1) := by decide +kernel
theorem dX0_aheadOf_44 : decode cX0_aheadOf 44 = .ok (.iload 4, 2) := by decide +kernel
theorem dX0_aheadOf_46 : decode cX0_aheadOf 46 = .ok (.iconst 1, 1) := by decide +kernel
theorem dX0_aheadOf_47 : decode cX0_aheadOf 47 = .ok (.isub, 1) := by decide +kernel
theorem dX0_aheadOf_48 : decode cX0_aheadOf 48 = .ok (.isub, 1) := by decide +kernel
theorem dX0_aheadOf_49 : decode cX0_aheadOf 49 = .ok (.iload 4, 2) := by decide +kernel
theorem dX0_aheadOf_51 : decode cX0_aheadOf 51 = .ok (.invokestatic 52, 3) := by decide +kernel
theorem dX0_aheadOf_54 : decode cX0_aheadOf 54 = .ok (.if_icmp .ge 7, 3) := by decide +kernel
theorem dX0_aheadOf_57 : decode cX0_aheadOf 57 = .ok (.iconst 0, 1) := by decide +kernel
theorem dX0_aheadOf_58 : decode cX0_aheadOf 58 = .ok (.goto 4, 3) := by decide +kernel
theorem dX0_aheadOf_61 : decode cX0_aheadOf 61 = .ok (.iconst 1, 1) := by decide +kernel
theorem dX0_aheadOf_62 : decode cX0_aheadOf 62 = .ok (.istore 5, 2) := by decide +kernel
theorem dX0_aheadOf_64 : decode cX0_aheadOf 64 = .ok (.iload_n 3, 1) := by decide +kernel
theorem dX0_aheadOf_65 : decode cX0_aheadOf 65 = .ok (.ifCond .ne 11, 3) := by decide +kernel
theorem dX0_aheadOf_68 : decode cX0_aheadOf 68 = .ok (.iload 4, 2) := by decide +kernel
theorem dX0_aheadOf_70 : decode cX0_aheadOf 70 = .ok (.iconst 4, 1) := by decide +kernel
theorem dX0_aheadOf_71 : decode cX0_aheadOf 71 = .ok (.isub, 1) := by decide +kernel
theorem dX0_aheadOf_72 : decode cX0_aheadOf 72 = .ok (.iload 5, 2) := by decide +kernel
theorem dX0_aheadOf_74 : decode cX0_aheadOf 74 = .ok (.iadd, 1) := by decide +kernel
theorem dX0_aheadOf_75 : decode cX0_aheadOf 75 = .ok (.ireturn, 1) := by decide +kernel
theorem dX0_aheadOf_76 : decode cX0_aheadOf 76 = .ok (.iload 4, 2) := by decide +kernel
theorem dX0_aheadOf_78 : decode cX0_aheadOf 78 = .ok (.iload_n 2, 1) := by decide +kernel
theorem dX0_aheadOf_79 : decode cX0_aheadOf 79 = .ok (.invokestatic 114, 3) := by decide +kernel
theorem dX0_aheadOf_82 : decode cX0_aheadOf 82 = .ok (.iconst 1, 1) := by decide +kernel
theorem dX0_aheadOf_83 : decode cX0_aheadOf 83 = .ok (.if_icmp .le 9, 3) := by decide +kernel
theorem dX0_aheadOf_86 : decode cX0_aheadOf 86 = .ok (.iload_n 2, 1) := by decide +kernel
theorem dX0_aheadOf_87 : decode cX0_aheadOf 87 = .ok (.iconst 1, 1) := by decide +kernel
theorem dX0_aheadOf_88 : decode cX0_aheadOf 88 = .ok (.isub, 1) := by decide +kernel
theorem dX0_aheadOf_89 : decode cX0_aheadOf 89 = .ok (.goto 4, 3) := by decide +kernel
theorem dX0_aheadOf_92 : decode cX0_aheadOf 92 = .ok (.iconst (-1), 1) := by decide +kernel
theorem dX0_aheadOf_93 : decode cX0_aheadOf 93 = .ok (.ireturn, 1) := by decide +kernel
theorem kSX0_aheadOf : yX0_aheadOf.cls ≠ "java/lang/invoke/MethodHandle" ∧ yX0_aheadOf.cls ≠ "java/lang/invoke/VarHandle" ∧ (parseMethodDescriptor yX0_aheadOf.desc).map (fun d => d.parameters.length) = some 3 := by decide +kernel
theorem kVX0_aheadOf : yX0_aheadOf.cls = RX0 ∧ yX0_aheadOf.cls ≠ "java/lang/invoke/MethodHandle" ∧ yX0_aheadOf.cls ≠ "java/lang/invoke/VarHandle" ∧ (parseMethodDescriptor yX0_aheadOf.desc).map (fun d => d.parameters.length) = some 3 := ⟨rfl, kSX0_aheadOf⟩
theorem dX0_firstStale_0 : decode cX0_firstStale 0 = .ok (.iconst 0, 1) := by decide +kernel
theorem dX0_firstStale_1 : decode cX0_firstStale 1 = .ok (.istore_n 2, 1) := by decide +kernel
theorem dX0_firstStale_2 : decode cX0_firstStale 2 = .ok (.iload_n 2, 1) := by decide +kernel
theorem dX0_firstStale_3 : decode cX0_firstStale 3 = .ok (.aload_n 0, 1) := by decide +kernel
theorem dX0_firstStale_4 : decode cX0_firstStale 4 = .ok (.iload_n 1, 1) := by decide +kernel
theorem dX0_firstStale_5 : decode cX0_firstStale 5 = .ok (.invokevirtual 59, 3) := by decide +kernel
theorem dX0_firstStale_8 : decode cX0_firstStale 8 = .ok (.if_icmp .ge 93, 3) := by decide +kernel
theorem dX0_firstStale_11 : decode cX0_firstStale 11 = .ok (.aload_n 0, 1) := by decide +kernel
theorem dX0_firstStale_12 : decode cX0_firstStale 12 = .ok (.getfield 11, 3) := by decide +kernel
theorem dX0_firstStale_15 : decode cX0_firstStale 15 = .ok (.iload_n 1, 1) := by decide +kernel
theorem dX0_firstStale_16 : decode cX0_firstStale 16 = .ok (.iload_n 2, 1) := by decide +kernel
theorem dX0_firstStale_17 : decode cX0_firstStale 17 = .ok (.iconst 0, 1) := by decide +kernel
theorem dX0_firstStale_18 : decode cX0_firstStale 18 = .ok (.invokestatic 110, 3) := by decide +kernel
theorem dX0_firstStale_21 : decode cX0_firstStale 21 = .ok (.invokevirtual 42, 3) := by decide +kernel
theorem dX0_firstStale_24 : decode cX0_firstStale 24 = .ok (.ifCond .eq 7, 3) := by decide +kernel
theorem dX0_firstStale_27 : decode cX0_firstStale 27 = .ok (.iconst 1, 1) := by decide +kernel
theorem dX0_firstStale_28 : decode cX0_firstStale 28 = .ok (.goto 4, 3) := by decide +kernel
theorem dX0_firstStale_31 : decode cX0_firstStale 31 = .ok (.iconst 0, 1) := by decide +kernel
theorem dX0_firstStale_32 : decode cX0_firstStale 32 = .ok (.istore_n 3, 1) := by decide +kernel
theorem dX0_firstStale_33 : decode cX0_firstStale 33 = .ok (.aload_n 0, 1) := by decide +kernel
theorem dX0_firstStale_34 : decode cX0_firstStale 34 = .ok (.getfield 11, 3) := by decide +kernel
theorem dX0_firstStale_37 : decode cX0_firstStale 37 = .ok (.iload_n 1, 1) := by decide +kernel
theorem dX0_firstStale_38 : decode cX0_firstStale 38 = .ok (.iload_n 2, 1) := by decide +kernel
theorem dX0_firstStale_39 : decode cX0_firstStale 39 = .ok (.iconst 1, 1) := by decide +kernel
theorem dX0_firstStale_40 : decode cX0_firstStale 40 = .ok (.invokestatic 110, 3) := by decide +kernel
theorem dX0_firstStale_43 : decode cX0_firstStale 43 = .ok (.invokevirtual 42, 3) := by decide +kernel
theorem dX0_firstStale_46 : decode cX0_firstStale 46 = .ok (.aload_n 0, 1) := by decide +kernel
theorem dX0_firstStale_47 : decode cX0_firstStale 47 = .ok (.iload_n 1, 1) := by decide +kernel
theorem dX0_firstStale_48 : decode cX0_firstStale 48 = .ok (.iload_n 2, 1) := by decide +kernel
theorem dX0_firstStale_49 : decode cX0_firstStale 49 = .ok (.invokevirtual 71, 3) := by decide +kernel
theorem dX0_firstStale_52 : decode cX0_firstStale 52 = .ok (.if_icmp .ne 29, 3) := by decide +kernel
theorem dX0_firstStale_55 : decode cX0_firstStale 55 = .ok (.aload_n 0, 1) := by decide +kernel
theorem dX0_firstStale_56 : decode cX0_firstStale 56 = .ok (.getfield 11, 3) := by decide +kernel
theorem dX0_firstStale_59 : decode cX0_firstStale 59 = .ok (.iload_n 1, 1) := by decide +kernel
theorem dX0_firstStale_60 : decode cX0_firstStale 60 = .ok (.iload_n 2, 1) := by decide +kernel
theorem dX0_firstStale_61 : decode cX0_firstStale 61 = .ok (.iconst 2, 1) := by decide +kernel
theorem dX0_firstStale_62 : decode cX0_firstStale 62 = .ok (.invokestatic 110, 3) := by decide +kernel
theorem dX0_firstStale_65 : decode cX0_firstStale 65 = .ok (.invokevirtual 42, 3) := by decide +kernel
theorem dX0_firstStale_68 : decode cX0_firstStale 68 = .ok (.aload_n 0, 1) := by decide +kernel
theorem dX0_firstStale_69 : decode cX0_firstStale 69 = .ok (.iload_n 1, 1) := by decide +kernel
theorem dX0_firstStale_70 : decode cX0_firstStale 70 = .ok (.iload_n 2, 1) := by decide +kernel
theorem dX0_firstStale_71 : decode cX0_firstStale 71 = .ok (.invokevirtual 74, 3) := by decide +kernel
theorem dX0_firstStale_74 : decode cX0_firstStale 74 = .ok (.if_icmp .ne 7, 3) := by decide +kernel
theorem dX0_firstStale_77 : decode cX0_firstStale 77 = .ok (.iconst 1, 1) := by decide +kernel
theorem dX0_firstStale_78 : decode cX0_firstStale 78 = .ok (.goto 4, 3) := by decide +kernel
theorem dX0_firstStale_81 : decode cX0_firstStale 81 = .ok (.iconst 0, 1) := by decide +kernel
theorem dX0_firstStale_82 : decode cX0_firstStale 82 = .ok (.istore 4, 2) := by decide +kernel
theorem dX0_firstStale_84 : decode cX0_firstStale 84 = .ok (.iload_n 3, 1) := by decide +kernel
theorem dX0_firstStale_85 : decode cX0_firstStale 85 = .ok (.ifCond .eq 10, 3) := by decide +kernel
theorem dX0_firstStale_88 : decode cX0_firstStale 88 = .ok (.iload 4, 2) := by decide +kernel
theorem dX0_firstStale_90 : decode cX0_firstStale 90 = .ok (.ifCond .ne 5, 3) := by decide +kernel
theorem dX0_firstStale_93 : decode cX0_firstStale 93 = .ok (.iload_n 2, 1) := by decide +kernel
theorem dX0_firstStale_94 : decode cX0_firstStale 94 = .ok (.ireturn, 1) := by decide +kernel
theorem dX0_firstStale_95 : decode cX0_firstStale 95 = .ok (.iinc 2 1, 3) := by decide +kernel
theorem dX0_firstStale_98 : decode cX0_firstStale 98 = .ok (.goto (-96), 3) := by decide +kernel
theorem dX0_firstStale_101 : decode cX0_firstStale 101 = .ok (.iconst (-1), 1) := by decide +kernel
theorem dX0_firstStale_102 : decode cX0_firstStale 102 = .ok (.ireturn, 1) := by decide +kernel
theorem kSX0_firstStale : yX0_firstStale.cls ≠ "java/lang/invoke/MethodHandle" ∧ yX0_firstStale.cls ≠ "java/lang/invoke/VarHandle" ∧ (parseMethodDescriptor yX0_firstStale.desc).map (fun d => d.parameters.length) = some 1 := by decide +kernel
theorem kVX0_firstStale : yX0_firstStale.cls = RX0 ∧ yX0_firstStale.cls ≠ "java/lang/invoke/MethodHandle" ∧ yX0_firstStale.cls ≠ "java/lang/invoke/VarHandle" ∧ (parseMethodDescriptor yX0_firstStale.desc).map (fun d => d.parameters.length) = some 1 := ⟨rfl, kSX0_firstStale⟩
theorem dX0_lowerBelow_0 : decode cX0_lowerBelow 0 = .ok (.iconst 2, 1) := by decide +kernel
theorem dX0_lowerBelow_1 : decode cX0_lowerBelow 1 = .ok (.iload_n 1, 1) := by decide +kernel
theorem dX0_lowerBelow_2 : decode cX0_lowerBelow 2 = .ok (.iload_n 0, 1) := by decide +kernel
theorem dX0_lowerBelow_3 : decode cX0_lowerBelow 3 = .ok (.iconst 2, 1) := by decide +kernel
theorem dX0_lowerBelow_4 : decode cX0_lowerBelow 4 = .ok (.idiv, 1) := by decide +kernel
theorem dX0_lowerBelow_5 : decode cX0_lowerBelow 5 = .ok (.isub, 1) := by decide +kernel
theorem dX0_lowerBelow_6 : decode cX0_lowerBelow 6 = .ok (.imul, 1) := by decide +kernel
theorem dX0_lowerBelow_7 : decode cX0_lowerBelow 7 = .ok (.ireturn, 1) := by decide +kernel
theorem kSX0_lowerBelow : yX0_lowerBelow.cls ≠ "java/lang/invoke/MethodHandle" ∧ yX0_lowerBelow.cls ≠ "java/lang/invoke/VarHandle" ∧ (parseMethodDescriptor yX0_lowerBelow.desc).map (fun d => d.parameters.length) = some 2 := by decide +kernel
theorem dX0_stageOf_0 : decode cX0_stageOf 0 = .ok (.aload_n 0, 1) := by decide +kernel
theorem dX0_stageOf_1 : decode cX0_stageOf 1 = .ok (.iload_n 1, 1) := by decide +kernel
theorem dX0_stageOf_2 : decode cX0_stageOf 2 = .ok (.invokevirtual 49, 3) := by decide +kernel
theorem dX0_stageOf_5 : decode cX0_stageOf 5 = .ok (.istore_n 3, 1) := by decide +kernel
theorem dX0_stageOf_6 : decode cX0_stageOf 6 = .ok (.aload_n 0, 1) := by decide +kernel
theorem dX0_stageOf_7 : decode cX0_stageOf 7 = .ok (.iload_n 1, 1) := by decide +kernel
theorem dX0_stageOf_8 : decode cX0_stageOf 8 = .ok (.invokevirtual 46, 3) := by decide +kernel
theorem dX0_stageOf_11 : decode cX0_stageOf 11 = .ok (.iconst 2, 1) := by decide +kernel
theorem dX0_stageOf_12 : decode cX0_stageOf 12 = .ok (.if_icmp .eq 5, 3) := by decide +kernel
theorem dX0_stageOf_15 : decode cX0_stageOf 15 = .ok (.iconst 0, 1) := by decide +kernel
theorem dX0_stageOf_16 : decode cX0_stageOf 16 = .ok (.ireturn, 1) := by decide +kernel
theorem dX0_stageOf_17 : decode cX0_stageOf 17 = .ok (.iload_n 2, 1) := by decide +kernel
theorem dX0_stageOf_18 : decode cX0_stageOf 18 = .ok (.iload_n 3, 1) := by decide +kernel
theorem dX0_stageOf_19 : decode cX0_stageOf 19 = .ok (.iconst 2, 1) := by decide +kernel
theorem dX0_stageOf_20 : decode cX0_stageOf 20 = .ok (.isub, 1) := by decide +kernel
theorem dX0_stageOf_21 : decode cX0_stageOf 21 = .ok (.if_icmp .le 12, 3) := by decide +kernel
theorem dX0_stageOf_24 : decode cX0_stageOf 24 = .ok (.bipush 10, 2) := by decide +kernel
theorem dX0_stageOf_26 : decode cX0_stageOf 26 = .ok (.iload_n 3, 1) := by decide +kernel
theorem dX0_stageOf_27 : decode cX0_stageOf 27 = .ok (.iload_n 2, 1) := by decide +kernel
theorem dX0_stageOf_28 : decode cX0_stageOf 28 = .ok (.invokestatic 114, 3) := by decide +kernel
theorem dX0_stageOf_31 : decode cX0_stageOf 31 = .ok (.iadd, 1) := by decide +kernel
theorem dX0_stageOf_32 : decode cX0_stageOf 32 = .ok (.ireturn, 1) := by decide +kernel
theorem dX0_stageOf_33 : decode cX0_stageOf 33 = .ok (.iconst 0, 1) := by decide +kernel
theorem dX0_stageOf_34 : decode cX0_stageOf 34 = .ok (.istore 4, 2) := by decide +kernel
theorem dX0_stageOf_36 : decode cX0_stageOf 36 = .ok (.iload_n 3, 1) := by decide +kernel
theorem dX0_stageOf_37 : decode cX0_stageOf 37 = .ok (.iconst 2, 1) := by decide +kernel
theorem dX0_stageOf_38 : decode cX0_stageOf 38 = .ok (.idiv, 1) := by decide +kernel
theorem dX0_stageOf_39 : decode cX0_stageOf 39 = .ok (.istore 5, 2) := by decide +kernel
theorem dX0_stageOf_41 : decode cX0_stageOf 41 = .ok (.iload 5, 2) := by decide +kernel
theorem dX0_stageOf_43 : decode cX0_stageOf 43 = .ok (.iload_n 2, 1) := by decide +kernel
theorem dX0_stageOf_44 : decode cX0_stageOf 44 = .ok (.if_icmp .gt 26, 3) := by decide +kernel
theorem dX0_stageOf_47 : decode cX0_stageOf 47 = .ok (.iload 4, 2) := by decide +kernel
theorem dX0_stageOf_49 : decode cX0_stageOf 49 = .ok (.iconst 5, 1) := by decide +kernel
theorem dX0_stageOf_50 : decode cX0_stageOf 50 = .ok (.if_icmp .ge 20, 3) := by decide +kernel
theorem dX0_stageOf_53 : decode cX0_stageOf 53 = .ok (.iinc 4 1, 3) := by decide +kernel
theorem dX0_stageOf_56 : decode cX0_stageOf 56 = .ok (.iload 5, 2) := by decide +kernel
theorem dX0_stageOf_58 : decode cX0_stageOf 58 = .ok (.iload_n 3, 1) := by decide +kernel
theorem dX0_stageOf_59 : decode cX0_stageOf 59 = .ok (.iload 4, 2) := by decide +kernel
theorem dX0_stageOf_61 : decode cX0_stageOf 61 = .ok (.iconst 1, 1) := by decide +kernel
theorem dX0_stageOf_62 : decode cX0_stageOf 62 = .ok (.iadd, 1) := by decide +kernel
theorem dX0_stageOf_63 : decode cX0_stageOf 63 = .ok (.ishr, 1) := by decide +kernel
theorem dX0_stageOf_64 : decode cX0_stageOf 64 = .ok (.iadd, 1) := by decide +kernel
theorem dX0_stageOf_65 : decode cX0_stageOf 65 = .ok (.istore 5, 2) := by decide +kernel
theorem dX0_stageOf_67 : decode cX0_stageOf 67 = .ok (.goto (-26), 3) := by decide +kernel
theorem dX0_stageOf_70 : decode cX0_stageOf 70 = .ok (.iload_n 2, 1) := by decide +kernel
theorem dX0_stageOf_71 : decode cX0_stageOf 71 = .ok (.iload_n 3, 1) := by decide +kernel
theorem dX0_stageOf_72 : decode cX0_stageOf 72 = .ok (.iconst 2, 1) := by decide +kernel
theorem dX0_stageOf_73 : decode cX0_stageOf 73 = .ok (.isub, 1) := by decide +kernel
theorem dX0_stageOf_74 : decode cX0_stageOf 74 = .ok (.if_icmp .ne 8, 3) := by decide +kernel
theorem dX0_stageOf_77 : decode cX0_stageOf 77 = .ok (.bipush 20, 2) := by decide +kernel
theorem dX0_stageOf_79 : decode cX0_stageOf 79 = .ok (.goto 5, 3) := by decide +kernel
theorem dX0_stageOf_82 : decode cX0_stageOf 82 = .ok (.iload 4, 2) := by decide +kernel
theorem dX0_stageOf_84 : decode cX0_stageOf 84 = .ok (.ireturn, 1) := by decide +kernel
theorem kSX0_stageOf : yX0_stageOf.cls ≠ "java/lang/invoke/MethodHandle" ∧ yX0_stageOf.cls ≠ "java/lang/invoke/VarHandle" ∧ (parseMethodDescriptor yX0_stageOf.desc).map (fun d => d.parameters.length) = some 2 := by decide +kernel
theorem kVX0_stageOf : yX0_stageOf.cls = RX0 ∧ yX0_stageOf.cls ≠ "java/lang/invoke/MethodHandle" ∧ yX0_stageOf.cls ≠ "java/lang/invoke/VarHandle" ∧ (parseMethodDescriptor yX0_stageOf.desc).map (fun d => d.parameters.length) = some 2 := ⟨rfl, kSX0_stageOf⟩
theorem dX0_stepOf_0 : decode cX0_stepOf 0 = .ok (.iload_n 0, 1) := by decide +kernel
theorem dX0_stepOf_1 : decode cX0_stepOf 1 = .ok (.invokestatic 52, 3) := by decide +kernel
theorem dX0_stepOf_4 : decode cX0_stepOf 4 = .ok (.istore_n 2, 1) := by decide +kernel
theorem dX0_stepOf_5 : decode cX0_stepOf 5 = .ok (.iload_n 1, 1) := by decide +kernel
theorem dX0_stepOf_6 : decode cX0_stepOf 6 = .ok (.iload_n 0, 1) := by decide +kernel
theorem dX0_stepOf_7 : decode cX0_stepOf 7 = .ok (.iconst 1, 1) := by decide +kernel
theorem dX0_stepOf_8 : decode cX0_stepOf 8 = .ok (.isub, 1) := by decide +kernel
theorem dX0_stepOf_9 : decode cX0_stepOf 9 = .ok (.isub, 1) := by decide +kernel
theorem dX0_stepOf_10 : decode cX0_stepOf 10 = .ok (.istore_n 3, 1) := by decide +kernel
theorem dX0_stepOf_11 : decode cX0_stepOf 11 = .ok (.iload_n 3, 1) := by decide +kernel
theorem dX0_stepOf_12 : decode cX0_stepOf 12 = .ok (.iload_n 2, 1) := by decide +kernel
theorem dX0_stepOf_13 : decode cX0_stepOf 13 = .ok (.if_icmp .ge 9, 3) := by decide +kernel
theorem dX0_stepOf_16 : decode cX0_stepOf 16 = .ok (.iload_n 3, 1) := by decide +kernel
theorem dX0_stepOf_17 : decode cX0_stepOf 17 = .ok (.iconst 1, 1) := by decide +kernel
theorem dX0_stepOf_18 : decode cX0_stepOf 18 = .ok (.iadd, 1) := by decide +kernel
theorem dX0_stepOf_19 : decode cX0_stepOf 19 = .ok (.goto 8, 3) := by decide +kernel
theorem dX0_stepOf_22 : decode cX0_stepOf 22 = .ok (.iload_n 3, 1) := by decide +kernel
theorem dX0_stepOf_23 : decode cX0_stepOf 23 = .ok (.iload_n 2, 1) := by decide +kernel
theorem dX0_stepOf_24 : decode cX0_stepOf 24 = .ok (.isub, 1) := by decide +kernel
theorem dX0_stepOf_25 : decode cX0_stepOf 25 = .ok (.iconst 1, 1) := by decide +kernel
theorem dX0_stepOf_26 : decode cX0_stepOf 26 = .ok (.iadd, 1) := by decide +kernel
theorem dX0_stepOf_27 : decode cX0_stepOf 27 = .ok (.ireturn, 1) := by decide +kernel
theorem kSX0_stepOf : yX0_stepOf.cls ≠ "java/lang/invoke/MethodHandle" ∧ yX0_stepOf.cls ≠ "java/lang/invoke/VarHandle" ∧ (parseMethodDescriptor yX0_stepOf.desc).map (fun d => d.parameters.length) = some 2 := by decide +kernel
theorem dX10_isDigit_0 : decode cX10_isDigit 0 = .ok (.iload_n 0, 1) := by decide +kernel
theorem dX10_isDigit_1 : decode cX10_isDigit 1 = .ok (.bipush 48, 2) := by decide +kernel
theorem dX10_isDigit_3 : decode cX10_isDigit 3 = .ok (.if_icmp .lt 13, 3) := by decide +kernel
theorem dX10_isDigit_6 : decode cX10_isDigit 6 = .ok (.iload_n 0, 1) := by decide +kernel
theorem dX10_isDigit_7 : decode cX10_isDigit 7 = .ok (.bipush 57, 2) := by decide +kernel
theorem dX10_isDigit_9 : decode cX10_isDigit 9 = .ok (.if_icmp .gt 7, 3) := by decide +kernel
theorem dX10_isDigit_12 : decode cX10_isDigit 12 = .ok (.iconst 1, 1) := by decide +kernel
theorem dX10_isDigit_13 : decode cX10_isDigit 13 = .ok (.goto 4, 3) := by decide +kernel
theorem dX10_isDigit_16 : decode cX10_isDigit 16 = .ok (.iconst 0, 1) := by decide +kernel
theorem dX10_isDigit_17 : decode cX10_isDigit 17 = .ok (.ireturn, 1) := by decide +kernel
theorem kSX10_isDigit : yX10_isDigit.cls ≠ "java/lang/invoke/MethodHandle" ∧ yX10_isDigit.cls ≠ "java/lang/invoke/VarHandle" ∧ (parseMethodDescriptor yX10_isDigit.desc).map (fun d => d.parameters.length) = some 1 := by decide +kernel
theorem dX10_isLetter_0 : decode cX10_isLetter 0 = .ok (.iload_n 0, 1) := by decide +kernel
theorem dX10_isLetter_1 : decode cX10_isLetter 1 = .ok (.bipush 97, 2) := by decide +kernel
theorem dX10_isLetter_3 : decode cX10_isLetter 3 = .ok (.if_icmp .lt 13, 3) := by decide +kernel
theorem dX10_isLetter_6 : decode cX10_isLetter 6 = .ok (.iload_n 0, 1) := by decide +kernel
theorem dX10_isLetter_7 : decode cX10_isLetter 7 = .ok (.bipush 122, 2) := by decide +kernel
theorem dX10_isLetter_9 : decode cX10_isLetter 9 = .ok (.if_icmp .gt 7, 3) := by decide +kernel
theorem dX10_isLetter_12 : decode cX10_isLetter 12 = .ok (.iconst 1, 1) := by decide +kernel
theorem dX10_isLetter_13 : decode cX10_isLetter 13 = .ok (.goto 4, 3) := by decide +kernel
theorem dX10_isLetter_16 : decode cX10_isLetter 16 = .ok (.iconst 0, 1) := by decide +kernel
theorem dX10_isLetter_17 : decode cX10_isLetter 17 = .ok (.ireturn, 1) := by decide +kernel
theorem kSX10_isLetter : yX10_isLetter.cls ≠ "java/lang/invoke/MethodHandle" ∧ yX10_isLetter.cls ≠ "java/lang/invoke/VarHandle" ∧ (parseMethodDescriptor yX10_isLetter.desc).map (fun d => d.parameters.length) = some 1 := by decide +kernel
theorem dX10_isWordAt_0 : decode cX10_isWordAt 0 = .ok (.aload_n 0, 1) := by decide +kernel
theorem dX10_isWordAt_1 : decode cX10_isWordAt 1 = .ok (.getfield 25, 3) := by decide +kernel
theorem dX10_isWordAt_4 : decode cX10_isWordAt 4 = .ok (.aload_n 0, 1) := by decide +kernel
theorem dX10_isWordAt_5 : decode cX10_isWordAt 5 = .ok (.getfield 36, 3) := by decide +kernel
theorem dX10_isWordAt_8 : decode cX10_isWordAt 8 = .ok (.isub, 1) := by decide +kernel
theorem dX10_isWordAt_9 : decode cX10_isWordAt 9 = .ok (.iload_n 2, 1) := by decide +kernel
theorem dX10_isWordAt_10 : decode cX10_isWordAt 10 = .ok (.if_icmp .eq 5, 3) := by decide +kernel
theorem dX10_isWordAt_13 : decode cX10_isWordAt 13 = .ok (.iconst 0, 1) := by decide +kernel
theorem dX10_isWordAt_14 : decode cX10_isWordAt 14 = .ok (.ireturn, 1) := by decide +kernel
theorem dX10_isWordAt_15 : decode cX10_isWordAt 15 = .ok (.iconst 0, 1) := by decide +kernel
theorem dX10_isWordAt_16 : decode cX10_isWordAt 16 = .ok (.istore_n 3, 1) := by decide +kernel
theorem dX10_isWordAt_17 : decode cX10_isWordAt 17 = .ok (.iload_n 3, 1) := by decide +kernel
theorem dX10_isWordAt_18 : decode cX10_isWordAt 18 = .ok (.iload_n 2, 1) := by decide +kernel
theorem dX10_isWordAt_19 : decode cX10_isWordAt 19 = .ok (.if_icmp .ge 37, 3) := by decide +kernel
theorem dX10_isWordAt_22 : decode cX10_isWordAt 22 = .ok (.aload_n 0, 1) := by decide +kernel
theorem dX10_isWordAt_23 : decode cX10_isWordAt 23 = .ok (.getfield 14, 3) := by decide +kernel
theorem dX10_isWordAt_26 : decode cX10_isWordAt 26 = .ok (.aload_n 0, 1) := by decide +kernel
theorem dX10_isWordAt_27 : decode cX10_isWordAt 27 = .ok (.getfield 36, 3) := by decide +kernel
theorem dX10_isWordAt_30 : decode cX10_isWordAt 30 = .ok (.iload_n 3, 1) := by decide +kernel
theorem dX10_isWordAt_31 : decode cX10_isWordAt 31 = .ok (.iadd, 1) := by decide +kernel
theorem dX10_isWordAt_32 : decode cX10_isWordAt 32 = .ok (.invokevirtual 28, 3) := by decide +kernel
theorem dX10_isWordAt_35 : decode cX10_isWordAt 35 = .ok (.aload_n 0, 1) := by decide +kernel
theorem dX10_isWordAt_36 : decode cX10_isWordAt 36 = .ok (.getfield 14, 3) := by decide +kernel
theorem dX10_isWordAt_39 : decode cX10_isWordAt 39 = .ok (.iload_n 1, 1) := by decide +kernel
theorem dX10_isWordAt_40 : decode cX10_isWordAt 40 = .ok (.iload_n 3, 1) := by decide +kernel
theorem dX10_isWordAt_41 : decode cX10_isWordAt 41 = .ok (.iadd, 1) := by decide +kernel
theorem dX10_isWordAt_42 : decode cX10_isWordAt 42 = .ok (.invokevirtual 28, 3) := by decide +kernel
theorem dX10_isWordAt_45 : decode cX10_isWordAt 45 = .ok (.if_icmp .eq 5, 3) := by decide +kernel
theorem dX10_isWordAt_48 : decode cX10_isWordAt 48 = .ok (.iconst 0, 1) := by decide +kernel
theorem dX10_isWordAt_49 : decode cX10_isWordAt 49 = .ok (.ireturn, 1) := by decide +kernel
theorem dX10_isWordAt_50 : decode cX10_isWordAt 50 = .ok (.iinc 3 1, 3) := by decide +kernel
theorem dX10_isWordAt_53 : decode cX10_isWordAt 53 = .ok (.goto (-36), 3) := by decide +kernel
theorem dX10_isWordAt_56 : decode cX10_isWordAt 56 = .ok (.iconst 1, 1) := by decide +kernel
theorem dX10_isWordAt_57 : decode cX10_isWordAt 57 = .ok (.ireturn, 1) := by decide +kernel
theorem kSX10_isWordAt : yX10_isWordAt.cls ≠ "java/lang/invoke/MethodHandle" ∧ yX10_isWordAt.cls ≠ "java/lang/invoke/VarHandle" ∧ (parseMethodDescriptor yX10_isWordAt.desc).map (fun d => d.parameters.length) = some 2 := by decide +kernel
theorem kVX10_isWordAt : yX10_isWordAt.cls = RX10 ∧ yX10_isWordAt.cls ≠ "java/lang/invoke/MethodHandle" ∧ yX10_isWordAt.cls ≠ "java/lang/invoke/VarHandle" ∧ (parseMethodDescriptor yX10_isWordAt.desc).map (fun d => d.parameters.length) = some 2 := ⟨rfl, kSX10_isWordAt⟩
theorem dX10_readNumber_0 : decode cX10_readNumber 0 = .ok (.aload_n 0, 1) := by decide +kernel
theorem dX10_readNumber_1 : decode cX10_readNumber 1 = .ok (.iconst 0, 1) := by decide +kernel
theorem dX10_readNumber_2 : decode cX10_readNumber 2 = .ok (.putfield 61, 3) := by decide +kernel
theorem dX10_readNumber_5 : decode cX10_readNumber 5 = .ok (.aload_n 0, 1) := by decide +kernel
theorem dX10_readNumber_6 : decode cX10_readNumber 6 = .ok (.getfield 25, 3) := by decide +kernel
theorem dX10_readNumber_9 : decode cX10_readNumber 9 = .ok (.aload_n 0, 1) := by decide +kernel
theorem dX10_readNumber_10 : decode cX10_readNumber 10 = .ok (.getfield 18, 3) := by decide +kernel
theorem dX10_readNumber_13 : decode cX10_readNumber 13 = .ok (.if_icmp .ge 72, 3) := by decide +kernel
theorem dX10_readNumber_16 : decode cX10_readNumber 16 = .ok (.aload_n 0, 1) := by decide +kernel
theorem dX10_readNumber_17 : decode cX10_readNumber 17 = .ok (.getfield 14, 3) := by decide +kernel
theorem dX10_readNumber_20 : decode cX10_readNumber 20 = .ok (.aload_n 0, 1) := by decide +kernel
theorem dX10_readNumber_21 : decode cX10_readNumber 21 = .ok (.getfield 25, 3) := by decide +kernel
theorem dX10_readNumber_24 : decode cX10_readNumber 24 = .ok (.invokevirtual 28, 3) := by decide +kernel
theorem dX10_readNumber_27 : decode cX10_readNumber 27 = .ok (.invokestatic 48, 3) := by decide +kernel
theorem dX10_readNumber_30 : decode cX10_readNumber 30 = .ok (.ifCond .eq 55, 3) := by decide +kernel
theorem dX10_readNumber_33 : decode cX10_readNumber 33 = .ok (.aload_n 0, 1) := by decide +kernel
theorem dX10_readNumber_34 : decode cX10_readNumber 34 = .ok (.getfield 25, 3) := by decide +kernel
theorem dX10_readNumber_37 : decode cX10_readNumber 37 = .ok (.aload_n 0, 1) := by decide +kernel
theorem dX10_readNumber_38 : decode cX10_readNumber 38 = .ok (.getfield 36, 3) := by decide +kernel
theorem dX10_readNumber_41 : decode cX10_readNumber 41 = .ok (.isub, 1) := by decide +kernel
theorem dX10_readNumber_42 : decode cX10_readNumber 42 = .ok (.iconst 4, 1) := by decide +kernel
theorem dX10_readNumber_43 : decode cX10_readNumber 43 = .ok (.if_icmp .ge 29, 3) := by decide +kernel
theorem dX10_readNumber_46 : decode cX10_readNumber 46 = .ok (.aload_n 0, 1) := by decide +kernel
theorem dX10_readNumber_47 : decode cX10_readNumber 47 = .ok (.bipush 10, 2) := by decide +kernel
theorem dX10_readNumber_49 : decode cX10_readNumber 49 = .ok (.aload_n 0, 1) := by decide +kernel
theorem dX10_readNumber_50 : decode cX10_readNumber 50 = .ok (.getfield 61, 3) := by decide +kernel
theorem dX10_readNumber_53 : decode cX10_readNumber 53 = .ok (.imul, 1) := by decide +kernel
theorem dX10_readNumber_54 : decode cX10_readNumber 54 = .ok (.aload_n 0, 1) := by decide +kernel
theorem dX10_readNumber_55 : decode cX10_readNumber 55 = .ok (.getfield 14, 3) := by decide +kernel
theorem dX10_readNumber_58 : decode cX10_readNumber 58 = .ok (.aload_n 0, 1) := by decide +kernel
theorem dX10_readNumber_59 : decode cX10_readNumber 59 = .ok (.getfield 25, 3) := by decide +kernel
theorem dX10_readNumber_62 : decode cX10_readNumber 62 = .ok (.invokevirtual 28, 3) := by decide +kernel
theorem dX10_readNumber_65 : decode cX10_readNumber 65 = .ok (.iadd, 1) := by decide +kernel
theorem dX10_readNumber_66 : decode cX10_readNumber 66 = .ok (.bipush 48, 2) := by decide +kernel
theorem dX10_readNumber_68 : decode cX10_readNumber 68 = .ok (.isub, 1) := by decide +kernel
theorem dX10_readNumber_69 : decode cX10_readNumber 69 = .ok (.putfield 61, 3) := by decide +kernel
theorem dX10_readNumber_72 : decode cX10_readNumber 72 = .ok (.aload_n 0, 1) := by decide +kernel
theorem dX10_readNumber_73 : decode cX10_readNumber 73 = .ok (.dup, 1) := by decide +kernel
theorem dX10_readNumber_74 : decode cX10_readNumber 74 = .ok (.getfield 25, 3) := by decide +kernel
theorem dX10_readNumber_77 : decode cX10_readNumber 77 = .ok (.iconst 1, 1) := by decide +kernel
theorem dX10_readNumber_78 : decode cX10_readNumber 78 = .ok (.iadd, 1) := by decide +kernel
theorem dX10_readNumber_79 : decode cX10_readNumber 79 = .ok (.putfield 25, 3) := by decide +kernel
theorem dX10_readNumber_82 : decode cX10_readNumber 82 = .ok (.goto (-77), 3) := by decide +kernel
theorem dX10_readNumber_85 : decode cX10_readNumber 85 = .ok (.aload_n 0, 1) := by decide +kernel
theorem dX10_readNumber_86 : decode cX10_readNumber 86 = .ok (.aload_n 0, 1) := by decide +kernel
theorem dX10_readNumber_87 : decode cX10_readNumber 87 = .ok (.getfield 25, 3) := by decide +kernel
theorem dX10_readNumber_90 : decode cX10_readNumber 90 = .ok (.aload_n 0, 1) := by decide +kernel
theorem dX10_readNumber_91 : decode cX10_readNumber 91 = .ok (.getfield 36, 3) := by decide +kernel
theorem dX10_readNumber_94 : decode cX10_readNumber 94 = .ok (.isub, 1) := by decide +kernel
theorem dX10_readNumber_95 : decode cX10_readNumber 95 = .ok (.iconst 4, 1) := by decide +kernel
theorem dX10_readNumber_96 : decode cX10_readNumber 96 = .ok (.if_icmp .le 7, 3) := by decide +kernel
theorem dX10_readNumber_99 : decode cX10_readNumber 99 = .ok (.iconst 1, 1) := by decide +kernel
theorem dX10_readNumber_100 : decode cX10_readNumber 100 = .ok (.goto 4, 3) := by decide +kernel
theorem dX10_readNumber_103 : decode cX10_readNumber 103 = .ok (.iconst 3, 1) := by decide +kernel
theorem dX10_readNumber_104 : decode cX10_readNumber 104 = .ok (.putfield 39, 3) := by decide +kernel
theorem dX10_readNumber_107 : decode cX10_readNumber 107 = .ok (.return_, 1) := by decide +kernel
theorem kSX10_readNumber : yX10_readNumber.cls ≠ "java/lang/invoke/MethodHandle" ∧ yX10_readNumber.cls ≠ "java/lang/invoke/VarHandle" ∧ (parseMethodDescriptor yX10_readNumber.desc).map (fun d => d.parameters.length) = some 0 := by decide +kernel
theorem kVX10_readNumber : yX10_readNumber.cls = RX10 ∧ yX10_readNumber.cls ≠ "java/lang/invoke/MethodHandle" ∧ yX10_readNumber.cls ≠ "java/lang/invoke/VarHandle" ∧ (parseMethodDescriptor yX10_readNumber.desc).map (fun d => d.parameters.length) = some 0 := ⟨rfl, kSX10_readNumber⟩
theorem dX10_takeEqual_0 : decode cX10_takeEqual 0 = .ok (.aload_n 0, 1) := by decide +kernel
theorem dX10_takeEqual_1 : decode cX10_takeEqual 1 = .ok (.getfield 25, 3) := by decide +kernel
theorem dX10_takeEqual_4 : decode cX10_takeEqual 4 = .ok (.aload_n 0, 1) := by decide +kernel
theorem dX10_takeEqual_5 : decode cX10_takeEqual 5 = .ok (.getfield 18, 3) := by decide +kernel
theorem dX10_takeEqual_8 : decode cX10_takeEqual 8 = .ok (.if_icmp .ge 23, 3) := by decide +kernel
theorem dX10_takeEqual_11 : decode cX10_takeEqual 11 = .ok (.aload_n 0, 1) := by decide +kernel
theorem dX10_takeEqual_12 : decode cX10_takeEqual 12 = .ok (.getfield 14, 3) := by decide +kernel
theorem dX10_takeEqual_15 : decode cX10_takeEqual 15 = .ok (.aload_n 0, 1) := by decide +kernel
theorem dX10_takeEqual_16 : decode cX10_takeEqual 16 = .ok (.getfield 25, 3) := by decide +kernel
theorem dX10_takeEqual_19 : decode cX10_takeEqual 19 = .ok (.invokevirtual 28, 3) := by decide +kernel
theorem dX10_takeEqual_22 : decode cX10_takeEqual 22 = .ok (.bipush 61, 2) := by decide +kernel
theorem dX10_takeEqual_24 : decode cX10_takeEqual 24 = .ok (.if_icmp .ne 7, 3) := by decide +kernel
theorem dX10_takeEqual_27 : decode cX10_takeEqual 27 = .ok (.iconst 1, 1) := by decide +kernel
theorem dX10_takeEqual_28 : decode cX10_takeEqual 28 = .ok (.goto 4, 3) := by decide +kernel
theorem dX10_takeEqual_31 : decode cX10_takeEqual 31 = .ok (.iconst 0, 1) := by decide +kernel
theorem dX10_takeEqual_32 : decode cX10_takeEqual 32 = .ok (.istore_n 1, 1) := by decide +kernel
theorem dX10_takeEqual_33 : decode cX10_takeEqual 33 = .ok (.iload_n 1, 1) := by decide +kernel
theorem dX10_takeEqual_34 : decode cX10_takeEqual 34 = .ok (.ifCond .eq 13, 3) := by decide +kernel
theorem dX10_takeEqual_37 : decode cX10_takeEqual 37 = .ok (.aload_n 0, 1) := by decide +kernel
theorem dX10_takeEqual_38 : decode cX10_takeEqual 38 = .ok (.dup, 1) := by decide +kernel
theorem dX10_takeEqual_39 : decode cX10_takeEqual 39 = .ok (.getfield 25, 3) := by decide +kernel
theorem dX10_takeEqual_42 : decode cX10_takeEqual 42 = .ok (.iconst 1, 1) := by decide +kernel
theorem dX10_takeEqual_43 : decode cX10_takeEqual 43 = .ok (.iadd, 1) := by decide +kernel
theorem dX10_takeEqual_44 : decode cX10_takeEqual 44 = .ok (.putfield 25, 3) := by decide +kernel
theorem dX10_takeEqual_47 : decode cX10_takeEqual 47 = .ok (.iload_n 1, 1) := by decide +kernel
theorem dX10_takeEqual_48 : decode cX10_takeEqual 48 = .ok (.ireturn, 1) := by decide +kernel
theorem kSX10_takeEqual : yX10_takeEqual.cls ≠ "java/lang/invoke/MethodHandle" ∧ yX10_takeEqual.cls ≠ "java/lang/invoke/VarHandle" ∧ (parseMethodDescriptor yX10_takeEqual.desc).map (fun d => d.parameters.length) = some 0 := by decide +kernel
theorem kVX10_takeEqual : yX10_takeEqual.cls = RX10 ∧ yX10_takeEqual.cls ≠ "java/lang/invoke/MethodHandle" ∧ yX10_takeEqual.cls ≠ "java/lang/invoke/VarHandle" ∧ (parseMethodDescriptor yX10_takeEqual.desc).map (fun d => d.parameters.length) = some 0 := ⟨rfl, kSX10_takeEqual⟩
theorem dX10_tokenSize_0 : decode cX10_tokenSize 0 = .ok (.aload_n 0, 1) := by decide +kernel
theorem dX10_tokenSize_1 : decode cX10_tokenSize 1 = .ok (.getfield 25, 3) := by decide +kernel
theorem dX10_tokenSize_4 : decode cX10_tokenSize 4 = .ok (.aload_n 0, 1) := by decide +kernel
theorem dX10_tokenSize_5 : decode cX10_tokenSize 5 = .ok (.getfield 36, 3) := by decide +kernel
theorem dX10_tokenSize_8 : decode cX10_tokenSize 8 = .ok (.isub, 1) := by decide +kernel
theorem dX10_tokenSize_9 : decode cX10_tokenSize 9 = .ok (.ireturn, 1) := by decide +kernel
theorem kSX10_tokenSize : yX10_tokenSize.cls ≠ "java/lang/invoke/MethodHandle" ∧ yX10_tokenSize.cls ≠ "java/lang/invoke/VarHandle" ∧ (parseMethodDescriptor yX10_tokenSize.desc).map (fun d => d.parameters.length) = some 0 := by decide +kernel
theorem kVX10_tokenSize : yX10_tokenSize.cls = RX10 ∧ yX10_tokenSize.cls ≠ "java/lang/invoke/MethodHandle" ∧ yX10_tokenSize.cls ≠ "java/lang/invoke/VarHandle" ∧ (parseMethodDescriptor yX10_tokenSize.desc).map (fun d => d.parameters.length) = some 0 := ⟨rfl, kSX10_tokenSize⟩
theorem dX3_fighterOn_0 : decode cX3_fighterOn 0 = .ok (.iload_n 2, 1) := by decide +kernel
theorem dX3_fighterOn_1 : decode cX3_fighterOn 1 = .ok (.ifCond .ne 7, 3) := by decide +kernel
theorem dX3_fighterOn_4 : decode cX3_fighterOn 4 = .ok (.iconst 1, 1) := by decide +kernel
theorem dX3_fighterOn_5 : decode cX3_fighterOn 5 = .ok (.goto 4, 3) := by decide +kernel
theorem dX3_fighterOn_8 : decode cX3_fighterOn 8 = .ok (.iconst 2, 1) := by decide +kernel
theorem dX3_fighterOn_9 : decode cX3_fighterOn 9 = .ok (.istore_n 3, 1) := by decide +kernel
theorem dX3_fighterOn_10 : decode cX3_fighterOn 10 = .ok (.aload_n 0, 1) := by decide +kernel
theorem dX3_fighterOn_11 : decode cX3_fighterOn 11 = .ok (.getfield 9, 3) := by decide +kernel
theorem dX3_fighterOn_14 : decode cX3_fighterOn 14 = .ok (.aload_n 0, 1) := by decide +kernel
theorem dX3_fighterOn_15 : decode cX3_fighterOn 15 = .ok (.iload_n 1, 1) := by decide +kernel
theorem dX3_fighterOn_16 : decode cX3_fighterOn 16 = .ok (.iconst 0, 1) := by decide +kernel
theorem dX3_fighterOn_17 : decode cX3_fighterOn 17 = .ok (.invokevirtual 38, 3) := by decide +kernel
theorem dX3_fighterOn_20 : decode cX3_fighterOn 20 = .ok (.aload_n 0, 1) := by decide +kernel
theorem dX3_fighterOn_21 : decode cX3_fighterOn 21 = .ok (.iload_n 1, 1) := by decide +kernel
theorem dX3_fighterOn_22 : decode cX3_fighterOn 22 = .ok (.iconst 1, 1) := by decide +kernel
theorem dX3_fighterOn_23 : decode cX3_fighterOn 23 = .ok (.invokevirtual 38, 3) := by decide +kernel
theorem dX3_fighterOn_26 : decode cX3_fighterOn 26 = .ok (.iload_n 3, 1) := by decide +kernel
theorem dX3_fighterOn_27 : decode cX3_fighterOn 27 = .ok (.invokestatic 47, 3) := by decide +kernel
theorem dX3_fighterOn_30 : decode cX3_fighterOn 30 = .ok (.invokevirtual 34, 3) := by decide +kernel
theorem dX3_fighterOn_33 : decode cX3_fighterOn 33 = .ok (.ireturn, 1) := by decide +kernel
theorem kSX3_fighterOn : yX3_fighterOn.cls ≠ "java/lang/invoke/MethodHandle" ∧ yX3_fighterOn.cls ≠ "java/lang/invoke/VarHandle" ∧ (parseMethodDescriptor yX3_fighterOn.desc).map (fun d => d.parameters.length) = some 2 := by decide +kernel
theorem kVX3_fighterOn : yX3_fighterOn.cls = RX3 ∧ yX3_fighterOn.cls ≠ "java/lang/invoke/MethodHandle" ∧ yX3_fighterOn.cls ≠ "java/lang/invoke/VarHandle" ∧ (parseMethodDescriptor yX3_fighterOn.desc).map (fun d => d.parameters.length) = some 2 := ⟨rfl, kSX3_fighterOn⟩
theorem dX3_isHeld_0 : decode cX3_isHeld 0 = .ok (.iconst 0, 1) := by decide +kernel
theorem dX3_isHeld_1 : decode cX3_isHeld 1 = .ok (.istore_n 2, 1) := by decide +kernel
theorem dX3_isHeld_2 : decode cX3_isHeld 2 = .ok (.iload_n 2, 1) := by decide +kernel
theorem dX3_isHeld_3 : decode cX3_isHeld 3 = .ok (.iconst 4, 1) := by decide +kernel
theorem dX3_isHeld_4 : decode cX3_isHeld 4 = .ok (.if_icmp .ge 39, 3) := by decide +kernel
theorem dX3_isHeld_7 : decode cX3_isHeld 7 = .ok (.aload_n 0, 1) := by decide +kernel
theorem dX3_isHeld_8 : decode cX3_isHeld 8 = .ok (.iload_n 2, 1) := by decide +kernel
theorem dX3_isHeld_9 : decode cX3_isHeld 9 = .ok (.invokevirtual 41, 3) := by decide +kernel
theorem dX3_isHeld_12 : decode cX3_isHeld 12 = .ok (.ifCond .ne 25, 3) := by decide +kernel
theorem dX3_isHeld_15 : decode cX3_isHeld 15 = .ok (.aload_n 0, 1) := by decide +kernel
theorem dX3_isHeld_16 : decode cX3_isHeld 16 = .ok (.iload_n 2, 1) := by decide +kernel
theorem dX3_isHeld_17 : decode cX3_isHeld 17 = .ok (.iconst 0, 1) := by decide +kernel
theorem dX3_isHeld_18 : decode cX3_isHeld 18 = .ok (.invokevirtual 51, 3) := by decide +kernel
theorem dX3_isHeld_21 : decode cX3_isHeld 21 = .ok (.iload_n 1, 1) := by decide +kernel
theorem dX3_isHeld_22 : decode cX3_isHeld 22 = .ok (.if_icmp .eq 13, 3) := by decide +kernel
theorem dX3_isHeld_25 : decode cX3_isHeld 25 = .ok (.aload_n 0, 1) := by decide +kernel
theorem dX3_isHeld_26 : decode cX3_isHeld 26 = .ok (.iload_n 2, 1) := by decide +kernel
theorem dX3_isHeld_27 : decode cX3_isHeld 27 = .ok (.iconst 1, 1) := by decide +kernel
theorem dX3_isHeld_28 : decode cX3_isHeld 28 = .ok (.invokevirtual 51, 3) := by decide +kernel
theorem dX3_isHeld_31 : decode cX3_isHeld 31 = .ok (.iload_n 1, 1) := by decide +kernel
theorem dX3_isHeld_32 : decode cX3_isHeld 32 = .ok (.if_icmp .ne 5, 3) := by decide +kernel
theorem dX3_isHeld_35 : decode cX3_isHeld 35 = .ok (.iconst 1, 1) := by decide +kernel
theorem dX3_isHeld_36 : decode cX3_isHeld 36 = .ok (.ireturn, 1) := by decide +kernel
theorem dX3_isHeld_37 : decode cX3_isHeld 37 = .ok (.iinc 2 1, 3) := by decide +kernel
theorem dX3_isHeld_40 : decode cX3_isHeld 40 = .ok (.goto (-38), 3) := by decide +kernel
theorem dX3_isHeld_43 : decode cX3_isHeld 43 = .ok (.aload_n 0, 1) := by decide +kernel
theorem dX3_isHeld_44 : decode cX3_isHeld 44 = .ok (.getfield 9, 3) := by decide +kernel
theorem dX3_isHeld_47 : decode cX3_isHeld 47 = .ok (.iload_n 1, 1) := by decide +kernel
theorem dX3_isHeld_48 : decode cX3_isHeld 48 = .ok (.bipush 6, 2) := by decide +kernel
theorem dX3_isHeld_50 : decode cX3_isHeld 50 = .ok (.invokestatic 54, 3) := by decide +kernel
theorem dX3_isHeld_53 : decode cX3_isHeld 53 = .ok (.invokevirtual 34, 3) := by decide +kernel
theorem dX3_isHeld_56 : decode cX3_isHeld 56 = .ok (.istore_n 2, 1) := by decide +kernel
theorem dX3_isHeld_57 : decode cX3_isHeld 57 = .ok (.iload_n 2, 1) := by decide +kernel
theorem dX3_isHeld_58 : decode cX3_isHeld 58 = .ok (.iconst (-1), 1) := by decide +kernel
theorem dX3_isHeld_59 : decode cX3_isHeld 59 = .ok (.if_icmp .eq 28, 3) := by decide +kernel
theorem dX3_isHeld_62 : decode cX3_isHeld 62 = .ok (.aload_n 0, 1) := by decide +kernel
theorem dX3_isHeld_63 : decode cX3_isHeld 63 = .ok (.getfield 9, 3) := by decide +kernel
theorem dX3_isHeld_66 : decode cX3_isHeld 66 = .ok (.iconst 0, 1) := by decide +kernel
theorem dX3_isHeld_67 : decode cX3_isHeld 67 = .ok (.invokevirtual 34, 3) := by decide +kernel
theorem dX3_isHeld_70 : decode cX3_isHeld 70 = .ok (.iload_n 2, 1) := by decide +kernel
theorem dX3_isHeld_71 : decode cX3_isHeld 71 = .ok (.aload_n 0, 1) := by decide +kernel
theorem dX3_isHeld_72 : decode cX3_isHeld 72 = .ok (.getfield 9, 3) := by decide +kernel
theorem dX3_isHeld_75 : decode cX3_isHeld 75 = .ok (.iconst 1, 1) := by decide +kernel
theorem dX3_isHeld_76 : decode cX3_isHeld 76 = .ok (.invokevirtual 34, 3) := by decide +kernel
theorem dX3_isHeld_79 : decode cX3_isHeld 79 = .ok (.iadd, 1) := by decide +kernel
theorem dX3_isHeld_80 : decode cX3_isHeld 80 = .ok (.if_icmp .ge 7, 3) := by decide +kernel
theorem dX3_isHeld_83 : decode cX3_isHeld 83 = .ok (.iconst 1, 1) := by decide +kernel
theorem dX3_isHeld_84 : decode cX3_isHeld 84 = .ok (.goto 4, 3) := by decide +kernel
theorem dX3_isHeld_87 : decode cX3_isHeld 87 = .ok (.iconst 0, 1) := by decide +kernel
theorem dX3_isHeld_88 : decode cX3_isHeld 88 = .ok (.ireturn, 1) := by decide +kernel
theorem kSX3_isHeld : yX3_isHeld.cls ≠ "java/lang/invoke/MethodHandle" ∧ yX3_isHeld.cls ≠ "java/lang/invoke/VarHandle" ∧ (parseMethodDescriptor yX3_isHeld.desc).map (fun d => d.parameters.length) = some 1 := by decide +kernel
theorem kVX3_isHeld : yX3_isHeld.cls = RX3 ∧ yX3_isHeld.cls ≠ "java/lang/invoke/MethodHandle" ∧ yX3_isHeld.cls ≠ "java/lang/invoke/VarHandle" ∧ (parseMethodDescriptor yX3_isHeld.desc).map (fun d => d.parameters.length) = some 1 := ⟨rfl, kSX3_isHeld⟩
theorem dX4_emit_0 : decode cX4_emit 0 = .ok (.aload_n 0, 1) := by decide +kernel
theorem dX4_emit_1 : decode cX4_emit 1 = .ok (.getfield 14, 3) := by decide +kernel
theorem dX4_emit_4 : decode cX4_emit 4 = .ok (.aload_n 0, 1) := by decide +kernel
theorem dX4_emit_5 : decode cX4_emit 5 = .ok (.getfield 40, 3) := by decide +kernel
theorem dX4_emit_8 : decode cX4_emit 8 = .ok (.iload_n 1, 1) := by decide +kernel
theorem dX4_emit_9 : decode cX4_emit 9 = .ok (.sipush 10000, 3) := by decide +kernel
theorem dX4_emit_12 : decode cX4_emit 12 = .ok (.imul, 1) := by decide +kernel
theorem dX4_emit_13 : decode cX4_emit 13 = .ok (.iload_n 2, 1) := by decide +kernel
theorem dX4_emit_14 : decode cX4_emit 14 = .ok (.iadd, 1) := by decide +kernel
theorem dX4_emit_15 : decode cX4_emit 15 = .ok (.invokevirtual 43, 3) := by decide +kernel
theorem dX4_emit_18 : decode cX4_emit 18 = .ok (.aload_n 0, 1) := by decide +kernel
theorem dX4_emit_19 : decode cX4_emit 19 = .ok (.dup, 1) := by decide +kernel
theorem dX4_emit_20 : decode cX4_emit 20 = .ok (.getfield 40, 3) := by decide +kernel
theorem dX4_emit_23 : decode cX4_emit 23 = .ok (.iconst 1, 1) := by decide +kernel
theorem dX4_emit_24 : decode cX4_emit 24 = .ok (.iadd, 1) := by decide +kernel
theorem dX4_emit_25 : decode cX4_emit 25 = .ok (.putfield 40, 3) := by decide +kernel
theorem dX4_emit_28 : decode cX4_emit 28 = .ok (.return_, 1) := by decide +kernel
theorem kSX4_emit : yX4_emit.cls ≠ "java/lang/invoke/MethodHandle" ∧ yX4_emit.cls ≠ "java/lang/invoke/VarHandle" ∧ (parseMethodDescriptor yX4_emit.desc).map (fun d => d.parameters.length) = some 2 := by decide +kernel
theorem kVX4_emit : yX4_emit.cls = RX4 ∧ yX4_emit.cls ≠ "java/lang/invoke/MethodHandle" ∧ yX4_emit.cls ≠ "java/lang/invoke/VarHandle" ∧ (parseMethodDescriptor yX4_emit.desc).map (fun d => d.parameters.length) = some 2 := ⟨rfl, kSX4_emit⟩
theorem dX4_endLine_0 : decode cX4_endLine 0 = .ok (.aload_n 0, 1) := by decide +kernel
theorem dX4_endLine_1 : decode cX4_endLine 1 = .ok (.getfield 18, 3) := by decide +kernel
theorem dX4_endLine_4 : decode cX4_endLine 4 = .ok (.aload_n 0, 1) := by decide +kernel
theorem dX4_endLine_5 : decode cX4_endLine 5 = .ok (.getfield 34, 3) := by decide +kernel
theorem dX4_endLine_8 : decode cX4_endLine 8 = .ok (.aload_n 0, 1) := by decide +kernel
theorem dX4_endLine_9 : decode cX4_endLine 9 = .ok (.getfield 40, 3) := by decide +kernel
theorem dX4_endLine_12 : decode cX4_endLine 12 = .ok (.invokevirtual 43, 3) := by decide +kernel
theorem dX4_endLine_15 : decode cX4_endLine 15 = .ok (.aload_n 0, 1) := by decide +kernel
theorem dX4_endLine_16 : decode cX4_endLine 16 = .ok (.dup, 1) := by decide +kernel
theorem dX4_endLine_17 : decode cX4_endLine 17 = .ok (.getfield 34, 3) := by decide +kernel
theorem dX4_endLine_20 : decode cX4_endLine 20 = .ok (.iconst 1, 1) := by decide +kernel
theorem dX4_endLine_21 : decode cX4_endLine 21 = .ok (.iadd, 1) := by decide +kernel
theorem dX4_endLine_22 : decode cX4_endLine 22 = .ok (.putfield 34, 3) := by decide +kernel
theorem dX4_endLine_25 : decode cX4_endLine 25 = .ok (.return_, 1) := by decide +kernel
theorem kSX4_endLine : yX4_endLine.cls ≠ "java/lang/invoke/MethodHandle" ∧ yX4_endLine.cls ≠ "java/lang/invoke/VarHandle" ∧ (parseMethodDescriptor yX4_endLine.desc).map (fun d => d.parameters.length) = some 0 := by decide +kernel
theorem kVX4_endLine : yX4_endLine.cls = RX4 ∧ yX4_endLine.cls ≠ "java/lang/invoke/MethodHandle" ∧ yX4_endLine.cls ≠ "java/lang/invoke/VarHandle" ∧ (parseMethodDescriptor yX4_endLine.desc).map (fun d => d.parameters.length) = some 0 := ⟨rfl, kSX4_endLine⟩
theorem dX4_kindAt_0 : decode cX4_kindAt 0 = .ok (.aload_n 0, 1) := by decide +kernel
theorem dX4_kindAt_1 : decode cX4_kindAt 1 = .ok (.getfield 14, 3) := by decide +kernel
theorem dX4_kindAt_4 : decode cX4_kindAt 4 = .ok (.iload_n 1, 1) := by decide +kernel
theorem dX4_kindAt_5 : decode cX4_kindAt 5 = .ok (.invokevirtual 46, 3) := by decide +kernel
theorem dX4_kindAt_8 : decode cX4_kindAt 8 = .ok (.sipush 10000, 3) := by decide +kernel
theorem dX4_kindAt_11 : decode cX4_kindAt 11 = .ok (.idiv, 1) := by decide +kernel
theorem dX4_kindAt_12 : decode cX4_kindAt 12 = .ok (.ireturn, 1) := by decide +kernel
theorem kSX4_kindAt : yX4_kindAt.cls ≠ "java/lang/invoke/MethodHandle" ∧ yX4_kindAt.cls ≠ "java/lang/invoke/VarHandle" ∧ (parseMethodDescriptor yX4_kindAt.desc).map (fun d => d.parameters.length) = some 1 := by decide +kernel
theorem kVX4_kindAt : yX4_kindAt.cls = RX4 ∧ yX4_kindAt.cls ≠ "java/lang/invoke/MethodHandle" ∧ yX4_kindAt.cls ≠ "java/lang/invoke/VarHandle" ∧ (parseMethodDescriptor yX4_kindAt.desc).map (fun d => d.parameters.length) = some 1 := ⟨rfl, kSX4_kindAt⟩
theorem dX4_startOf_0 : decode cX4_startOf 0 = .ok (.iload_n 1, 1) := by decide +kernel
theorem dX4_startOf_1 : decode cX4_startOf 1 = .ok (.ifCond .ne 7, 3) := by decide +kernel
theorem dX4_startOf_4 : decode cX4_startOf 4 = .ok (.iconst 0, 1) := by decide +kernel
theorem dX4_startOf_5 : decode cX4_startOf 5 = .ok (.goto 13, 3) := by decide +kernel
theorem dX4_startOf_8 : decode cX4_startOf 8 = .ok (.aload_n 0, 1) := by decide +kernel
theorem dX4_startOf_9 : decode cX4_startOf 9 = .ok (.getfield 18, 3) := by decide +kernel
theorem dX4_startOf_12 : decode cX4_startOf 12 = .ok (.iload_n 1, 1) := by decide +kernel
theorem dX4_startOf_13 : decode cX4_startOf 13 = .ok (.iconst 1, 1) := by decide +kernel
theorem dX4_startOf_14 : decode cX4_startOf 14 = .ok (.isub, 1) := by decide +kernel
theorem dX4_startOf_15 : decode cX4_startOf 15 = .ok (.invokevirtual 46, 3) := by decide +kernel
theorem dX4_startOf_18 : decode cX4_startOf 18 = .ok (.ireturn, 1) := by decide +kernel
theorem kSX4_startOf : yX4_startOf.cls ≠ "java/lang/invoke/MethodHandle" ∧ yX4_startOf.cls ≠ "java/lang/invoke/VarHandle" ∧ (parseMethodDescriptor yX4_startOf.desc).map (fun d => d.parameters.length) = some 1 := by decide +kernel
theorem kVX4_startOf : yX4_startOf.cls = RX4 ∧ yX4_startOf.cls ≠ "java/lang/invoke/MethodHandle" ∧ yX4_startOf.cls ≠ "java/lang/invoke/VarHandle" ∧ (parseMethodDescriptor yX4_startOf.desc).map (fun d => d.parameters.length) = some 1 := ⟨rfl, kSX4_startOf⟩
theorem dX4_valueAt_0 : decode cX4_valueAt 0 = .ok (.aload_n 0, 1) := by decide +kernel
theorem dX4_valueAt_1 : decode cX4_valueAt 1 = .ok (.getfield 14, 3) := by decide +kernel
theorem dX4_valueAt_4 : decode cX4_valueAt 4 = .ok (.iload_n 1, 1) := by decide +kernel
theorem dX4_valueAt_5 : decode cX4_valueAt 5 = .ok (.invokevirtual 46, 3) := by decide +kernel
theorem dX4_valueAt_8 : decode cX4_valueAt 8 = .ok (.sipush 10000, 3) := by decide +kernel
theorem dX4_valueAt_11 : decode cX4_valueAt 11 = .ok (.irem, 1) := by decide +kernel
theorem dX4_valueAt_12 : decode cX4_valueAt 12 = .ok (.ireturn, 1) := by decide +kernel
theorem kSX4_valueAt : yX4_valueAt.cls ≠ "java/lang/invoke/MethodHandle" ∧ yX4_valueAt.cls ≠ "java/lang/invoke/VarHandle" ∧ (parseMethodDescriptor yX4_valueAt.desc).map (fun d => d.parameters.length) = some 1 := by decide +kernel
theorem kVX4_valueAt : yX4_valueAt.cls = RX4 ∧ yX4_valueAt.cls ≠ "java/lang/invoke/MethodHandle" ∧ yX4_valueAt.cls ≠ "java/lang/invoke/VarHandle" ∧ (parseMethodDescriptor yX4_valueAt.desc).map (fun d => d.parameters.length) = some 1 := ⟨rfl, kSX4_valueAt⟩
theorem dX5_emitTerm_0 : decode cX5_emitTerm 0 = .ok (.aload_n 0, 1) := by decide +kernel
theorem dX5_emitTerm_1 : decode cX5_emitTerm 1 = .ok (.getfield 33, 3) := by decide +kernel
theorem dX5_emitTerm_4 : decode cX5_emitTerm 4 = .ok (.iload_n 1, 1) := by decide +kernel
theorem dX5_emitTerm_5 : decode cX5_emitTerm 5 = .ok (.iload_n 2, 1) := by decide +kernel
theorem dX5_emitTerm_6 : decode cX5_emitTerm 6 = .ok (.invokevirtual 169, 3) := by decide +kernel
theorem dX5_emitTerm_9 : decode cX5_emitTerm 9 = .ok (.aload_n 0, 1) := by decide +kernel
theorem dX5_emitTerm_10 : decode cX5_emitTerm 10 = .ok (.getfield 160, 3) := by decide +kernel
theorem dX5_emitTerm_13 : decode cX5_emitTerm 13 = .ok (.ifCond .eq 15, 3) := by decide +kernel
theorem dX5_emitTerm_16 : decode cX5_emitTerm 16 = .ok (.aload_n 0, 1) := by decide +kernel
theorem dX5_emitTerm_17 : decode cX5_emitTerm 17 = .ok (.getfield 33, 3) := by decide +kernel
theorem dX5_emitTerm_20 : decode cX5_emitTerm 20 = .ok (.aload_n 0, 1) := by decide +kernel
theorem dX5_emitTerm_21 : decode cX5_emitTerm 21 = .ok (.getfield 160, 3) := by decide +kernel
theorem dX5_emitTerm_24 : decode cX5_emitTerm 24 = .ok (.iconst 0, 1) := by decide +kernel
theorem dX5_emitTerm_25 : decode cX5_emitTerm 25 = .ok (.invokevirtual 169, 3) := by decide +kernel
theorem dX5_emitTerm_28 : decode cX5_emitTerm 28 = .ok (.aload_n 0, 1) := by decide +kernel
theorem dX5_emitTerm_29 : decode cX5_emitTerm 29 = .ok (.iconst 0, 1) := by decide +kernel
theorem dX5_emitTerm_30 : decode cX5_emitTerm 30 = .ok (.putfield 160, 3) := by decide +kernel
theorem dX5_emitTerm_33 : decode cX5_emitTerm 33 = .ok (.return_, 1) := by decide +kernel
theorem kSX5_emitTerm : yX5_emitTerm.cls ≠ "java/lang/invoke/MethodHandle" ∧ yX5_emitTerm.cls ≠ "java/lang/invoke/VarHandle" ∧ (parseMethodDescriptor yX5_emitTerm.desc).map (fun d => d.parameters.length) = some 2 := by decide +kernel
theorem kVX5_emitTerm : yX5_emitTerm.cls = RX5 ∧ yX5_emitTerm.cls ≠ "java/lang/invoke/MethodHandle" ∧ yX5_emitTerm.cls ≠ "java/lang/invoke/VarHandle" ∧ (parseMethodDescriptor yX5_emitTerm.desc).map (fun d => d.parameters.length) = some 2 := ⟨rfl, kSX5_emitTerm⟩
theorem dX5_goIfRoom_0 : decode cX5_goIfRoom 0 = .ok (.iload_n 1, 1) := by decide +kernel
theorem dX5_goIfRoom_1 : decode cX5_goIfRoom 1 = .ok (.ifCond .eq 11, 3) := by decide +kernel
theorem dX5_goIfRoom_4 : decode cX5_goIfRoom 4 = .ok (.aload_n 0, 1) := by decide +kernel
theorem dX5_goIfRoom_5 : decode cX5_goIfRoom 5 = .ok (.iload_n 2, 1) := by decide +kernel
theorem dX5_goIfRoom_6 : decode cX5_goIfRoom 6 = .ok (.putfield 52, 3) := by decide +kernel
theorem dX5_goIfRoom_9 : decode cX5_goIfRoom 9 = .ok (.goto 8, 3) := by decide +kernel
theorem dX5_goIfRoom_12 : decode cX5_goIfRoom 12 = .ok (.aload_n 0, 1) := by decide +kernel
theorem dX5_goIfRoom_13 : decode cX5_goIfRoom 13 = .ok (.iconst 3, 1) := by decide +kernel
theorem dX5_goIfRoom_14 : decode cX5_goIfRoom 14 = .ok (.invokevirtual 118, 3) := by decide +kernel
theorem dX5_goIfRoom_17 : decode cX5_goIfRoom 17 = .ok (.return_, 1) := by decide +kernel
theorem kSX5_goIfRoom : yX5_goIfRoom.cls ≠ "java/lang/invoke/MethodHandle" ∧ yX5_goIfRoom.cls ≠ "java/lang/invoke/VarHandle" ∧ (parseMethodDescriptor yX5_goIfRoom.desc).map (fun d => d.parameters.length) = some 2 := by decide +kernel
theorem kVX5_goIfRoom : yX5_goIfRoom.cls = RX5 ∧ yX5_goIfRoom.cls ≠ "java/lang/invoke/MethodHandle" ∧ yX5_goIfRoom.cls ≠ "java/lang/invoke/VarHandle" ∧ (parseMethodDescriptor yX5_goIfRoom.desc).map (fun d => d.parameters.length) = some 2 := ⟨rfl, kSX5_goIfRoom⟩
theorem dX5_hold_0 : decode cX5_hold 0 = .ok (.aload_n 0, 1) := by decide +kernel
theorem dX5_hold_1 : decode cX5_hold 1 = .ok (.getfield 29, 3) := by decide +kernel
theorem dX5_hold_4 : decode cX5_hold 4 = .ok (.aload_n 0, 1) := by decide +kernel
theorem dX5_hold_5 : decode cX5_hold 5 = .ok (.getfield 55, 3) := by decide +kernel
theorem dX5_hold_8 : decode cX5_hold 8 = .ok (.iload_n 1, 1) := by decide +kernel
theorem dX5_hold_9 : decode cX5_hold 9 = .ok (.invokevirtual 142, 3) := by decide +kernel
theorem dX5_hold_12 : decode cX5_hold 12 = .ok (.aload_n 0, 1) := by decide +kernel
theorem dX5_hold_13 : decode cX5_hold 13 = .ok (.dup, 1) := by decide +kernel
theorem dX5_hold_14 : decode cX5_hold 14 = .ok (.getfield 55, 3) := by decide +kernel
theorem dX5_hold_17 : decode cX5_hold 17 = .ok (.iconst 1, 1) := by decide +kernel
theorem dX5_hold_18 : decode cX5_hold 18 = .ok (.iadd, 1) := by decide +kernel
theorem dX5_hold_19 : decode cX5_hold 19 = .ok (.putfield 55, 3) := by decide +kernel
theorem dX5_hold_22 : decode cX5_hold 22 = .ok (.return_, 1) := by decide +kernel
theorem kSX5_hold : yX5_hold.cls ≠ "java/lang/invoke/MethodHandle" ∧ yX5_hold.cls ≠ "java/lang/invoke/VarHandle" ∧ (parseMethodDescriptor yX5_hold.desc).map (fun d => d.parameters.length) = some 1 := by decide +kernel
theorem kVX5_hold : yX5_hold.cls = RX5 ∧ yX5_hold.cls ≠ "java/lang/invoke/MethodHandle" ∧ yX5_hold.cls ≠ "java/lang/invoke/VarHandle" ∧ (parseMethodDescriptor yX5_hold.desc).map (fun d => d.parameters.length) = some 1 := ⟨rfl, kSX5_hold⟩
theorem dX5_openThing_0 : decode cX5_openThing 0 = .ok (.aload_n 0, 1) := by decide +kernel
theorem dX5_openThing_1 : decode cX5_openThing 1 = .ok (.getfield 58, 3) := by decide +kernel
theorem dX5_openThing_4 : decode cX5_openThing 4 = .ok (.bipush 8, 2) := by decide +kernel
theorem dX5_openThing_6 : decode cX5_openThing 6 = .ok (.if_icmp .lt 11, 3) := by decide +kernel
theorem dX5_openThing_9 : decode cX5_openThing 9 = .ok (.aload_n 0, 1) := by decide +kernel
theorem dX5_openThing_10 : decode cX5_openThing 10 = .ok (.iconst 3, 1) := by decide +kernel
theorem dX5_openThing_11 : decode cX5_openThing 11 = .ok (.invokevirtual 118, 3) := by decide +kernel
theorem dX5_openThing_14 : decode cX5_openThing 14 = .ok (.goto 18, 3) := by decide +kernel
theorem dX5_openThing_17 : decode cX5_openThing 17 = .ok (.aload_n 0, 1) := by decide +kernel
theorem dX5_openThing_18 : decode cX5_openThing 18 = .ok (.dup, 1) := by decide +kernel
theorem dX5_openThing_19 : decode cX5_openThing 19 = .ok (.getfield 58, 3) := by decide +kernel
theorem dX5_openThing_22 : decode cX5_openThing 22 = .ok (.iconst 1, 1) := by decide +kernel
theorem dX5_openThing_23 : decode cX5_openThing 23 = .ok (.iadd, 1) := by decide +kernel
theorem dX5_openThing_24 : decode cX5_openThing 24 = .ok (.putfield 58, 3) := by decide +kernel
theorem dX5_openThing_27 : decode cX5_openThing 27 = .ok (.aload_n 0, 1) := by decide +kernel
theorem dX5_openThing_28 : decode cX5_openThing 28 = .ok (.iload_n 1, 1) := by decide +kernel
theorem dX5_openThing_29 : decode cX5_openThing 29 = .ok (.invokevirtual 178, 3) := by decide +kernel
theorem dX5_openThing_32 : decode cX5_openThing 32 = .ok (.return_, 1) := by decide +kernel
theorem kSX5_openThing : yX5_openThing.cls ≠ "java/lang/invoke/MethodHandle" ∧ yX5_openThing.cls ≠ "java/lang/invoke/VarHandle" ∧ (parseMethodDescriptor yX5_openThing.desc).map (fun d => d.parameters.length) = some 1 := by decide +kernel
theorem kVX5_openThing : yX5_openThing.cls = RX5 ∧ yX5_openThing.cls ≠ "java/lang/invoke/MethodHandle" ∧ yX5_openThing.cls ≠ "java/lang/invoke/VarHandle" ∧ (parseMethodDescriptor yX5_openThing.desc).map (fun d => d.parameters.length) = some 1 := ⟨rfl, kSX5_openThing⟩
theorem dX5_takePart_0 : decode cX5_takePart 0 = .ok (.aload_n 0, 1) := by decide +kernel
theorem dX5_takePart_1 : decode cX5_takePart 1 = .ok (.aload_n 0, 1) := by decide +kernel
theorem dX5_takePart_2 : decode cX5_takePart 2 = .ok (.getfield 33, 3) := by decide +kernel
theorem dX5_takePart_5 : decode cX5_takePart 5 = .ok (.getfield 175, 3) := by decide +kernel
theorem dX5_takePart_8 : decode cX5_takePart 8 = .ok (.sipush 300, 3) := by decide +kernel
theorem dX5_takePart_11 : decode cX5_takePart 11 = .ok (.if_icmp .ge 7, 3) := by decide +kernel
theorem dX5_takePart_14 : decode cX5_takePart 14 = .ok (.iconst 1, 1) := by decide +kernel
theorem dX5_takePart_15 : decode cX5_takePart 15 = .ok (.goto 4, 3) := by decide +kernel
theorem dX5_takePart_18 : decode cX5_takePart 18 = .ok (.iconst 0, 1) := by decide +kernel
theorem dX5_takePart_19 : decode cX5_takePart 19 = .ok (.iload_n 1, 1) := by decide +kernel
theorem dX5_takePart_20 : decode cX5_takePart 20 = .ok (.invokevirtual 133, 3) := by decide +kernel
theorem dX5_takePart_23 : decode cX5_takePart 23 = .ok (.aload_n 0, 1) := by decide +kernel
theorem dX5_takePart_24 : decode cX5_takePart 24 = .ok (.getfield 49, 3) := by decide +kernel
theorem dX5_takePart_27 : decode cX5_takePart 27 = .ok (.ifCond .ne 16, 3) := by decide +kernel
theorem dX5_takePart_30 : decode cX5_takePart 30 = .ok (.aload_n 0, 1) := by decide +kernel
theorem dX5_takePart_31 : decode cX5_takePart 31 = .ok (.getfield 33, 3) := by decide +kernel
theorem dX5_takePart_34 : decode cX5_takePart 34 = .ok (.dup, 1) := by decide +kernel
theorem dX5_takePart_35 : decode cX5_takePart 35 = .ok (.getfield 175, 3) := by decide +kernel
theorem dX5_takePart_38 : decode cX5_takePart 38 = .ok (.iconst 1, 1) := by decide +kernel
theorem dX5_takePart_39 : decode cX5_takePart 39 = .ok (.iadd, 1) := by decide +kernel
theorem dX5_takePart_40 : decode cX5_takePart 40 = .ok (.putfield 175, 3) := by decide +kernel
theorem dX5_takePart_43 : decode cX5_takePart 43 = .ok (.return_, 1) := by decide +kernel
theorem kSX5_takePart : yX5_takePart.cls ≠ "java/lang/invoke/MethodHandle" ∧ yX5_takePart.cls ≠ "java/lang/invoke/VarHandle" ∧ (parseMethodDescriptor yX5_takePart.desc).map (fun d => d.parameters.length) = some 1 := by decide +kernel
theorem kVX5_takePart : yX5_takePart.cls = RX5 ∧ yX5_takePart.cls ≠ "java/lang/invoke/MethodHandle" ∧ yX5_takePart.cls ≠ "java/lang/invoke/VarHandle" ∧ (parseMethodDescriptor yX5_takePart.desc).map (fun d => d.parameters.length) = some 1 := ⟨rfl, kSX5_takePart⟩
theorem dX7_aheadOf_0 : decode cX7_aheadOf 0 = .ok (.iconst 0, 1) := by decide +kernel
theorem dX7_aheadOf_1 : decode cX7_aheadOf 1 = .ok (.istore_n 3, 1) := by decide +kernel
theorem dX7_aheadOf_2 : decode cX7_aheadOf 2 = .ok (.iconst 0, 1) := by decide +kernel
theorem dX7_aheadOf_3 : decode cX7_aheadOf 3 = .ok (.istore 4, 2) := by decide +kernel
theorem dX7_aheadOf_5 : decode cX7_aheadOf 5 = .ok (.iconst 0, 1) := by decide +kernel
theorem dX7_aheadOf_6 : decode cX7_aheadOf 6 = .ok (.istore 5, 2) := by decide +kernel
theorem dX7_aheadOf_8 : decode cX7_aheadOf 8 = .ok (.iload 5, 2) := by decide +kernel
theorem dX7_aheadOf_10 : decode cX7_aheadOf 10 = .ok (.aload_n 0, 1) := by decide +kernel
theorem dX7_aheadOf_11 : decode cX7_aheadOf 11 = .ok (.getfield 15, 3) := by decide +kernel
theorem dX7_aheadOf_14 : decode cX7_aheadOf 14 = .ok (.iload_n 1, 1) := by decide +kernel
theorem dX7_aheadOf_15 : decode cX7_aheadOf 15 = .ok (.invokevirtual 31, 3) := by decide +kernel
theorem dX7_aheadOf_18 : decode cX7_aheadOf 18 = .ok (.if_icmp .ge 34, 3) := by decide +kernel
theorem dX7_aheadOf_21 : decode cX7_aheadOf 21 = .ok (.iload 4, 2) := by decide +kernel
theorem dX7_aheadOf_23 : decode cX7_aheadOf 23 = .ok (.aload_n 0, 1) := by decide +kernel
theorem dX7_aheadOf_24 : decode cX7_aheadOf 24 = .ok (.aload_n 0, 1) := by decide +kernel
theorem dX7_aheadOf_25 : decode cX7_aheadOf 25 = .ok (.iload_n 1, 1) := by decide +kernel
theorem dX7_aheadOf_26 : decode cX7_aheadOf 26 = .ok (.iload 5, 2) := by decide +kernel
theorem dX7_aheadOf_28 : decode cX7_aheadOf 28 = .ok (.invokevirtual 54, 3) := by decide +kernel
theorem dX7_aheadOf_31 : decode cX7_aheadOf 31 = .ok (.iload_n 2, 1) := by decide +kernel
theorem dX7_aheadOf_32 : decode cX7_aheadOf 32 = .ok (.invokevirtual 81, 3) := by decide +kernel
theorem dX7_aheadOf_35 : decode cX7_aheadOf 35 = .ok (.ifCond .eq 7, 3) := by decide +kernel
theorem dX7_aheadOf_38 : decode cX7_aheadOf 38 = .ok (.iconst 1, 1) := by decide +kernel
theorem dX7_aheadOf_39 : decode cX7_aheadOf 39 = .ok (.goto 4, 3) := by decide +kernel
theorem dX7_aheadOf_42 : decode cX7_aheadOf 42 = .ok (.iconst 0, 1) := by decide +kernel
theorem dX7_aheadOf_43 : decode cX7_aheadOf 43 = .ok (.iadd, 1) := by decide +kernel
theorem dX7_aheadOf_44 : decode cX7_aheadOf 44 = .ok (.istore 4, 2) := by decide +kernel
theorem dX7_aheadOf_46 : decode cX7_aheadOf 46 = .ok (.iinc 5 1, 3) := by decide +kernel
theorem dX7_aheadOf_49 : decode cX7_aheadOf 49 = .ok (.goto (-41), 3) := by decide +kernel
theorem dX7_aheadOf_52 : decode cX7_aheadOf 52 = .ok (.iconst 0, 1) := by decide +kernel
theorem dX7_aheadOf_53 : decode cX7_aheadOf 53 = .ok (.istore 5, 2) := by decide +kernel
theorem dX7_aheadOf_55 : decode cX7_aheadOf 55 = .ok (.iload 5, 2) := by decide +kernel
theorem dX7_aheadOf_57 : decode cX7_aheadOf 57 = .ok (.aload_n 0, 1) := by decide +kernel
theorem dX7_aheadOf_58 : decode cX7_aheadOf 58 = .ok (.getfield 15, 3) := by decide +kernel
theorem dX7_aheadOf_61 : decode cX7_aheadOf 61 = .ok (.iload_n 1, 1) := by decide +kernel
theorem dX7_aheadOf_62 : decode cX7_aheadOf 62 = .ok (.invokevirtual 31, 3) := by decide +kernel
theorem dX7_aheadOf_65 : decode cX7_aheadOf 65 = .ok (.if_icmp .ge 76, 3) := by decide +kernel
theorem dX7_aheadOf_68 : decode cX7_aheadOf 68 = .ok (.aload_n 0, 1) := by decide +kernel
theorem dX7_aheadOf_69 : decode cX7_aheadOf 69 = .ok (.iload_n 1, 1) := by decide +kernel
theorem dX7_aheadOf_70 : decode cX7_aheadOf 70 = .ok (.iload 5, 2) := by decide +kernel
theorem dX7_aheadOf_72 : decode cX7_aheadOf 72 = .ok (.invokevirtual 54, 3) := by decide +kernel
theorem dX7_aheadOf_75 : decode cX7_aheadOf 75 = .ok (.istore 6, 2) := by decide +kernel
theorem dX7_aheadOf_77 : decode cX7_aheadOf 77 = .ok (.aload_n 0, 1) := by decide +kernel
theorem dX7_aheadOf_78 : decode cX7_aheadOf 78 = .ok (.iload 6, 2) := by decide +kernel
theorem dX7_aheadOf_80 : decode cX7_aheadOf 80 = .ok (.iload_n 2, 1) := by decide +kernel
theorem dX7_aheadOf_81 : decode cX7_aheadOf 81 = .ok (.invokevirtual 81, 3) := by decide +kernel
theorem dX7_aheadOf_84 : decode cX7_aheadOf 84 = .ok (.ifCond .eq 33, 3) := by decide +kernel
theorem dX7_aheadOf_87 : decode cX7_aheadOf 87 = .ok (.iload_n 3, 1) := by decide +kernel
theorem dX7_aheadOf_88 : decode cX7_aheadOf 88 = .ok (.iload 6, 2) := by decide +kernel
theorem dX7_aheadOf_90 : decode cX7_aheadOf 90 = .ok (.iload_n 2, 1) := by decide +kernel
theorem dX7_aheadOf_91 : decode cX7_aheadOf 91 = .ok (.if_icmp .eq 20, 3) := by decide +kernel
theorem dX7_aheadOf_94 : decode cX7_aheadOf 94 = .ok (.aload_n 0, 1) := by decide +kernel
theorem dX7_aheadOf_95 : decode cX7_aheadOf 95 = .ok (.iload_n 1, 1) := by decide +kernel
theorem dX7_aheadOf_96 : decode cX7_aheadOf 96 = .ok (.iload 6, 2) := by decide +kernel
theorem dX7_aheadOf_98 : decode cX7_aheadOf 98 = .ok (.iload_n 2, 1) := by decide +kernel
theorem dX7_aheadOf_99 : decode cX7_aheadOf 99 = .ok (.iload 4, 2) := by decide +kernel
theorem dX7_aheadOf_101 : decode cX7_aheadOf 101 = .ok (.invokevirtual 85, 3) := by decide +kernel
theorem dX7_aheadOf_104 : decode cX7_aheadOf 104 = .ok (.ifCond .eq 7, 3) := by decide +kernel
theorem dX7_aheadOf_107 : decode cX7_aheadOf 107 = .ok (.iconst 1, 1) := by decide +kernel
theorem dX7_aheadOf_108 : decode cX7_aheadOf 108 = .ok (.goto 4, 3) := by decide +kernel
theorem dX7_aheadOf_111 : decode cX7_aheadOf 111 = .ok (.iconst 0, 1) := by decide +kernel
theorem dX7_aheadOf_112 : decode cX7_aheadOf 112 = .ok (.iadd, 1) := by decide +kernel
theorem dX7_aheadOf_113 : decode cX7_aheadOf 113 = .ok (.istore_n 3, 1) := by decide +kernel
theorem dX7_aheadOf_114 : decode cX7_aheadOf 114 = .ok (.goto 21, 3) := by decide +kernel
theorem dX7_aheadOf_117 : decode cX7_aheadOf 117 = .ok (.iload_n 3, 1) := by decide +kernel
theorem dX7_aheadOf_118 : decode cX7_aheadOf 118 = .ok (.aload_n 0, 1) := by decide +kernel
theorem dX7_aheadOf_119 : decode cX7_aheadOf 119 = .ok (.iload 6, 2) := by decide +kernel
theorem dX7_aheadOf_121 : decode cX7_aheadOf 121 = .ok (.iload_n 2, 1) := by decide +kernel
theorem dX7_aheadOf_122 : decode cX7_aheadOf 122 = .ok (.invokevirtual 89, 3) := by decide +kernel
theorem dX7_aheadOf_125 : decode cX7_aheadOf 125 = .ok (.ifCond .eq 7, 3) := by decide +kernel
theorem dX7_aheadOf_128 : decode cX7_aheadOf 128 = .ok (.iconst 1, 1) := by decide +kernel
theorem dX7_aheadOf_129 : decode cX7_aheadOf 129 = .ok (.goto 4, 3) := by decide +kernel
theorem dX7_aheadOf_132 : decode cX7_aheadOf 132 = .ok (.iconst 0, 1) := by decide +kernel
theorem dX7_aheadOf_133 : decode cX7_aheadOf 133 = .ok (.iadd, 1) := by decide +kernel
theorem dX7_aheadOf_134 : decode cX7_aheadOf 134 = .ok (.istore_n 3, 1) := by decide +kernel
theorem dX7_aheadOf_135 : decode cX7_aheadOf 135 = .ok (.iinc 5 1, 3) := by decide +kernel
theorem dX7_aheadOf_138 : decode cX7_aheadOf 138 = .ok (.goto (-83), 3) := by decide +kernel
theorem dX7_aheadOf_141 : decode cX7_aheadOf 141 = .ok (.iload_n 3, 1) := by decide +kernel
theorem dX7_aheadOf_142 : decode cX7_aheadOf 142 = .ok (.ireturn, 1) := by decide +kernel
theorem kSX7_aheadOf : yX7_aheadOf.cls ≠ "java/lang/invoke/MethodHandle" ∧ yX7_aheadOf.cls ≠ "java/lang/invoke/VarHandle" ∧ (parseMethodDescriptor yX7_aheadOf.desc).map (fun d => d.parameters.length) = some 2 := by decide +kernel
theorem kVX7_aheadOf : yX7_aheadOf.cls = RX7 ∧ yX7_aheadOf.cls ≠ "java/lang/invoke/MethodHandle" ∧ yX7_aheadOf.cls ≠ "java/lang/invoke/VarHandle" ∧ (parseMethodDescriptor yX7_aheadOf.desc).map (fun d => d.parameters.length) = some 2 := ⟨rfl, kSX7_aheadOf⟩
theorem dX7_areAlike_0 : decode cX7_areAlike 0 = .ok (.aload_n 0, 1) := by decide +kernel
theorem dX7_areAlike_1 : decode cX7_areAlike 1 = .ok (.getfield 24, 3) := by decide +kernel
theorem dX7_areAlike_4 : decode cX7_areAlike 4 = .ok (.iload_n 1, 1) := by decide +kernel
theorem dX7_areAlike_5 : decode cX7_areAlike 5 = .ok (.invokevirtual 71, 3) := by decide +kernel
theorem dX7_areAlike_8 : decode cX7_areAlike 8 = .ok (.aload_n 0, 1) := by decide +kernel
theorem dX7_areAlike_9 : decode cX7_areAlike 9 = .ok (.getfield 24, 3) := by decide +kernel
theorem dX7_areAlike_12 : decode cX7_areAlike 12 = .ok (.iload_n 2, 1) := by decide +kernel
theorem dX7_areAlike_13 : decode cX7_areAlike 13 = .ok (.invokevirtual 71, 3) := by decide +kernel
theorem dX7_areAlike_16 : decode cX7_areAlike 16 = .ok (.if_icmp .ne 26, 3) := by decide +kernel
theorem dX7_areAlike_19 : decode cX7_areAlike 19 = .ok (.aload_n 0, 1) := by decide +kernel
theorem dX7_areAlike_20 : decode cX7_areAlike 20 = .ok (.getfield 28, 3) := by decide +kernel
theorem dX7_areAlike_23 : decode cX7_areAlike 23 = .ok (.iload_n 1, 1) := by decide +kernel
theorem dX7_areAlike_24 : decode cX7_areAlike 24 = .ok (.invokevirtual 71, 3) := by decide +kernel
theorem dX7_areAlike_27 : decode cX7_areAlike 27 = .ok (.aload_n 0, 1) := by decide +kernel
theorem dX7_areAlike_28 : decode cX7_areAlike 28 = .ok (.getfield 28, 3) := by decide +kernel
theorem dX7_areAlike_31 : decode cX7_areAlike 31 = .ok (.iload_n 2, 1) := by decide +kernel
theorem dX7_areAlike_32 : decode cX7_areAlike 32 = .ok (.invokevirtual 71, 3) := by decide +kernel
theorem dX7_areAlike_35 : decode cX7_areAlike 35 = .ok (.if_icmp .ne 7, 3) := by decide +kernel
theorem dX7_areAlike_38 : decode cX7_areAlike 38 = .ok (.iconst 1, 1) := by decide +kernel
theorem dX7_areAlike_39 : decode cX7_areAlike 39 = .ok (.goto 4, 3) := by decide +kernel
theorem dX7_areAlike_42 : decode cX7_areAlike 42 = .ok (.iconst 0, 1) := by decide +kernel
theorem dX7_areAlike_43 : decode cX7_areAlike 43 = .ok (.ireturn, 1) := by decide +kernel
theorem kSX7_areAlike : yX7_areAlike.cls ≠ "java/lang/invoke/MethodHandle" ∧ yX7_areAlike.cls ≠ "java/lang/invoke/VarHandle" ∧ (parseMethodDescriptor yX7_areAlike.desc).map (fun d => d.parameters.length) = some 2 := by decide +kernel
theorem kVX7_areAlike : yX7_areAlike.cls = RX7 ∧ yX7_areAlike.cls ≠ "java/lang/invoke/MethodHandle" ∧ yX7_areAlike.cls ≠ "java/lang/invoke/VarHandle" ∧ (parseMethodDescriptor yX7_areAlike.desc).map (fun d => d.parameters.length) = some 2 := ⟨rfl, kSX7_areAlike⟩
theorem dX7_beat_0 : decode cX7_beat 0 = .ok (.iconst 0, 1) := by decide +kernel
theorem dX7_beat_1 : decode cX7_beat 1 = .ok (.istore 4, 2) := by decide +kernel
theorem dX7_beat_3 : decode cX7_beat 3 = .ok (.iload 4, 2) := by decide +kernel
theorem dX7_beat_5 : decode cX7_beat 5 = .ok (.aload_n 0, 1) := by decide +kernel
theorem dX7_beat_6 : decode cX7_beat 6 = .ok (.getfield 15, 3) := by decide +kernel
theorem dX7_beat_9 : decode cX7_beat 9 = .ok (.iload_n 1, 1) := by decide +kernel
theorem dX7_beat_10 : decode cX7_beat 10 = .ok (.invokevirtual 37, 3) := by decide +kernel
theorem dX7_beat_13 : decode cX7_beat 13 = .ok (.if_icmp .ge 39, 3) := by decide +kernel
theorem dX7_beat_16 : decode cX7_beat 16 = .ok (.aload_n 0, 1) := by decide +kernel
theorem dX7_beat_17 : decode cX7_beat 17 = .ok (.getfield 15, 3) := by decide +kernel
theorem dX7_beat_20 : decode cX7_beat 20 = .ok (.iload_n 1, 1) := by decide +kernel
theorem dX7_beat_21 : decode cX7_beat 21 = .ok (.iload 4, 2) := by decide +kernel
theorem dX7_beat_23 : decode cX7_beat 23 = .ok (.invokevirtual 40, 3) := by decide +kernel
theorem dX7_beat_26 : decode cX7_beat 26 = .ok (.iload_n 2, 1) := by decide +kernel
theorem dX7_beat_27 : decode cX7_beat 27 = .ok (.if_icmp .ne 19, 3) := by decide +kernel
theorem dX7_beat_30 : decode cX7_beat 30 = .ok (.aload_n 0, 1) := by decide +kernel
theorem dX7_beat_31 : decode cX7_beat 31 = .ok (.getfield 15, 3) := by decide +kernel
theorem dX7_beat_34 : decode cX7_beat 34 = .ok (.iload_n 1, 1) := by decide +kernel
theorem dX7_beat_35 : decode cX7_beat 35 = .ok (.iload 4, 2) := by decide +kernel
theorem dX7_beat_37 : decode cX7_beat 37 = .ok (.invokevirtual 44, 3) := by decide +kernel
theorem dX7_beat_40 : decode cX7_beat 40 = .ok (.iload_n 3, 1) := by decide +kernel
theorem dX7_beat_41 : decode cX7_beat 41 = .ok (.if_icmp .ne 5, 3) := by decide +kernel
theorem dX7_beat_44 : decode cX7_beat 44 = .ok (.iconst 1, 1) := by decide +kernel
theorem dX7_beat_45 : decode cX7_beat 45 = .ok (.ireturn, 1) := by decide +kernel
theorem dX7_beat_46 : decode cX7_beat 46 = .ok (.iinc 4 1, 3) := by decide +kernel
theorem dX7_beat_49 : decode cX7_beat 49 = .ok (.goto (-46), 3) := by decide +kernel
theorem dX7_beat_52 : decode cX7_beat 52 = .ok (.iconst 0, 1) := by decide +kernel
theorem dX7_beat_53 : decode cX7_beat 53 = .ok (.ireturn, 1) := by decide +kernel
theorem kSX7_beat : yX7_beat.cls ≠ "java/lang/invoke/MethodHandle" ∧ yX7_beat.cls ≠ "java/lang/invoke/VarHandle" ∧ (parseMethodDescriptor yX7_beat.desc).map (fun d => d.parameters.length) = some 3 := by decide +kernel
theorem kVX7_beat : yX7_beat.cls = RX7 ∧ yX7_beat.cls ≠ "java/lang/invoke/MethodHandle" ∧ yX7_beat.cls ≠ "java/lang/invoke/VarHandle" ∧ (parseMethodDescriptor yX7_beat.desc).map (fun d => d.parameters.length) = some 3 := ⟨rfl, kSX7_beat⟩
theorem dX7_breaksTie_0 : decode cX7_breaksTie 0 = .ok (.iload 4, 2) := by decide +kernel
theorem dX7_breaksTie_2 : decode cX7_breaksTie 2 = .ok (.iconst 2, 1) := by decide +kernel
theorem dX7_breaksTie_3 : decode cX7_breaksTie 3 = .ok (.if_icmp .ne 11, 3) := by decide +kernel
theorem dX7_breaksTie_6 : decode cX7_breaksTie 6 = .ok (.aload_n 0, 1) := by decide +kernel
theorem dX7_breaksTie_7 : decode cX7_breaksTie 7 = .ok (.iload_n 1, 1) := by decide +kernel
theorem dX7_breaksTie_8 : decode cX7_breaksTie 8 = .ok (.iload_n 2, 1) := by decide +kernel
theorem dX7_breaksTie_9 : decode cX7_breaksTie 9 = .ok (.iload_n 3, 1) := by decide +kernel
theorem dX7_breaksTie_10 : decode cX7_breaksTie 10 = .ok (.invokevirtual 92, 3) := by decide +kernel
theorem dX7_breaksTie_13 : decode cX7_breaksTie 13 = .ok (.ireturn, 1) := by decide +kernel
theorem dX7_breaksTie_14 : decode cX7_breaksTie 14 = .ok (.aload_n 0, 1) := by decide +kernel
theorem dX7_breaksTie_15 : decode cX7_breaksTie 15 = .ok (.getfield 9, 3) := by decide +kernel
theorem dX7_breaksTie_18 : decode cX7_breaksTie 18 = .ok (.iload_n 2, 1) := by decide +kernel
theorem dX7_breaksTie_19 : decode cX7_breaksTie 19 = .ok (.iconst 2, 1) := by decide +kernel
theorem dX7_breaksTie_20 : decode cX7_breaksTie 20 = .ok (.invokestatic 96, 3) := by decide +kernel
theorem dX7_breaksTie_23 : decode cX7_breaksTie 23 = .ok (.invokevirtual 65, 3) := by decide +kernel
theorem dX7_breaksTie_26 : decode cX7_breaksTie 26 = .ok (.istore 5, 2) := by decide +kernel
theorem dX7_breaksTie_28 : decode cX7_breaksTie 28 = .ok (.aload_n 0, 1) := by decide +kernel
theorem dX7_breaksTie_29 : decode cX7_breaksTie 29 = .ok (.getfield 9, 3) := by decide +kernel
theorem dX7_breaksTie_32 : decode cX7_breaksTie 32 = .ok (.iload_n 3, 1) := by decide +kernel
theorem dX7_breaksTie_33 : decode cX7_breaksTie 33 = .ok (.iconst 2, 1) := by decide +kernel
theorem dX7_breaksTie_34 : decode cX7_breaksTie 34 = .ok (.invokestatic 96, 3) := by decide +kernel
theorem dX7_breaksTie_37 : decode cX7_breaksTie 37 = .ok (.invokevirtual 65, 3) := by decide +kernel
theorem dX7_breaksTie_40 : decode cX7_breaksTie 40 = .ok (.istore 6, 2) := by decide +kernel
theorem dX7_breaksTie_42 : decode cX7_breaksTie 42 = .ok (.iload 5, 2) := by decide +kernel
theorem dX7_breaksTie_44 : decode cX7_breaksTie 44 = .ok (.iload 6, 2) := by decide +kernel
theorem dX7_breaksTie_46 : decode cX7_breaksTie 46 = .ok (.if_icmp .eq 18, 3) := by decide +kernel
theorem dX7_breaksTie_49 : decode cX7_breaksTie 49 = .ok (.iload 5, 2) := by decide +kernel
theorem dX7_breaksTie_51 : decode cX7_breaksTie 51 = .ok (.iload 6, 2) := by decide +kernel
theorem dX7_breaksTie_53 : decode cX7_breaksTie 53 = .ok (.if_icmp .ge 7, 3) := by decide +kernel
theorem dX7_breaksTie_56 : decode cX7_breaksTie 56 = .ok (.iconst 1, 1) := by decide +kernel
theorem dX7_breaksTie_57 : decode cX7_breaksTie 57 = .ok (.goto 17, 3) := by decide +kernel
theorem dX7_breaksTie_60 : decode cX7_breaksTie 60 = .ok (.iconst 0, 1) := by decide +kernel
theorem dX7_breaksTie_61 : decode cX7_breaksTie 61 = .ok (.goto 13, 3) := by decide +kernel
theorem dX7_breaksTie_64 : decode cX7_breaksTie 64 = .ok (.iload_n 2, 1) := by decide +kernel
theorem dX7_breaksTie_65 : decode cX7_breaksTie 65 = .ok (.iload_n 3, 1) := by decide +kernel
theorem dX7_breaksTie_66 : decode cX7_breaksTie 66 = .ok (.if_icmp .ge 7, 3) := by decide +kernel
theorem dX7_breaksTie_69 : decode cX7_breaksTie 69 = .ok (.iconst 1, 1) := by decide +kernel
theorem dX7_breaksTie_70 : decode cX7_breaksTie 70 = .ok (.goto 4, 3) := by decide +kernel
theorem dX7_breaksTie_73 : decode cX7_breaksTie 73 = .ok (.iconst 0, 1) := by decide +kernel
theorem dX7_breaksTie_74 : decode cX7_breaksTie 74 = .ok (.ireturn, 1) := by decide +kernel
theorem kSX7_breaksTie : yX7_breaksTie.cls ≠ "java/lang/invoke/MethodHandle" ∧ yX7_breaksTie.cls ≠ "java/lang/invoke/VarHandle" ∧ (parseMethodDescriptor yX7_breaksTie.desc).map (fun d => d.parameters.length) = some 4 := by decide +kernel
theorem kVX7_breaksTie : yX7_breaksTie.cls = RX7 ∧ yX7_breaksTie.cls ≠ "java/lang/invoke/MethodHandle" ∧ yX7_breaksTie.cls ≠ "java/lang/invoke/VarHandle" ∧ (parseMethodDescriptor yX7_breaksTie.desc).map (fun d => d.parameters.length) = some 4 := ⟨rfl, kSX7_breaksTie⟩
theorem dX7_hasMore_0 : decode cX7_hasMore 0 = .ok (.aload_n 0, 1) := by decide +kernel
theorem dX7_hasMore_1 : decode cX7_hasMore 1 = .ok (.getfield 24, 3) := by decide +kernel
theorem dX7_hasMore_4 : decode cX7_hasMore 4 = .ok (.iload_n 1, 1) := by decide +kernel
theorem dX7_hasMore_5 : decode cX7_hasMore 5 = .ok (.invokevirtual 71, 3) := by decide +kernel
theorem dX7_hasMore_8 : decode cX7_hasMore 8 = .ok (.aload_n 0, 1) := by decide +kernel
theorem dX7_hasMore_9 : decode cX7_hasMore 9 = .ok (.getfield 24, 3) := by decide +kernel
theorem dX7_hasMore_12 : decode cX7_hasMore 12 = .ok (.iload_n 2, 1) := by decide +kernel
theorem dX7_hasMore_13 : decode cX7_hasMore 13 = .ok (.invokevirtual 71, 3) := by decide +kernel
theorem dX7_hasMore_16 : decode cX7_hasMore 16 = .ok (.if_icmp .eq 28, 3) := by decide +kernel
theorem dX7_hasMore_19 : decode cX7_hasMore 19 = .ok (.aload_n 0, 1) := by decide +kernel
theorem dX7_hasMore_20 : decode cX7_hasMore 20 = .ok (.getfield 24, 3) := by decide +kernel
theorem dX7_hasMore_23 : decode cX7_hasMore 23 = .ok (.iload_n 1, 1) := by decide +kernel
theorem dX7_hasMore_24 : decode cX7_hasMore 24 = .ok (.invokevirtual 71, 3) := by decide +kernel
theorem dX7_hasMore_27 : decode cX7_hasMore 27 = .ok (.aload_n 0, 1) := by decide +kernel
theorem dX7_hasMore_28 : decode cX7_hasMore 28 = .ok (.getfield 24, 3) := by decide +kernel
theorem dX7_hasMore_31 : decode cX7_hasMore 31 = .ok (.iload_n 2, 1) := by decide +kernel
theorem dX7_hasMore_32 : decode cX7_hasMore 32 = .ok (.invokevirtual 71, 3) := by decide +kernel
theorem dX7_hasMore_35 : decode cX7_hasMore 35 = .ok (.if_icmp .le 7, 3) := by decide +kernel
theorem dX7_hasMore_38 : decode cX7_hasMore 38 = .ok (.iconst 1, 1) := by decide +kernel
theorem dX7_hasMore_39 : decode cX7_hasMore 39 = .ok (.goto 4, 3) := by decide +kernel
theorem dX7_hasMore_42 : decode cX7_hasMore 42 = .ok (.iconst 0, 1) := by decide +kernel
theorem dX7_hasMore_43 : decode cX7_hasMore 43 = .ok (.ireturn, 1) := by decide +kernel
theorem dX7_hasMore_44 : decode cX7_hasMore 44 = .ok (.aload_n 0, 1) := by decide +kernel
theorem dX7_hasMore_45 : decode cX7_hasMore 45 = .ok (.getfield 28, 3) := by decide +kernel
theorem dX7_hasMore_48 : decode cX7_hasMore 48 = .ok (.iload_n 1, 1) := by decide +kernel
theorem dX7_hasMore_49 : decode cX7_hasMore 49 = .ok (.invokevirtual 71, 3) := by decide +kernel
theorem dX7_hasMore_52 : decode cX7_hasMore 52 = .ok (.aload_n 0, 1) := by decide +kernel
theorem dX7_hasMore_53 : decode cX7_hasMore 53 = .ok (.getfield 28, 3) := by decide +kernel
theorem dX7_hasMore_56 : decode cX7_hasMore 56 = .ok (.iload_n 2, 1) := by decide +kernel
theorem dX7_hasMore_57 : decode cX7_hasMore 57 = .ok (.invokevirtual 71, 3) := by decide +kernel
theorem dX7_hasMore_60 : decode cX7_hasMore 60 = .ok (.if_icmp .le 7, 3) := by decide +kernel
theorem dX7_hasMore_63 : decode cX7_hasMore 63 = .ok (.iconst 1, 1) := by decide +kernel
theorem dX7_hasMore_64 : decode cX7_hasMore 64 = .ok (.goto 4, 3) := by decide +kernel
theorem dX7_hasMore_67 : decode cX7_hasMore 67 = .ok (.iconst 0, 1) := by decide +kernel
theorem dX7_hasMore_68 : decode cX7_hasMore 68 = .ok (.ireturn, 1) := by decide +kernel
theorem kSX7_hasMore : yX7_hasMore.cls ≠ "java/lang/invoke/MethodHandle" ∧ yX7_hasMore.cls ≠ "java/lang/invoke/VarHandle" ∧ (parseMethodDescriptor yX7_hasMore.desc).map (fun d => d.parameters.length) = some 2 := by decide +kernel
theorem kVX7_hasMore : yX7_hasMore.cls = RX7 ∧ yX7_hasMore.cls ≠ "java/lang/invoke/MethodHandle" ∧ yX7_hasMore.cls ≠ "java/lang/invoke/VarHandle" ∧ (parseMethodDescriptor yX7_hasMore.desc).map (fun d => d.parameters.length) = some 2 := ⟨rfl, kSX7_hasMore⟩
theorem dX7_member_0 : decode cX7_member 0 = .ok (.aload_n 0, 1) := by decide +kernel
theorem dX7_member_1 : decode cX7_member 1 = .ok (.getfield 9, 3) := by decide +kernel
theorem dX7_member_4 : decode cX7_member 4 = .ok (.iload_n 1, 1) := by decide +kernel
theorem dX7_member_5 : decode cX7_member 5 = .ok (.iconst 4, 1) := by decide +kernel
theorem dX7_member_6 : decode cX7_member 6 = .ok (.iload_n 2, 1) := by decide +kernel
theorem dX7_member_7 : decode cX7_member 7 = .ok (.iadd, 1) := by decide +kernel
theorem dX7_member_8 : decode cX7_member 8 = .ok (.invokestatic 62, 3) := by decide +kernel
theorem dX7_member_11 : decode cX7_member 11 = .ok (.invokevirtual 65, 3) := by decide +kernel
theorem dX7_member_14 : decode cX7_member 14 = .ok (.ireturn, 1) := by decide +kernel
theorem kSX7_member : yX7_member.cls ≠ "java/lang/invoke/MethodHandle" ∧ yX7_member.cls ≠ "java/lang/invoke/VarHandle" ∧ (parseMethodDescriptor yX7_member.desc).map (fun d => d.parameters.length) = some 2 := by decide +kernel
theorem kVX7_member : yX7_member.cls = RX7 ∧ yX7_member.cls ≠ "java/lang/invoke/MethodHandle" ∧ yX7_member.cls ≠ "java/lang/invoke/VarHandle" ∧ (parseMethodDescriptor yX7_member.desc).map (fun d => d.parameters.length) = some 2 := ⟨rfl, kSX7_member⟩
theorem dX7_ofTree_0 : decode cX7_ofTree 0 = .ok (.aload_n 0, 1) := by decide +kernel
theorem dX7_ofTree_1 : decode cX7_ofTree 1 = .ok (.getfield 15, 3) := by decide +kernel
theorem dX7_ofTree_4 : decode cX7_ofTree 4 = .ok (.iload_n 1, 1) := by decide +kernel
theorem dX7_ofTree_5 : decode cX7_ofTree 5 = .ok (.invokevirtual 31, 3) := by decide +kernel
theorem dX7_ofTree_8 : decode cX7_ofTree 8 = .ok (.iconst 2, 1) := by decide +kernel
theorem dX7_ofTree_9 : decode cX7_ofTree 9 = .ok (.isub, 1) := by decide +kernel
theorem dX7_ofTree_10 : decode cX7_ofTree 10 = .ok (.istore_n 3, 1) := by decide +kernel
theorem dX7_ofTree_11 : decode cX7_ofTree 11 = .ok (.aload_n 0, 1) := by decide +kernel
theorem dX7_ofTree_12 : decode cX7_ofTree 12 = .ok (.getfield 15, 3) := by decide +kernel
theorem dX7_ofTree_15 : decode cX7_ofTree 15 = .ok (.iload_n 1, 1) := by decide +kernel
theorem dX7_ofTree_16 : decode cX7_ofTree 16 = .ok (.invokevirtual 37, 3) := by decide +kernel
theorem dX7_ofTree_19 : decode cX7_ofTree 19 = .ok (.iload_n 3, 1) := by decide +kernel
theorem dX7_ofTree_20 : decode cX7_ofTree 20 = .ok (.isub, 1) := by decide +kernel
theorem dX7_ofTree_21 : decode cX7_ofTree 21 = .ok (.iconst 1, 1) := by decide +kernel
theorem dX7_ofTree_22 : decode cX7_ofTree 22 = .ok (.isub, 1) := by decide +kernel
theorem dX7_ofTree_23 : decode cX7_ofTree 23 = .ok (.iconst 2, 1) := by decide +kernel
theorem dX7_ofTree_24 : decode cX7_ofTree 24 = .ok (.idiv, 1) := by decide +kernel
theorem dX7_ofTree_25 : decode cX7_ofTree 25 = .ok (.istore 4, 2) := by decide +kernel
theorem dX7_ofTree_27 : decode cX7_ofTree 27 = .ok (.iload_n 2, 1) := by decide +kernel
theorem dX7_ofTree_28 : decode cX7_ofTree 28 = .ok (.tableswitch 80 0 3 #[32, 42, 52, 65], 32) := by decide +kernel
theorem dX7_ofTree_60 : decode cX7_ofTree 60 = .ok (.aload_n 0, 1) := by decide +kernel
theorem dX7_ofTree_61 : decode cX7_ofTree 61 = .ok (.getfield 15, 3) := by decide +kernel
theorem dX7_ofTree_64 : decode cX7_ofTree 64 = .ok (.iload_n 1, 1) := by decide +kernel
theorem dX7_ofTree_65 : decode cX7_ofTree 65 = .ok (.iload_n 3, 1) := by decide +kernel
theorem dX7_ofTree_66 : decode cX7_ofTree 66 = .ok (.invokevirtual 40, 3) := by decide +kernel
theorem dX7_ofTree_69 : decode cX7_ofTree 69 = .ok (.ireturn, 1) := by decide +kernel
theorem dX7_ofTree_70 : decode cX7_ofTree 70 = .ok (.aload_n 0, 1) := by decide +kernel
theorem dX7_ofTree_71 : decode cX7_ofTree 71 = .ok (.getfield 15, 3) := by decide +kernel
theorem dX7_ofTree_74 : decode cX7_ofTree 74 = .ok (.iload_n 1, 1) := by decide +kernel
theorem dX7_ofTree_75 : decode cX7_ofTree 75 = .ok (.iload_n 3, 1) := by decide +kernel
theorem dX7_ofTree_76 : decode cX7_ofTree 76 = .ok (.invokevirtual 44, 3) := by decide +kernel
theorem dX7_ofTree_79 : decode cX7_ofTree 79 = .ok (.ireturn, 1) := by decide +kernel
theorem dX7_ofTree_80 : decode cX7_ofTree 80 = .ok (.aload_n 0, 1) := by decide +kernel
theorem dX7_ofTree_81 : decode cX7_ofTree 81 = .ok (.getfield 15, 3) := by decide +kernel
theorem dX7_ofTree_84 : decode cX7_ofTree 84 = .ok (.iload_n 1, 1) := by decide +kernel
theorem dX7_ofTree_85 : decode cX7_ofTree 85 = .ok (.iload_n 3, 1) := by decide +kernel
theorem dX7_ofTree_86 : decode cX7_ofTree 86 = .ok (.iload 4, 2) := by decide +kernel
theorem dX7_ofTree_88 : decode cX7_ofTree 88 = .ok (.iadd, 1) := by decide +kernel
theorem dX7_ofTree_89 : decode cX7_ofTree 89 = .ok (.invokevirtual 40, 3) := by decide +kernel
theorem dX7_ofTree_92 : decode cX7_ofTree 92 = .ok (.ireturn, 1) := by decide +kernel
theorem dX7_ofTree_93 : decode cX7_ofTree 93 = .ok (.aload_n 0, 1) := by decide +kernel
theorem dX7_ofTree_94 : decode cX7_ofTree 94 = .ok (.getfield 15, 3) := by decide +kernel
theorem dX7_ofTree_97 : decode cX7_ofTree 97 = .ok (.iload_n 1, 1) := by decide +kernel
theorem dX7_ofTree_98 : decode cX7_ofTree 98 = .ok (.iload_n 3, 1) := by decide +kernel
theorem dX7_ofTree_99 : decode cX7_ofTree 99 = .ok (.iconst 2, 1) := by decide +kernel
theorem dX7_ofTree_100 : decode cX7_ofTree 100 = .ok (.iload 4, 2) := by decide +kernel
theorem dX7_ofTree_102 : decode cX7_ofTree 102 = .ok (.imul, 1) := by decide +kernel
theorem dX7_ofTree_103 : decode cX7_ofTree 103 = .ok (.iadd, 1) := by decide +kernel
theorem dX7_ofTree_104 : decode cX7_ofTree 104 = .ok (.invokevirtual 40, 3) := by decide +kernel
theorem dX7_ofTree_107 : decode cX7_ofTree 107 = .ok (.ireturn, 1) := by decide +kernel
theorem dX7_ofTree_108 : decode cX7_ofTree 108 = .ok (.iconst (-1), 1) := by decide +kernel
theorem dX7_ofTree_109 : decode cX7_ofTree 109 = .ok (.ireturn, 1) := by decide +kernel
theorem kSX7_ofTree : yX7_ofTree.cls ≠ "java/lang/invoke/MethodHandle" ∧ yX7_ofTree.cls ≠ "java/lang/invoke/VarHandle" ∧ (parseMethodDescriptor yX7_ofTree.desc).map (fun d => d.parameters.length) = some 2 := by decide +kernel
theorem kVX7_ofTree : yX7_ofTree.cls = RX7 ∧ yX7_ofTree.cls ≠ "java/lang/invoke/MethodHandle" ∧ yX7_ofTree.cls ≠ "java/lang/invoke/VarHandle" ∧ (parseMethodDescriptor yX7_ofTree.desc).map (fun d => d.parameters.length) = some 2 := ⟨rfl, kSX7_ofTree⟩
theorem dX8_isSeedOfAnother_0 : decode cX8_isSeedOfAnother 0 = .ok (.iconst 0, 1) := by decide +kernel
theorem dX8_isSeedOfAnother_1 : decode cX8_isSeedOfAnother 1 = .ok (.istore_n 3, 1) := by decide +kernel
theorem dX8_isSeedOfAnother_2 : decode cX8_isSeedOfAnother 2 = .ok (.iload_n 3, 1) := by decide +kernel
theorem dX8_isSeedOfAnother_3 : decode cX8_isSeedOfAnother 3 = .ok (.aload_n 0, 1) := by decide +kernel
theorem dX8_isSeedOfAnother_4 : decode cX8_isSeedOfAnother 4 = .ok (.invokevirtual 21, 3) := by decide +kernel
theorem dX8_isSeedOfAnother_7 : decode cX8_isSeedOfAnother 7 = .ok (.if_icmp .ge 61, 3) := by decide +kernel
theorem dX8_isSeedOfAnother_10 : decode cX8_isSeedOfAnother 10 = .ok (.iload_n 2, 1) := by decide +kernel
theorem dX8_isSeedOfAnother_11 : decode cX8_isSeedOfAnother 11 = .ok (.ifCond .le 57, 3) := by decide +kernel
theorem dX8_isSeedOfAnother_14 : decode cX8_isSeedOfAnother 14 = .ok (.iload_n 3, 1) := by decide +kernel
theorem dX8_isSeedOfAnother_15 : decode cX8_isSeedOfAnother 15 = .ok (.iload_n 1, 1) := by decide +kernel
theorem dX8_isSeedOfAnother_16 : decode cX8_isSeedOfAnother 16 = .ok (.if_icmp .eq 20, 3) := by decide +kernel
theorem dX8_isSeedOfAnother_19 : decode cX8_isSeedOfAnother 19 = .ok (.aload_n 0, 1) := by decide +kernel
theorem dX8_isSeedOfAnother_20 : decode cX8_isSeedOfAnother 20 = .ok (.iload_n 3, 1) := by decide +kernel
theorem dX8_isSeedOfAnother_21 : decode cX8_isSeedOfAnother 21 = .ok (.invokevirtual 33, 3) := by decide +kernel
theorem dX8_isSeedOfAnother_24 : decode cX8_isSeedOfAnother 24 = .ok (.aload_n 0, 1) := by decide +kernel
theorem dX8_isSeedOfAnother_25 : decode cX8_isSeedOfAnother 25 = .ok (.iload_n 1, 1) := by decide +kernel
theorem dX8_isSeedOfAnother_26 : decode cX8_isSeedOfAnother 26 = .ok (.invokevirtual 33, 3) := by decide +kernel
theorem dX8_isSeedOfAnother_29 : decode cX8_isSeedOfAnother 29 = .ok (.if_icmp .ne 7, 3) := by decide +kernel
theorem dX8_isSeedOfAnother_32 : decode cX8_isSeedOfAnother 32 = .ok (.iconst 1, 1) := by decide +kernel
theorem dX8_isSeedOfAnother_33 : decode cX8_isSeedOfAnother 33 = .ok (.goto 4, 3) := by decide +kernel
theorem dX8_isSeedOfAnother_36 : decode cX8_isSeedOfAnother 36 = .ok (.iconst 0, 1) := by decide +kernel
theorem dX8_isSeedOfAnother_37 : decode cX8_isSeedOfAnother 37 = .ok (.istore 4, 2) := by decide +kernel
theorem dX8_isSeedOfAnother_39 : decode cX8_isSeedOfAnother 39 = .ok (.iload 4, 2) := by decide +kernel
theorem dX8_isSeedOfAnother_41 : decode cX8_isSeedOfAnother 41 = .ok (.ifCond .eq 21, 3) := by decide +kernel
theorem dX8_isSeedOfAnother_44 : decode cX8_isSeedOfAnother 44 = .ok (.aload_n 0, 1) := by decide +kernel
theorem dX8_isSeedOfAnother_45 : decode cX8_isSeedOfAnother 45 = .ok (.getfield 9, 3) := by decide +kernel
theorem dX8_isSeedOfAnother_48 : decode cX8_isSeedOfAnother 48 = .ok (.iload_n 3, 1) := by decide +kernel
theorem dX8_isSeedOfAnother_49 : decode cX8_isSeedOfAnother 49 = .ok (.iconst 4, 1) := by decide +kernel
theorem dX8_isSeedOfAnother_50 : decode cX8_isSeedOfAnother 50 = .ok (.invokestatic 25, 3) := by decide +kernel
theorem dX8_isSeedOfAnother_53 : decode cX8_isSeedOfAnother 53 = .ok (.invokevirtual 17, 3) := by decide +kernel
theorem dX8_isSeedOfAnother_56 : decode cX8_isSeedOfAnother 56 = .ok (.iload_n 2, 1) := by decide +kernel
theorem dX8_isSeedOfAnother_57 : decode cX8_isSeedOfAnother 57 = .ok (.if_icmp .ne 5, 3) := by decide +kernel
theorem dX8_isSeedOfAnother_60 : decode cX8_isSeedOfAnother 60 = .ok (.iconst 1, 1) := by decide +kernel
theorem dX8_isSeedOfAnother_61 : decode cX8_isSeedOfAnother 61 = .ok (.ireturn, 1) := by decide +kernel
theorem dX8_isSeedOfAnother_62 : decode cX8_isSeedOfAnother 62 = .ok (.iinc 3 1, 3) := by decide +kernel
theorem dX8_isSeedOfAnother_65 : decode cX8_isSeedOfAnother 65 = .ok (.goto (-63), 3) := by decide +kernel
theorem dX8_isSeedOfAnother_68 : decode cX8_isSeedOfAnother 68 = .ok (.iconst 0, 1) := by decide +kernel
theorem dX8_isSeedOfAnother_69 : decode cX8_isSeedOfAnother 69 = .ok (.ireturn, 1) := by decide +kernel
theorem kSX8_isSeedOfAnother : yX8_isSeedOfAnother.cls ≠ "java/lang/invoke/MethodHandle" ∧ yX8_isSeedOfAnother.cls ≠ "java/lang/invoke/VarHandle" ∧ (parseMethodDescriptor yX8_isSeedOfAnother.desc).map (fun d => d.parameters.length) = some 2 := by decide +kernel
theorem kVX8_isSeedOfAnother : yX8_isSeedOfAnother.cls = RX8 ∧ yX8_isSeedOfAnother.cls ≠ "java/lang/invoke/MethodHandle" ∧ yX8_isSeedOfAnother.cls ≠ "java/lang/invoke/VarHandle" ∧ (parseMethodDescriptor yX8_isSeedOfAnother.desc).map (fun d => d.parameters.length) = some 2 := ⟨rfl, kSX8_isSeedOfAnother⟩

