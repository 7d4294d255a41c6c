section
theorem dX0_settle_0 : decode cX0_settle 0 = .ok (.aload_n 0, 1) := by decide +kernel
theorem dX0_settle_1 : decode cX0_settle 1 = .ok (.iload_n 1, 1) := by decide +kernel
theorem dX0_settle_2 : decode cX0_settle 2 = .ok (.invokevirtual 46, 3) := by decide +kernel
theorem dX0_settle_5 : decode cX0_settle 5 = .ok (.iconst 1, 1) := by decide +kernel
theorem dX0_settle_6 : decode cX0_settle 6 = .ok (.if_icmp .ne 13, 3) := by decide +kernel
theorem dX0_settle_9 : decode cX0_settle 9 = .ok (.aload_n 0, 1) := by decide +kernel
theorem dX0_settle_10 : decode cX0_settle 10 = .ok (.iload_n 1, 1) := by decide +kernel
theorem dX0_settle_11 : decode cX0_settle 11 = .ok (.aload_n 0, 1) := by decide +kernel
theorem dX0_settle_12 : decode cX0_settle 12 = .ok (.iload_n 1, 1) := by decide +kernel
theorem dX0_settle_13 : decode cX0_settle 13 = .ok (.invokevirtual 49, 3) := by decide +kernel
theorem dX0_settle_16 : decode cX0_settle 16 = .ok (.invokevirtual 80, 3) := by decide +kernel
theorem dX0_settle_19 : decode cX0_settle 19 = .ok (.aload_n 0, 1) := by decide +kernel
theorem dX0_settle_20 : decode cX0_settle 20 = .ok (.iload_n 1, 1) := by decide +kernel
theorem dX0_settle_21 : decode cX0_settle 21 = .ok (.invokevirtual 46, 3) := by decide +kernel
theorem dX0_settle_24 : decode cX0_settle 24 = .ok (.iconst 2, 1) := by decide +kernel
theorem dX0_settle_25 : decode cX0_settle 25 = .ok (.if_icmp .ne 35, 3) := by decide +kernel
theorem dX0_settle_28 : decode cX0_settle 28 = .ok (.aload_n 0, 1) := by decide +kernel
theorem dX0_settle_29 : decode cX0_settle 29 = .ok (.iload_n 1, 1) := by decide +kernel
theorem dX0_settle_30 : decode cX0_settle 30 = .ok (.aload_n 0, 1) := by decide +kernel
theorem dX0_settle_31 : decode cX0_settle 31 = .ok (.iload_n 1, 1) := by decide +kernel
theorem dX0_settle_32 : decode cX0_settle 32 = .ok (.invokevirtual 49, 3) := by decide +kernel
theorem dX0_settle_35 : decode cX0_settle 35 = .ok (.invokevirtual 83, 3) := by decide +kernel
theorem dX0_settle_38 : decode cX0_settle 38 = .ok (.aload_n 0, 1) := by decide +kernel
theorem dX0_settle_39 : decode cX0_settle 39 = .ok (.iload_n 1, 1) := by decide +kernel
theorem dX0_settle_40 : decode cX0_settle 40 = .ok (.aload_n 0, 1) := by decide +kernel
theorem dX0_settle_41 : decode cX0_settle 41 = .ok (.iload_n 1, 1) := by decide +kernel
theorem dX0_settle_42 : decode cX0_settle 42 = .ok (.invokevirtual 49, 3) := by decide +kernel
theorem dX0_settle_45 : decode cX0_settle 45 = .ok (.iconst 0, 1) := by decide +kernel
theorem dX0_settle_46 : decode cX0_settle 46 = .ok (.invokevirtual 86, 3) := by decide +kernel
theorem dX0_settle_49 : decode cX0_settle 49 = .ok (.aload_n 0, 1) := by decide +kernel
theorem dX0_settle_50 : decode cX0_settle 50 = .ok (.iload_n 1, 1) := by decide +kernel
theorem dX0_settle_51 : decode cX0_settle 51 = .ok (.aload_n 0, 1) := by decide +kernel
theorem dX0_settle_52 : decode cX0_settle 52 = .ok (.iload_n 1, 1) := by decide +kernel
theorem dX0_settle_53 : decode cX0_settle 53 = .ok (.invokevirtual 49, 3) := by decide +kernel
theorem dX0_settle_56 : decode cX0_settle 56 = .ok (.iconst 1, 1) := by decide +kernel
theorem dX0_settle_57 : decode cX0_settle 57 = .ok (.invokevirtual 86, 3) := by decide +kernel
theorem dX0_settle_60 : decode cX0_settle 60 = .ok (.return_, 1) := by decide +kernel
theorem kSX0_settle : yX0_settle.cls ≠ "java/lang/invoke/MethodHandle" ∧ yX0_settle.cls ≠ "java/lang/invoke/VarHandle" ∧ (parseMethodDescriptor yX0_settle.desc).map (fun d => d.parameters.length) = some 1 := by decide +kernel
theorem kVX0_settle : yX0_settle.cls = RX0 ∧ yX0_settle.cls ≠ "java/lang/invoke/MethodHandle" ∧ yX0_settle.cls ≠ "java/lang/invoke/VarHandle" ∧ (parseMethodDescriptor yX0_settle.desc).map (fun d => d.parameters.length) = some 1 := ⟨rfl, kSX0_settle⟩
theorem dX0_settlePool_0 : decode cX0_settlePool 0 = .ok (.iconst 0, 1) := by decide +kernel
theorem dX0_settlePool_1 : decode cX0_settlePool 1 = .ok (.istore_n 3, 1) := by decide +kernel
theorem dX0_settlePool_2 : decode cX0_settlePool 2 = .ok (.iconst 1, 1) := by decide +kernel
theorem dX0_settlePool_3 : decode cX0_settlePool 3 = .ok (.istore 4, 2) := by decide +kernel
theorem dX0_settlePool_5 : decode cX0_settlePool 5 = .ok (.iload 4, 2) := by decide +kernel
theorem dX0_settlePool_7 : decode cX0_settlePool 7 = .ok (.iload_n 2, 1) := by decide +kernel
theorem dX0_settlePool_8 : decode cX0_settlePool 8 = .ok (.if_icmp .ge 77, 3) := by decide +kernel
theorem dX0_settlePool_11 : decode cX0_settlePool 11 = .ok (.iconst 0, 1) := by decide +kernel
theorem dX0_settlePool_12 : decode cX0_settlePool 12 = .ok (.istore 5, 2) := by decide +kernel
theorem dX0_settlePool_14 : decode cX0_settlePool 14 = .ok (.iload 5, 2) := by decide +kernel
theorem dX0_settlePool_16 : decode cX0_settlePool 16 = .ok (.iload 4, 2) := by decide +kernel
theorem dX0_settlePool_18 : decode cX0_settlePool 18 = .ok (.iadd, 1) := by decide +kernel
theorem dX0_settlePool_19 : decode cX0_settlePool 19 = .ok (.iload_n 2, 1) := by decide +kernel
theorem dX0_settlePool_20 : decode cX0_settlePool 20 = .ok (.if_icmp .ge 59, 3) := by decide +kernel
theorem dX0_settlePool_23 : decode cX0_settlePool 23 = .ok (.aload_n 0, 1) := by decide +kernel
theorem dX0_settlePool_24 : decode cX0_settlePool 24 = .ok (.getfield 11, 3) := by decide +kernel
theorem dX0_settlePool_27 : decode cX0_settlePool 27 = .ok (.iload_n 1, 1) := by decide +kernel
theorem dX0_settlePool_28 : decode cX0_settlePool 28 = .ok (.iconst 4, 1) := by decide +kernel
theorem dX0_settlePool_29 : decode cX0_settlePool 29 = .ok (.iload 5, 2) := by decide +kernel
theorem dX0_settlePool_31 : decode cX0_settlePool 31 = .ok (.iadd, 1) := by decide +kernel
theorem dX0_settlePool_32 : decode cX0_settlePool 32 = .ok (.invokestatic 38, 3) := by decide +kernel
theorem dX0_settlePool_35 : decode cX0_settlePool 35 = .ok (.invokevirtual 42, 3) := by decide +kernel
theorem dX0_settlePool_38 : decode cX0_settlePool 38 = .ok (.istore 6, 2) := by decide +kernel
theorem dX0_settlePool_40 : decode cX0_settlePool 40 = .ok (.aload_n 0, 1) := by decide +kernel
theorem dX0_settlePool_41 : decode cX0_settlePool 41 = .ok (.getfield 11, 3) := by decide +kernel
theorem dX0_settlePool_44 : decode cX0_settlePool 44 = .ok (.iload_n 1, 1) := by decide +kernel
theorem dX0_settlePool_45 : decode cX0_settlePool 45 = .ok (.iconst 4, 1) := by decide +kernel
theorem dX0_settlePool_46 : decode cX0_settlePool 46 = .ok (.iload 5, 2) := by decide +kernel
theorem dX0_settlePool_48 : decode cX0_settlePool 48 = .ok (.iadd, 1) := by decide +kernel
theorem dX0_settlePool_49 : decode cX0_settlePool 49 = .ok (.iload 4, 2) := by decide +kernel
theorem dX0_settlePool_51 : decode cX0_settlePool 51 = .ok (.iadd, 1) := by decide +kernel
theorem dX0_settlePool_52 : decode cX0_settlePool 52 = .ok (.invokestatic 38, 3) := by decide +kernel
theorem dX0_settlePool_55 : decode cX0_settlePool 55 = .ok (.invokevirtual 42, 3) := by decide +kernel
theorem dX0_settlePool_58 : decode cX0_settlePool 58 = .ok (.istore 7, 2) := by decide +kernel
theorem dX0_settlePool_60 : decode cX0_settlePool 60 = .ok (.aload_n 0, 1) := by decide +kernel
theorem dX0_settlePool_61 : decode cX0_settlePool 61 = .ok (.iload_n 1, 1) := by decide +kernel
theorem dX0_settlePool_62 : decode cX0_settlePool 62 = .ok (.iload_n 3, 1) := by decide +kernel
theorem dX0_settlePool_63 : decode cX0_settlePool 63 = .ok (.iload 6, 2) := by decide +kernel
theorem dX0_settlePool_65 : decode cX0_settlePool 65 = .ok (.iload 7, 2) := by decide +kernel
theorem dX0_settlePool_67 : decode cX0_settlePool 67 = .ok (.invokevirtual 90, 3) := by decide +kernel
theorem dX0_settlePool_70 : decode cX0_settlePool 70 = .ok (.iinc 3 1, 3) := by decide +kernel
theorem dX0_settlePool_73 : decode cX0_settlePool 73 = .ok (.iinc 5 1, 3) := by decide +kernel
theorem dX0_settlePool_76 : decode cX0_settlePool 76 = .ok (.goto (-62), 3) := by decide +kernel
theorem dX0_settlePool_79 : decode cX0_settlePool 79 = .ok (.iinc 4 1, 3) := by decide +kernel
theorem dX0_settlePool_82 : decode cX0_settlePool 82 = .ok (.goto (-77), 3) := by decide +kernel
theorem dX0_settlePool_85 : decode cX0_settlePool 85 = .ok (.return_, 1) := by decide +kernel
theorem kSX0_settlePool : yX0_settlePool.cls ≠ "java/lang/invoke/MethodHandle" ∧ yX0_settlePool.cls ≠ "java/lang/invoke/VarHandle" ∧ (parseMethodDescriptor yX0_settlePool.desc).map (fun d => d.parameters.length) = some 2 := by decide +kernel
theorem kVX0_settlePool : yX0_settlePool.cls = RX0 ∧ yX0_settlePool.cls ≠ "java/lang/invoke/MethodHandle" ∧ yX0_settlePool.cls ≠ "java/lang/invoke/VarHandle" ∧ (parseMethodDescriptor yX0_settlePool.desc).map (fun d => d.parameters.length) = some 2 := ⟨rfl, kSX0_settlePool⟩
theorem dX0_settleTree_0 : decode cX0_settleTree 0 = .ok (.iconst 0, 1) := by decide +kernel
theorem dX0_settleTree_1 : decode cX0_settleTree 1 = .ok (.istore_n 3, 1) := by decide +kernel
theorem dX0_settleTree_2 : decode cX0_settleTree 2 = .ok (.iload_n 3, 1) := by decide +kernel
theorem dX0_settleTree_3 : decode cX0_settleTree 3 = .ok (.iload_n 2, 1) := by decide +kernel
theorem dX0_settleTree_4 : decode cX0_settleTree 4 = .ok (.iconst 2, 1) := by decide +kernel
theorem dX0_settleTree_5 : decode cX0_settleTree 5 = .ok (.idiv, 1) := by decide +kernel
theorem dX0_settleTree_6 : decode cX0_settleTree 6 = .ok (.if_icmp .ge 82, 3) := by decide +kernel
theorem dX0_settleTree_9 : decode cX0_settleTree 9 = .ok (.aload_n 0, 1) := by decide +kernel
theorem dX0_settleTree_10 : decode cX0_settleTree 10 = .ok (.getfield 11, 3) := by decide +kernel
theorem dX0_settleTree_13 : decode cX0_settleTree 13 = .ok (.iload_n 1, 1) := by decide +kernel
theorem dX0_settleTree_14 : decode cX0_settleTree 14 = .ok (.iconst 4, 1) := by decide +kernel
theorem dX0_settleTree_15 : decode cX0_settleTree 15 = .ok (.iconst 2, 1) := by decide +kernel
theorem dX0_settleTree_16 : decode cX0_settleTree 16 = .ok (.iload_n 3, 1) := by decide +kernel
theorem dX0_settleTree_17 : decode cX0_settleTree 17 = .ok (.imul, 1) := by decide +kernel
theorem dX0_settleTree_18 : decode cX0_settleTree 18 = .ok (.iadd, 1) := by decide +kernel
theorem dX0_settleTree_19 : decode cX0_settleTree 19 = .ok (.invokestatic 38, 3) := by decide +kernel
theorem dX0_settleTree_22 : decode cX0_settleTree 22 = .ok (.invokevirtual 42, 3) := by decide +kernel
theorem dX0_settleTree_25 : decode cX0_settleTree 25 = .ok (.istore 4, 2) := by decide +kernel
theorem dX0_settleTree_27 : decode cX0_settleTree 27 = .ok (.aload_n 0, 1) := by decide +kernel
theorem dX0_settleTree_28 : decode cX0_settleTree 28 = .ok (.getfield 11, 3) := by decide +kernel
theorem dX0_settleTree_31 : decode cX0_settleTree 31 = .ok (.iload_n 1, 1) := by decide +kernel
theorem dX0_settleTree_32 : decode cX0_settleTree 32 = .ok (.iconst 4, 1) := by decide +kernel
theorem dX0_settleTree_33 : decode cX0_settleTree 33 = .ok (.iconst 2, 1) := by decide +kernel
theorem dX0_settleTree_34 : decode cX0_settleTree 34 = .ok (.iload_n 3, 1) := by decide +kernel
theorem dX0_settleTree_35 : decode cX0_settleTree 35 = .ok (.imul, 1) := by decide +kernel
theorem dX0_settleTree_36 : decode cX0_settleTree 36 = .ok (.iadd, 1) := by decide +kernel
theorem dX0_settleTree_37 : decode cX0_settleTree 37 = .ok (.iconst 1, 1) := by decide +kernel
theorem dX0_settleTree_38 : decode cX0_settleTree 38 = .ok (.iadd, 1) := by decide +kernel
theorem dX0_settleTree_39 : decode cX0_settleTree 39 = .ok (.invokestatic 38, 3) := by decide +kernel
theorem dX0_settleTree_42 : decode cX0_settleTree 42 = .ok (.invokevirtual 42, 3) := by decide +kernel
theorem dX0_settleTree_45 : decode cX0_settleTree 45 = .ok (.istore 5, 2) := by decide +kernel
theorem dX0_settleTree_47 : decode cX0_settleTree 47 = .ok (.iload 4, 2) := by decide +kernel
theorem dX0_settleTree_49 : decode cX0_settleTree 49 = .ok (.iconst (-1), 1) := by decide +kernel
theorem dX0_settleTree_50 : decode cX0_settleTree 50 = .ok (.if_icmp .eq 9, 3) := by decide +kernel
theorem dX0_settleTree_53 : decode cX0_settleTree 53 = .ok (.iload 5, 2) := by decide +kernel
theorem dX0_settleTree_55 : decode cX0_settleTree 55 = .ok (.iconst (-1), 1) := by decide +kernel
theorem dX0_settleTree_56 : decode cX0_settleTree 56 = .ok (.if_icmp .ne 16, 3) := by decide +kernel
theorem dX0_settleTree_59 : decode cX0_settleTree 59 = .ok (.aload_n 0, 1) := by decide +kernel
theorem dX0_settleTree_60 : decode cX0_settleTree 60 = .ok (.iload_n 1, 1) := by decide +kernel
theorem dX0_settleTree_61 : decode cX0_settleTree 61 = .ok (.iload_n 3, 1) := by decide +kernel
theorem dX0_settleTree_62 : decode cX0_settleTree 62 = .ok (.iload 4, 2) := by decide +kernel
theorem dX0_settleTree_64 : decode cX0_settleTree 64 = .ok (.iload 5, 2) := by decide +kernel
theorem dX0_settleTree_66 : decode cX0_settleTree 66 = .ok (.invokevirtual 94, 3) := by decide +kernel
theorem dX0_settleTree_69 : decode cX0_settleTree 69 = .ok (.goto 13, 3) := by decide +kernel
theorem dX0_settleTree_72 : decode cX0_settleTree 72 = .ok (.aload_n 0, 1) := by decide +kernel
theorem dX0_settleTree_73 : decode cX0_settleTree 73 = .ok (.iload_n 1, 1) := by decide +kernel
theorem dX0_settleTree_74 : decode cX0_settleTree 74 = .ok (.iload_n 3, 1) := by decide +kernel
theorem dX0_settleTree_75 : decode cX0_settleTree 75 = .ok (.iload 4, 2) := by decide +kernel
theorem dX0_settleTree_77 : decode cX0_settleTree 77 = .ok (.iload 5, 2) := by decide +kernel
theorem dX0_settleTree_79 : decode cX0_settleTree 79 = .ok (.invokevirtual 90, 3) := by decide +kernel
theorem dX0_settleTree_82 : decode cX0_settleTree 82 = .ok (.iinc 3 1, 3) := by decide +kernel
theorem dX0_settleTree_85 : decode cX0_settleTree 85 = .ok (.goto (-83), 3) := by decide +kernel
theorem dX0_settleTree_88 : decode cX0_settleTree 88 = .ok (.iload_n 2, 1) := by decide +kernel
theorem dX0_settleTree_89 : decode cX0_settleTree 89 = .ok (.iconst 2, 1) := by decide +kernel
theorem dX0_settleTree_90 : decode cX0_settleTree 90 = .ok (.idiv, 1) := by decide +kernel
theorem dX0_settleTree_91 : decode cX0_settleTree 91 = .ok (.istore_n 3, 1) := by decide +kernel
theorem dX0_settleTree_92 : decode cX0_settleTree 92 = .ok (.iload_n 3, 1) := by decide +kernel
theorem dX0_settleTree_93 : decode cX0_settleTree 93 = .ok (.iload_n 2, 1) := by decide +kernel
theorem dX0_settleTree_94 : decode cX0_settleTree 94 = .ok (.iconst 1, 1) := by decide +kernel
theorem dX0_settleTree_95 : decode cX0_settleTree 95 = .ok (.isub, 1) := by decide +kernel
theorem dX0_settleTree_96 : decode cX0_settleTree 96 = .ok (.if_icmp .ge 38, 3) := by decide +kernel
theorem dX0_settleTree_99 : decode cX0_settleTree 99 = .ok (.iload_n 2, 1) := by decide +kernel
theorem dX0_settleTree_100 : decode cX0_settleTree 100 = .ok (.iload_n 3, 1) := by decide +kernel
theorem dX0_settleTree_101 : decode cX0_settleTree 101 = .ok (.invokestatic 97, 3) := by decide +kernel
theorem dX0_settleTree_104 : decode cX0_settleTree 104 = .ok (.istore 4, 2) := by decide +kernel
theorem dX0_settleTree_106 : decode cX0_settleTree 106 = .ok (.aload_n 0, 1) := by decide +kernel
theorem dX0_settleTree_107 : decode cX0_settleTree 107 = .ok (.iload_n 1, 1) := by decide +kernel
theorem dX0_settleTree_108 : decode cX0_settleTree 108 = .ok (.iload_n 3, 1) := by decide +kernel
theorem dX0_settleTree_109 : decode cX0_settleTree 109 = .ok (.aload_n 0, 1) := by decide +kernel
theorem dX0_settleTree_110 : decode cX0_settleTree 110 = .ok (.iload_n 1, 1) := by decide +kernel
theorem dX0_settleTree_111 : decode cX0_settleTree 111 = .ok (.iload 4, 2) := by decide +kernel
theorem dX0_settleTree_113 : decode cX0_settleTree 113 = .ok (.invokevirtual 68, 3) := by decide +kernel
theorem dX0_settleTree_116 : decode cX0_settleTree 116 = .ok (.aload_n 0, 1) := by decide +kernel
theorem dX0_settleTree_117 : decode cX0_settleTree 117 = .ok (.iload_n 1, 1) := by decide +kernel
theorem dX0_settleTree_118 : decode cX0_settleTree 118 = .ok (.iload 4, 2) := by decide +kernel
theorem dX0_settleTree_120 : decode cX0_settleTree 120 = .ok (.iconst 1, 1) := by decide +kernel
theorem dX0_settleTree_121 : decode cX0_settleTree 121 = .ok (.iadd, 1) := by decide +kernel
theorem dX0_settleTree_122 : decode cX0_settleTree 122 = .ok (.invokevirtual 68, 3) := by decide +kernel
theorem dX0_settleTree_125 : decode cX0_settleTree 125 = .ok (.invokevirtual 90, 3) := by decide +kernel
theorem dX0_settleTree_128 : decode cX0_settleTree 128 = .ok (.iinc 3 1, 3) := by decide +kernel
theorem dX0_settleTree_131 : decode cX0_settleTree 131 = .ok (.goto (-39), 3) := by decide +kernel
theorem dX0_settleTree_134 : decode cX0_settleTree 134 = .ok (.return_, 1) := by decide +kernel
theorem kSX0_settleTree : yX0_settleTree.cls ≠ "java/lang/invoke/MethodHandle" ∧ yX0_settleTree.cls ≠ "java/lang/invoke/VarHandle" ∧ (parseMethodDescriptor yX0_settleTree.desc).map (fun d => d.parameters.length) = some 2 := by decide +kernel
theorem kVX0_settleTree : yX0_settleTree.cls = RX0 ∧ yX0_settleTree.cls ≠ "java/lang/invoke/MethodHandle" ∧ yX0_settleTree.cls ≠ "java/lang/invoke/VarHandle" ∧ (parseMethodDescriptor yX0_settleTree.desc).map (fun d => d.parameters.length) = some 2 := ⟨rfl, kSX0_settleTree⟩
theorem dX0_settleLives_0 : decode cX0_settleLives 0 = .ok (.iload_n 2, 1) := by decide +kernel
theorem dX0_settleLives_1 : decode cX0_settleLives 1 = .ok (.invokestatic 52, 3) := by decide +kernel
theorem dX0_settleLives_4 : decode cX0_settleLives 4 = .ok (.istore 4, 2) := by decide +kernel
theorem dX0_settleLives_6 : decode cX0_settleLives 6 = .ok (.aload_n 0, 1) := by decide +kernel
theorem dX0_settleLives_7 : decode cX0_settleLives 7 = .ok (.iload_n 1, 1) := by decide +kernel
theorem dX0_settleLives_8 : decode cX0_settleLives 8 = .ok (.iload_n 2, 1) := by decide +kernel
theorem dX0_settleLives_9 : decode cX0_settleLives 9 = .ok (.iconst 4, 1) := by decide +kernel
theorem dX0_settleLives_10 : decode cX0_settleLives 10 = .ok (.isub, 1) := by decide +kernel
theorem dX0_settleLives_11 : decode cX0_settleLives 11 = .ok (.iload_n 3, 1) := by decide +kernel
theorem dX0_settleLives_12 : decode cX0_settleLives 12 = .ok (.iadd, 1) := by decide +kernel
theorem dX0_settleLives_13 : decode cX0_settleLives 13 = .ok (.invokevirtual 68, 3) := by decide +kernel
theorem dX0_settleLives_16 : decode cX0_settleLives 16 = .ok (.istore 5, 2) := by decide +kernel
theorem dX0_settleLives_18 : decode cX0_settleLives 18 = .ok (.aload_n 0, 1) := by decide +kernel
theorem dX0_settleLives_19 : decode cX0_settleLives 19 = .ok (.iload_n 1, 1) := by decide +kernel
theorem dX0_settleLives_20 : decode cX0_settleLives 20 = .ok (.iload_n 2, 1) := by decide +kernel
theorem dX0_settleLives_21 : decode cX0_settleLives 21 = .ok (.iload_n 3, 1) := by decide +kernel
theorem dX0_settleLives_22 : decode cX0_settleLives 22 = .ok (.iload 5, 2) := by decide +kernel
theorem dX0_settleLives_24 : decode cX0_settleLives 24 = .ok (.invokevirtual 100, 3) := by decide +kernel
theorem dX0_settleLives_27 : decode cX0_settleLives 27 = .ok (.aload_n 0, 1) := by decide +kernel
theorem dX0_settleLives_28 : decode cX0_settleLives 28 = .ok (.getfield 33, 3) := by decide +kernel
theorem dX0_settleLives_31 : decode cX0_settleLives 31 = .ok (.iconst 0, 1) := by decide +kernel
theorem dX0_settleLives_32 : decode cX0_settleLives 32 = .ok (.invokevirtual 65, 3) := by decide +kernel
theorem dX0_settleLives_35 : decode cX0_settleLives 35 = .ok (.istore 6, 2) := by decide +kernel
theorem dX0_settleLives_37 : decode cX0_settleLives 37 = .ok (.iconst 1, 1) := by decide +kernel
theorem dX0_settleLives_38 : decode cX0_settleLives 38 = .ok (.istore 7, 2) := by decide +kernel
theorem dX0_settleLives_40 : decode cX0_settleLives 40 = .ok (.iload 7, 2) := by decide +kernel
theorem dX0_settleLives_42 : decode cX0_settleLives 42 = .ok (.iload 4, 2) := by decide +kernel
theorem dX0_settleLives_44 : decode cX0_settleLives 44 = .ok (.if_icmp .gt 87, 3) := by decide +kernel
theorem dX0_settleLives_47 : decode cX0_settleLives 47 = .ok (.iload_n 2, 1) := by decide +kernel
theorem dX0_settleLives_48 : decode cX0_settleLives 48 = .ok (.iconst 2, 1) := by decide +kernel
theorem dX0_settleLives_49 : decode cX0_settleLives 49 = .ok (.isub, 1) := by decide +kernel
theorem dX0_settleLives_50 : decode cX0_settleLives 50 = .ok (.iload_n 3, 1) := by decide +kernel
theorem dX0_settleLives_51 : decode cX0_settleLives 51 = .ok (.iload 4, 2) := by decide +kernel
theorem dX0_settleLives_53 : decode cX0_settleLives 53 = .ok (.imul, 1) := by decide +kernel
theorem dX0_settleLives_54 : decode cX0_settleLives 54 = .ok (.iadd, 1) := by decide +kernel
theorem dX0_settleLives_55 : decode cX0_settleLives 55 = .ok (.iload 7, 2) := by decide +kernel
theorem dX0_settleLives_57 : decode cX0_settleLives 57 = .ok (.iadd, 1) := by decide +kernel
theorem dX0_settleLives_58 : decode cX0_settleLives 58 = .ok (.istore 8, 2) := by decide +kernel
theorem dX0_settleLives_60 : decode cX0_settleLives 60 = .ok (.iload 7, 2) := by decide +kernel
theorem dX0_settleLives_62 : decode cX0_settleLives 62 = .ok (.iconst 1, 1) := by decide +kernel
theorem dX0_settleLives_63 : decode cX0_settleLives 63 = .ok (.if_icmp .ne 35, 3) := by decide +kernel
theorem dX0_settleLives_66 : decode cX0_settleLives 66 = .ok (.iload 5, 2) := by decide +kernel
theorem dX0_settleLives_68 : decode cX0_settleLives 68 = .ok (.iconst (-1), 1) := by decide +kernel
theorem dX0_settleLives_69 : decode cX0_settleLives 69 = .ok (.if_icmp .eq 29, 3) := by decide +kernel
theorem dX0_settleLives_72 : decode cX0_settleLives 72 = .ok (.iload 6, 2) := by decide +kernel
theorem dX0_settleLives_74 : decode cX0_settleLives 74 = .ok (.iconst (-1), 1) := by decide +kernel
theorem dX0_settleLives_75 : decode cX0_settleLives 75 = .ok (.if_icmp .ne 23, 3) := by decide +kernel
theorem dX0_settleLives_78 : decode cX0_settleLives 78 = .ok (.aload_n 0, 1) := by decide +kernel
theorem dX0_settleLives_79 : decode cX0_settleLives 79 = .ok (.iload_n 1, 1) := by decide +kernel
theorem dX0_settleLives_80 : decode cX0_settleLives 80 = .ok (.iload 8, 2) := by decide +kernel
theorem dX0_settleLives_82 : decode cX0_settleLives 82 = .ok (.iconst (-1), 1) := by decide +kernel
theorem dX0_settleLives_83 : decode cX0_settleLives 83 = .ok (.aload_n 0, 1) := by decide +kernel
theorem dX0_settleLives_84 : decode cX0_settleLives 84 = .ok (.getfield 33, 3) := by decide +kernel
theorem dX0_settleLives_87 : decode cX0_settleLives 87 = .ok (.iload 7, 2) := by decide +kernel
theorem dX0_settleLives_89 : decode cX0_settleLives 89 = .ok (.invokevirtual 65, 3) := by decide +kernel
theorem dX0_settleLives_92 : decode cX0_settleLives 92 = .ok (.invokevirtual 94, 3) := by decide +kernel
theorem dX0_settleLives_95 : decode cX0_settleLives 95 = .ok (.goto 21, 3) := by decide +kernel
theorem dX0_settleLives_98 : decode cX0_settleLives 98 = .ok (.aload_n 0, 1) := by decide +kernel
theorem dX0_settleLives_99 : decode cX0_settleLives 99 = .ok (.iload_n 1, 1) := by decide +kernel
theorem dX0_settleLives_100 : decode cX0_settleLives 100 = .ok (.iload 8, 2) := by decide +kernel
theorem dX0_settleLives_102 : decode cX0_settleLives 102 = .ok (.iload 6, 2) := by decide +kernel
theorem dX0_settleLives_104 : decode cX0_settleLives 104 = .ok (.aload_n 0, 1) := by decide +kernel
theorem dX0_settleLives_105 : decode cX0_settleLives 105 = .ok (.getfield 33, 3) := by decide +kernel
theorem dX0_settleLives_108 : decode cX0_settleLives 108 = .ok (.iload 7, 2) := by decide +kernel
theorem dX0_settleLives_110 : decode cX0_settleLives 110 = .ok (.invokevirtual 65, 3) := by decide +kernel
theorem dX0_settleLives_113 : decode cX0_settleLives 113 = .ok (.invokevirtual 90, 3) := by decide +kernel
theorem dX0_settleLives_116 : decode cX0_settleLives 116 = .ok (.aload_n 0, 1) := by decide +kernel
theorem dX0_settleLives_117 : decode cX0_settleLives 117 = .ok (.iload_n 1, 1) := by decide +kernel
theorem dX0_settleLives_118 : decode cX0_settleLives 118 = .ok (.iload 8, 2) := by decide +kernel
theorem dX0_settleLives_120 : decode cX0_settleLives 120 = .ok (.invokevirtual 68, 3) := by decide +kernel
theorem dX0_settleLives_123 : decode cX0_settleLives 123 = .ok (.istore 6, 2) := by decide +kernel
theorem dX0_settleLives_125 : decode cX0_settleLives 125 = .ok (.iinc 7 1, 3) := by decide +kernel
theorem dX0_settleLives_128 : decode cX0_settleLives 128 = .ok (.goto (-88), 3) := by decide +kernel
theorem dX0_settleLives_131 : decode cX0_settleLives 131 = .ok (.return_, 1) := by decide +kernel
theorem kSX0_settleLives : yX0_settleLives.cls ≠ "java/lang/invoke/MethodHandle" ∧ yX0_settleLives.cls ≠ "java/lang/invoke/VarHandle" ∧ (parseMethodDescriptor yX0_settleLives.desc).map (fun d => d.parameters.length) = some 3 := by decide +kernel
theorem kVX0_settleLives : yX0_settleLives.cls = RX0 ∧ yX0_settleLives.cls ≠ "java/lang/invoke/MethodHandle" ∧ yX0_settleLives.cls ≠ "java/lang/invoke/VarHandle" ∧ (parseMethodDescriptor yX0_settleLives.desc).map (fun d => d.parameters.length) = some 3 := ⟨rfl, kSX0_settleLives⟩
theorem dX0_findLosersTo_0 : decode cX0_findLosersTo 0 = .ok (.aload_n 0, 1) := by decide +kernel
theorem dX0_findLosersTo_1 : decode cX0_findLosersTo 1 = .ok (.getfield 33, 3) := by decide +kernel
theorem dX0_findLosersTo_4 : decode cX0_findLosersTo 4 = .ok (.iconst (-1), 1) := by decide +kernel
theorem dX0_findLosersTo_5 : decode cX0_findLosersTo 5 = .ok (.invokevirtual 103, 3) := by decide +kernel
theorem dX0_findLosersTo_8 : decode cX0_findLosersTo 8 = .ok (.iload_n 2, 1) := by decide +kernel
theorem dX0_findLosersTo_9 : decode cX0_findLosersTo 9 = .ok (.iconst 4, 1) := by decide +kernel
theorem dX0_findLosersTo_10 : decode cX0_findLosersTo 10 = .ok (.isub, 1) := by decide +kernel
theorem dX0_findLosersTo_11 : decode cX0_findLosersTo 11 = .ok (.iload_n 3, 1) := by decide +kernel
theorem dX0_findLosersTo_12 : decode cX0_findLosersTo 12 = .ok (.iadd, 1) := by decide +kernel
theorem dX0_findLosersTo_13 : decode cX0_findLosersTo 13 = .ok (.istore 5, 2) := by decide +kernel
theorem dX0_findLosersTo_15 : decode cX0_findLosersTo 15 = .ok (.iload_n 2, 1) := by decide +kernel
theorem dX0_findLosersTo_16 : decode cX0_findLosersTo 16 = .ok (.invokestatic 52, 3) := by decide +kernel
theorem dX0_findLosersTo_19 : decode cX0_findLosersTo 19 = .ok (.istore 6, 2) := by decide +kernel
theorem dX0_findLosersTo_21 : decode cX0_findLosersTo 21 = .ok (.iload 6, 2) := by decide +kernel
theorem dX0_findLosersTo_23 : decode cX0_findLosersTo 23 = .ok (.ifCond .lt 84, 3) := by decide +kernel
theorem dX0_findLosersTo_26 : decode cX0_findLosersTo 26 = .ok (.iload 4, 2) := by decide +kernel
theorem dX0_findLosersTo_28 : decode cX0_findLosersTo 28 = .ok (.iconst (-1), 1) := by decide +kernel
theorem dX0_findLosersTo_29 : decode cX0_findLosersTo 29 = .ok (.if_icmp .eq 78, 3) := by decide +kernel
theorem dX0_findLosersTo_32 : decode cX0_findLosersTo 32 = .ok (.aload_n 0, 1) := by decide +kernel
theorem dX0_findLosersTo_33 : decode cX0_findLosersTo 33 = .ok (.iload_n 1, 1) := by decide +kernel
theorem dX0_findLosersTo_34 : decode cX0_findLosersTo 34 = .ok (.iload 5, 2) := by decide +kernel
theorem dX0_findLosersTo_36 : decode cX0_findLosersTo 36 = .ok (.invokevirtual 71, 3) := by decide +kernel
theorem dX0_findLosersTo_39 : decode cX0_findLosersTo 39 = .ok (.iload 4, 2) := by decide +kernel
theorem dX0_findLosersTo_41 : decode cX0_findLosersTo 41 = .ok (.if_icmp .ne 7, 3) := by decide +kernel
theorem dX0_findLosersTo_44 : decode cX0_findLosersTo 44 = .ok (.iconst 1, 1) := by decide +kernel
theorem dX0_findLosersTo_45 : decode cX0_findLosersTo 45 = .ok (.goto 4, 3) := by decide +kernel
theorem dX0_findLosersTo_48 : decode cX0_findLosersTo 48 = .ok (.iconst 0, 1) := by decide +kernel
theorem dX0_findLosersTo_49 : decode cX0_findLosersTo 49 = .ok (.istore 7, 2) := by decide +kernel
theorem dX0_findLosersTo_51 : decode cX0_findLosersTo 51 = .ok (.aload_n 0, 1) := by decide +kernel
theorem dX0_findLosersTo_52 : decode cX0_findLosersTo 52 = .ok (.getfield 33, 3) := by decide +kernel
theorem dX0_findLosersTo_55 : decode cX0_findLosersTo 55 = .ok (.iload 6, 2) := by decide +kernel
theorem dX0_findLosersTo_57 : decode cX0_findLosersTo 57 = .ok (.iload 7, 2) := by decide +kernel
theorem dX0_findLosersTo_59 : decode cX0_findLosersTo 59 = .ok (.ifCond .eq 13, 3) := by decide +kernel
theorem dX0_findLosersTo_62 : decode cX0_findLosersTo 62 = .ok (.aload_n 0, 1) := by decide +kernel
theorem dX0_findLosersTo_63 : decode cX0_findLosersTo 63 = .ok (.iload_n 1, 1) := by decide +kernel
theorem dX0_findLosersTo_64 : decode cX0_findLosersTo 64 = .ok (.iload 5, 2) := by decide +kernel
theorem dX0_findLosersTo_66 : decode cX0_findLosersTo 66 = .ok (.invokevirtual 74, 3) := by decide +kernel
theorem dX0_findLosersTo_69 : decode cX0_findLosersTo 69 = .ok (.goto 10, 3) := by decide +kernel
theorem dX0_findLosersTo_72 : decode cX0_findLosersTo 72 = .ok (.aload_n 0, 1) := by decide +kernel
theorem dX0_findLosersTo_73 : decode cX0_findLosersTo 73 = .ok (.iload_n 1, 1) := by decide +kernel
theorem dX0_findLosersTo_74 : decode cX0_findLosersTo 74 = .ok (.iload 5, 2) := by decide +kernel
theorem dX0_findLosersTo_76 : decode cX0_findLosersTo 76 = .ok (.invokevirtual 71, 3) := by decide +kernel
theorem dX0_findLosersTo_79 : decode cX0_findLosersTo 79 = .ok (.invokevirtual 107, 3) := by decide +kernel
theorem dX0_findLosersTo_82 : decode cX0_findLosersTo 82 = .ok (.iload_n 2, 1) := by decide +kernel
theorem dX0_findLosersTo_83 : decode cX0_findLosersTo 83 = .ok (.iload 5, 2) := by decide +kernel
theorem dX0_findLosersTo_85 : decode cX0_findLosersTo 85 = .ok (.invokestatic 97, 3) := by decide +kernel
theorem dX0_findLosersTo_88 : decode cX0_findLosersTo 88 = .ok (.iload 7, 2) := by decide +kernel
theorem dX0_findLosersTo_90 : decode cX0_findLosersTo 90 = .ok (.ifCond .eq 7, 3) := by decide +kernel
theorem dX0_findLosersTo_93 : decode cX0_findLosersTo 93 = .ok (.iconst 0, 1) := by decide +kernel
theorem dX0_findLosersTo_94 : decode cX0_findLosersTo 94 = .ok (.goto 4, 3) := by decide +kernel
theorem dX0_findLosersTo_97 : decode cX0_findLosersTo 97 = .ok (.iconst 1, 1) := by decide +kernel
theorem dX0_findLosersTo_98 : decode cX0_findLosersTo 98 = .ok (.iadd, 1) := by decide +kernel
theorem dX0_findLosersTo_99 : decode cX0_findLosersTo 99 = .ok (.istore 5, 2) := by decide +kernel
theorem dX0_findLosersTo_101 : decode cX0_findLosersTo 101 = .ok (.iinc 6 (-1), 3) := by decide +kernel
theorem dX0_findLosersTo_104 : decode cX0_findLosersTo 104 = .ok (.goto (-83), 3) := by decide +kernel
theorem dX0_findLosersTo_107 : decode cX0_findLosersTo 107 = .ok (.return_, 1) := by decide +kernel
theorem kSX0_findLosersTo : yX0_findLosersTo.cls ≠ "java/lang/invoke/MethodHandle" ∧ yX0_findLosersTo.cls ≠ "java/lang/invoke/VarHandle" ∧ (parseMethodDescriptor yX0_findLosersTo.desc).map (fun d => d.parameters.length) = some 4 := by decide +kernel
theorem kVX0_findLosersTo : yX0_findLosersTo.cls = RX0 ∧ yX0_findLosersTo.cls ≠ "java/lang/invoke/MethodHandle" ∧ yX0_findLosersTo.cls ≠ "java/lang/invoke/VarHandle" ∧ (parseMethodDescriptor yX0_findLosersTo.desc).map (fun d => d.parameters.length) = some 4 := ⟨rfl, kSX0_findLosersTo⟩
theorem dX0_settleWalk_0 : decode cX0_settleWalk 0 = .ok (.aload_n 0, 1) := by decide +kernel
theorem dX0_settleWalk_1 : decode cX0_settleWalk 1 = .ok (.getfield 20, 3) := by decide +kernel
theorem dX0_settleWalk_4 : decode cX0_settleWalk 4 = .ok (.iload_n 1, 1) := by decide +kernel
theorem dX0_settleWalk_5 : decode cX0_settleWalk 5 = .ok (.iload_n 2, 1) := by decide +kernel
theorem dX0_settleWalk_6 : decode cX0_settleWalk 6 = .ok (.invokestatic 62, 3) := by decide +kernel
theorem dX0_settleWalk_9 : decode cX0_settleWalk 9 = .ok (.iload_n 3, 1) := by decide +kernel
theorem dX0_settleWalk_10 : decode cX0_settleWalk 10 = .ok (.invokevirtual 107, 3) := by decide +kernel
theorem dX0_settleWalk_13 : decode cX0_settleWalk 13 = .ok (.aload_n 0, 1) := by decide +kernel
theorem dX0_settleWalk_14 : decode cX0_settleWalk 14 = .ok (.getfield 24, 3) := by decide +kernel
theorem dX0_settleWalk_17 : decode cX0_settleWalk 17 = .ok (.iload_n 1, 1) := by decide +kernel
theorem dX0_settleWalk_18 : decode cX0_settleWalk 18 = .ok (.iload_n 2, 1) := by decide +kernel
theorem dX0_settleWalk_19 : decode cX0_settleWalk 19 = .ok (.invokestatic 62, 3) := by decide +kernel
theorem dX0_settleWalk_22 : decode cX0_settleWalk 22 = .ok (.iload 4, 2) := by decide +kernel
theorem dX0_settleWalk_24 : decode cX0_settleWalk 24 = .ok (.invokevirtual 107, 3) := by decide +kernel
theorem dX0_settleWalk_27 : decode cX0_settleWalk 27 = .ok (.aload_n 0, 1) := by decide +kernel
theorem dX0_settleWalk_28 : decode cX0_settleWalk 28 = .ok (.getfield 27, 3) := by decide +kernel
theorem dX0_settleWalk_31 : decode cX0_settleWalk 31 = .ok (.iload_n 1, 1) := by decide +kernel
theorem dX0_settleWalk_32 : decode cX0_settleWalk 32 = .ok (.iload_n 2, 1) := by decide +kernel
theorem dX0_settleWalk_33 : decode cX0_settleWalk 33 = .ok (.invokestatic 62, 3) := by decide +kernel
theorem dX0_settleWalk_36 : decode cX0_settleWalk 36 = .ok (.iload_n 3, 1) := by decide +kernel
theorem dX0_settleWalk_37 : decode cX0_settleWalk 37 = .ok (.iconst (-1), 1) := by decide +kernel
theorem dX0_settleWalk_38 : decode cX0_settleWalk 38 = .ok (.if_icmp .ne 8, 3) := by decide +kernel
theorem dX0_settleWalk_41 : decode cX0_settleWalk 41 = .ok (.iload 4, 2) := by decide +kernel
theorem dX0_settleWalk_43 : decode cX0_settleWalk 43 = .ok (.goto 4, 3) := by decide +kernel
theorem dX0_settleWalk_46 : decode cX0_settleWalk 46 = .ok (.iload_n 3, 1) := by decide +kernel
theorem dX0_settleWalk_47 : decode cX0_settleWalk 47 = .ok (.invokevirtual 107, 3) := by decide +kernel
theorem dX0_settleWalk_50 : decode cX0_settleWalk 50 = .ok (.aload_n 0, 1) := by decide +kernel
theorem dX0_settleWalk_51 : decode cX0_settleWalk 51 = .ok (.getfield 30, 3) := by decide +kernel
theorem dX0_settleWalk_54 : decode cX0_settleWalk 54 = .ok (.iload_n 1, 1) := by decide +kernel
theorem dX0_settleWalk_55 : decode cX0_settleWalk 55 = .ok (.iload_n 2, 1) := by decide +kernel
theorem dX0_settleWalk_56 : decode cX0_settleWalk 56 = .ok (.invokestatic 62, 3) := by decide +kernel
theorem dX0_settleWalk_59 : decode cX0_settleWalk 59 = .ok (.iconst 4, 1) := by decide +kernel
theorem dX0_settleWalk_60 : decode cX0_settleWalk 60 = .ok (.invokevirtual 107, 3) := by decide +kernel
theorem dX0_settleWalk_63 : decode cX0_settleWalk 63 = .ok (.return_, 1) := by decide +kernel
theorem kSX0_settleWalk : yX0_settleWalk.cls ≠ "java/lang/invoke/MethodHandle" ∧ yX0_settleWalk.cls ≠ "java/lang/invoke/VarHandle" ∧ (parseMethodDescriptor yX0_settleWalk.desc).map (fun d => d.parameters.length) = some 4 := by decide +kernel
theorem kVX0_settleWalk : yX0_settleWalk.cls = RX0 ∧ yX0_settleWalk.cls ≠ "java/lang/invoke/MethodHandle" ∧ yX0_settleWalk.cls ≠ "java/lang/invoke/VarHandle" ∧ (parseMethodDescriptor yX0_settleWalk.desc).map (fun d => d.parameters.length) = some 4 := ⟨rfl, kSX0_settleWalk⟩
theorem dX0_settleFight_0 : decode cX0_settleFight 0 = .ok (.aload_n 0, 1) := by decide +kernel
theorem dX0_settleFight_1 : decode cX0_settleFight 1 = .ok (.getfield 11, 3) := by decide +kernel
theorem dX0_settleFight_4 : decode cX0_settleFight 4 = .ok (.iload_n 1, 1) := by decide +kernel
theorem dX0_settleFight_5 : decode cX0_settleFight 5 = .ok (.iload_n 2, 1) := by decide +kernel
theorem dX0_settleFight_6 : decode cX0_settleFight 6 = .ok (.iconst 0, 1) := by decide +kernel
theorem dX0_settleFight_7 : decode cX0_settleFight 7 = .ok (.invokestatic 110, 3) := by decide +kernel
theorem dX0_settleFight_10 : decode cX0_settleFight 10 = .ok (.invokevirtual 42, 3) := by decide +kernel
theorem dX0_settleFight_13 : decode cX0_settleFight 13 = .ok (.istore 5, 2) := by decide +kernel
theorem dX0_settleFight_15 : decode cX0_settleFight 15 = .ok (.iload_n 3, 1) := by decide +kernel
theorem dX0_settleFight_16 : decode cX0_settleFight 16 = .ok (.iconst (-1), 1) := by decide +kernel
theorem dX0_settleFight_17 : decode cX0_settleFight 17 = .ok (.if_icmp .eq 9, 3) := by decide +kernel
theorem dX0_settleFight_20 : decode cX0_settleFight 20 = .ok (.iload 4, 2) := by decide +kernel
theorem dX0_settleFight_22 : decode cX0_settleFight 22 = .ok (.iconst (-1), 1) := by decide +kernel
theorem dX0_settleFight_23 : decode cX0_settleFight 23 = .ok (.if_icmp .ne 7, 3) := by decide +kernel
theorem dX0_settleFight_26 : decode cX0_settleFight 26 = .ok (.iconst 0, 1) := by decide +kernel
theorem dX0_settleFight_27 : decode cX0_settleFight 27 = .ok (.goto 4, 3) := by decide +kernel
theorem dX0_settleFight_30 : decode cX0_settleFight 30 = .ok (.iconst 1, 1) := by decide +kernel
theorem dX0_settleFight_31 : decode cX0_settleFight 31 = .ok (.istore 6, 2) := by decide +kernel
theorem dX0_settleFight_33 : decode cX0_settleFight 33 = .ok (.aload_n 0, 1) := by decide +kernel
theorem dX0_settleFight_34 : decode cX0_settleFight 34 = .ok (.getfield 20, 3) := by decide +kernel
theorem dX0_settleFight_37 : decode cX0_settleFight 37 = .ok (.iload_n 1, 1) := by decide +kernel
theorem dX0_settleFight_38 : decode cX0_settleFight 38 = .ok (.iload_n 2, 1) := by decide +kernel
theorem dX0_settleFight_39 : decode cX0_settleFight 39 = .ok (.invokestatic 62, 3) := by decide +kernel
theorem dX0_settleFight_42 : decode cX0_settleFight 42 = .ok (.iload_n 3, 1) := by decide +kernel
theorem dX0_settleFight_43 : decode cX0_settleFight 43 = .ok (.invokevirtual 107, 3) := by decide +kernel
theorem dX0_settleFight_46 : decode cX0_settleFight 46 = .ok (.aload_n 0, 1) := by decide +kernel
theorem dX0_settleFight_47 : decode cX0_settleFight 47 = .ok (.getfield 24, 3) := by decide +kernel
theorem dX0_settleFight_50 : decode cX0_settleFight 50 = .ok (.iload_n 1, 1) := by decide +kernel
theorem dX0_settleFight_51 : decode cX0_settleFight 51 = .ok (.iload_n 2, 1) := by decide +kernel
theorem dX0_settleFight_52 : decode cX0_settleFight 52 = .ok (.invokestatic 62, 3) := by decide +kernel
theorem dX0_settleFight_55 : decode cX0_settleFight 55 = .ok (.iload 4, 2) := by decide +kernel
theorem dX0_settleFight_57 : decode cX0_settleFight 57 = .ok (.invokevirtual 107, 3) := by decide +kernel
theorem dX0_settleFight_60 : decode cX0_settleFight 60 = .ok (.aload_n 0, 1) := by decide +kernel
theorem dX0_settleFight_61 : decode cX0_settleFight 61 = .ok (.getfield 27, 3) := by decide +kernel
theorem dX0_settleFight_64 : decode cX0_settleFight 64 = .ok (.iload_n 1, 1) := by decide +kernel
theorem dX0_settleFight_65 : decode cX0_settleFight 65 = .ok (.iload_n 2, 1) := by decide +kernel
theorem dX0_settleFight_66 : decode cX0_settleFight 66 = .ok (.invokestatic 62, 3) := by decide +kernel
theorem dX0_settleFight_69 : decode cX0_settleFight 69 = .ok (.iload 5, 2) := by decide +kernel
theorem dX0_settleFight_71 : decode cX0_settleFight 71 = .ok (.iconst 3, 1) := by decide +kernel
theorem dX0_settleFight_72 : decode cX0_settleFight 72 = .ok (.if_icmp .ne 19, 3) := by decide +kernel
theorem dX0_settleFight_75 : decode cX0_settleFight 75 = .ok (.aload_n 0, 1) := by decide +kernel
theorem dX0_settleFight_76 : decode cX0_settleFight 76 = .ok (.getfield 11, 3) := by decide +kernel
theorem dX0_settleFight_79 : decode cX0_settleFight 79 = .ok (.iload_n 1, 1) := by decide +kernel
theorem dX0_settleFight_80 : decode cX0_settleFight 80 = .ok (.iload_n 2, 1) := by decide +kernel
theorem dX0_settleFight_81 : decode cX0_settleFight 81 = .ok (.iconst 3, 1) := by decide +kernel
theorem dX0_settleFight_82 : decode cX0_settleFight 82 = .ok (.invokestatic 110, 3) := by decide +kernel
theorem dX0_settleFight_85 : decode cX0_settleFight 85 = .ok (.invokevirtual 42, 3) := by decide +kernel
theorem dX0_settleFight_88 : decode cX0_settleFight 88 = .ok (.goto 4, 3) := by decide +kernel
theorem dX0_settleFight_91 : decode cX0_settleFight 91 = .ok (.iconst (-1), 1) := by decide +kernel
theorem dX0_settleFight_92 : decode cX0_settleFight 92 = .ok (.invokevirtual 107, 3) := by decide +kernel
theorem dX0_settleFight_95 : decode cX0_settleFight 95 = .ok (.aload_n 0, 1) := by decide +kernel
theorem dX0_settleFight_96 : decode cX0_settleFight 96 = .ok (.getfield 30, 3) := by decide +kernel
theorem dX0_settleFight_99 : decode cX0_settleFight 99 = .ok (.iload_n 1, 1) := by decide +kernel
theorem dX0_settleFight_100 : decode cX0_settleFight 100 = .ok (.iload_n 2, 1) := by decide +kernel
theorem dX0_settleFight_101 : decode cX0_settleFight 101 = .ok (.invokestatic 62, 3) := by decide +kernel
theorem dX0_settleFight_104 : decode cX0_settleFight 104 = .ok (.iload 5, 2) := by decide +kernel
theorem dX0_settleFight_106 : decode cX0_settleFight 106 = .ok (.ifCond .ne 8, 3) := by decide +kernel
theorem dX0_settleFight_109 : decode cX0_settleFight 109 = .ok (.iload 6, 2) := by decide +kernel
theorem dX0_settleFight_111 : decode cX0_settleFight 111 = .ok (.goto 5, 3) := by decide +kernel
theorem dX0_settleFight_114 : decode cX0_settleFight 114 = .ok (.iload 5, 2) := by decide +kernel
theorem dX0_settleFight_116 : decode cX0_settleFight 116 = .ok (.invokevirtual 107, 3) := by decide +kernel
theorem dX0_settleFight_119 : decode cX0_settleFight 119 = .ok (.return_, 1) := by decide +kernel
theorem kSX0_settleFight : yX0_settleFight.cls ≠ "java/lang/invoke/MethodHandle" ∧ yX0_settleFight.cls ≠ "java/lang/invoke/VarHandle" ∧ (parseMethodDescriptor yX0_settleFight.desc).map (fun d => d.parameters.length) = some 4 := by decide +kernel
theorem kVX0_settleFight : yX0_settleFight.cls = RX0 ∧ yX0_settleFight.cls ≠ "java/lang/invoke/MethodHandle" ∧ yX0_settleFight.cls ≠ "java/lang/invoke/VarHandle" ∧ (parseMethodDescriptor yX0_settleFight.desc).map (fun d => d.parameters.length) = some 4 := ⟨rfl, kSX0_settleFight⟩
theorem dX1_takeBack_0 : decode cX1_takeBack 0 = .ok (.aload_n 0, 1) := by decide +kernel
theorem dX1_takeBack_1 : decode cX1_takeBack 1 = .ok (.dup, 1) := by decide +kernel
theorem dX1_takeBack_2 : decode cX1_takeBack 2 = .ok (.getfield 61, 3) := by decide +kernel
theorem dX1_takeBack_5 : decode cX1_takeBack 5 = .ok (.iconst 1, 1) := by decide +kernel
theorem dX1_takeBack_6 : decode cX1_takeBack 6 = .ok (.isub, 1) := by decide +kernel
theorem dX1_takeBack_7 : decode cX1_takeBack 7 = .ok (.putfield 61, 3) := by decide +kernel
theorem dX1_takeBack_10 : decode cX1_takeBack 10 = .ok (.aload_n 0, 1) := by decide +kernel
theorem dX1_takeBack_11 : decode cX1_takeBack 11 = .ok (.getfield 29, 3) := by decide +kernel
theorem dX1_takeBack_14 : decode cX1_takeBack 14 = .ok (.aload_n 0, 1) := by decide +kernel
theorem dX1_takeBack_15 : decode cX1_takeBack 15 = .ok (.getfield 61, 3) := by decide +kernel
theorem dX1_takeBack_18 : decode cX1_takeBack 18 = .ok (.invokevirtual 64, 3) := by decide +kernel
theorem dX1_takeBack_21 : decode cX1_takeBack 21 = .ok (.iconst 0, 1) := by decide +kernel
theorem dX1_takeBack_22 : decode cX1_takeBack 22 = .ok (.invokestatic 67, 3) := by decide +kernel
theorem dX1_takeBack_25 : decode cX1_takeBack 25 = .ok (.istore_n 1, 1) := by decide +kernel
theorem dX1_takeBack_26 : decode cX1_takeBack 26 = .ok (.aload_n 0, 1) := by decide +kernel
theorem dX1_takeBack_27 : decode cX1_takeBack 27 = .ok (.getfield 50, 3) := by decide +kernel
theorem dX1_takeBack_30 : decode cX1_takeBack 30 = .ok (.iconst 1, 1) := by decide +kernel
theorem dX1_takeBack_31 : decode cX1_takeBack 31 = .ok (.isub, 1) := by decide +kernel
theorem dX1_takeBack_32 : decode cX1_takeBack 32 = .ok (.istore_n 2, 1) := by decide +kernel
theorem dX1_takeBack_33 : decode cX1_takeBack 33 = .ok (.iload_n 2, 1) := by decide +kernel
theorem dX1_takeBack_34 : decode cX1_takeBack 34 = .ok (.iload_n 1, 1) := by decide +kernel
theorem dX1_takeBack_35 : decode cX1_takeBack 35 = .ok (.if_icmp .lt 29, 3) := by decide +kernel
theorem dX1_takeBack_38 : decode cX1_takeBack 38 = .ok (.aload_n 0, 1) := by decide +kernel
theorem dX1_takeBack_39 : decode cX1_takeBack 39 = .ok (.aload_n 0, 1) := by decide +kernel
theorem dX1_takeBack_40 : decode cX1_takeBack 40 = .ok (.getfield 22, 3) := by decide +kernel
theorem dX1_takeBack_43 : decode cX1_takeBack 43 = .ok (.iload_n 2, 1) := by decide +kernel
theorem dX1_takeBack_44 : decode cX1_takeBack 44 = .ok (.invokevirtual 64, 3) := by decide +kernel
theorem dX1_takeBack_47 : decode cX1_takeBack 47 = .ok (.aload_n 0, 1) := by decide +kernel
theorem dX1_takeBack_48 : decode cX1_takeBack 48 = .ok (.getfield 26, 3) := by decide +kernel
theorem dX1_takeBack_51 : decode cX1_takeBack 51 = .ok (.iload_n 2, 1) := by decide +kernel
theorem dX1_takeBack_52 : decode cX1_takeBack 52 = .ok (.invokevirtual 64, 3) := by decide +kernel
theorem dX1_takeBack_55 : decode cX1_takeBack 55 = .ok (.invokevirtual 32, 3) := by decide +kernel
theorem dX1_takeBack_58 : decode cX1_takeBack 58 = .ok (.iinc 2 (-1), 3) := by decide +kernel
theorem dX1_takeBack_61 : decode cX1_takeBack 61 = .ok (.goto (-28), 3) := by decide +kernel
theorem dX1_takeBack_64 : decode cX1_takeBack 64 = .ok (.aload_n 0, 1) := by decide +kernel
theorem dX1_takeBack_65 : decode cX1_takeBack 65 = .ok (.iload_n 1, 1) := by decide +kernel
theorem dX1_takeBack_66 : decode cX1_takeBack 66 = .ok (.putfield 50, 3) := by decide +kernel
theorem dX1_takeBack_69 : decode cX1_takeBack 69 = .ok (.return_, 1) := by decide +kernel
theorem kSX1_takeBack : yX1_takeBack.cls ≠ "java/lang/invoke/MethodHandle" ∧ yX1_takeBack.cls ≠ "java/lang/invoke/VarHandle" ∧ (parseMethodDescriptor yX1_takeBack.desc).map (fun d => d.parameters.length) = some 0 := by decide +kernel
theorem kVX1_takeBack : yX1_takeBack.cls = RX1 ∧ yX1_takeBack.cls ≠ "java/lang/invoke/MethodHandle" ∧ yX1_takeBack.cls ≠ "java/lang/invoke/VarHandle" ∧ (parseMethodDescriptor yX1_takeBack.desc).map (fun d => d.parameters.length) = some 0 := ⟨rfl, kSX1_takeBack⟩
theorem dX2_placeAll_0 : decode cX2_placeAll 0 = .ok (.iload_n 2, 1) := by decide +kernel
theorem dX2_placeAll_1 : decode cX2_placeAll 1 = .ok (.iconst 5, 1) := by decide +kernel
theorem dX2_placeAll_2 : decode cX2_placeAll 2 = .ok (.if_icmp .gt 7, 3) := by decide +kernel
theorem dX2_placeAll_5 : decode cX2_placeAll 5 = .ok (.iconst 1, 1) := by decide +kernel
theorem dX2_placeAll_6 : decode cX2_placeAll 6 = .ok (.goto 4, 3) := by decide +kernel
theorem dX2_placeAll_9 : decode cX2_placeAll 9 = .ok (.iconst 0, 1) := by decide +kernel
theorem dX2_placeAll_10 : decode cX2_placeAll 10 = .ok (.istore_n 3, 1) := by decide +kernel
theorem dX2_placeAll_11 : decode cX2_placeAll 11 = .ok (.iload_n 3, 1) := by decide +kernel
theorem dX2_placeAll_12 : decode cX2_placeAll 12 = .ok (.ifCond .eq 7, 3) := by decide +kernel
theorem dX2_placeAll_15 : decode cX2_placeAll 15 = .ok (.iload_n 2, 1) := by decide +kernel
theorem dX2_placeAll_16 : decode cX2_placeAll 16 = .ok (.goto 7, 3) := by decide +kernel
theorem dX2_placeAll_19 : decode cX2_placeAll 19 = .ok (.iload_n 2, 1) := by decide +kernel
theorem dX2_placeAll_20 : decode cX2_placeAll 20 = .ok (.invokestatic 27, 3) := by decide +kernel
theorem dX2_placeAll_23 : decode cX2_placeAll 23 = .ok (.istore 4, 2) := by decide +kernel
theorem dX2_placeAll_25 : decode cX2_placeAll 25 = .ok (.aload_n 0, 1) := by decide +kernel
theorem dX2_placeAll_26 : decode cX2_placeAll 26 = .ok (.getfield 9, 3) := by decide +kernel
theorem dX2_placeAll_29 : decode cX2_placeAll 29 = .ok (.iload_n 1, 1) := by decide +kernel
theorem dX2_placeAll_30 : decode cX2_placeAll 30 = .ok (.iconst 2, 1) := by decide +kernel
theorem dX2_placeAll_31 : decode cX2_placeAll 31 = .ok (.invokestatic 33, 3) := by decide +kernel
theorem dX2_placeAll_34 : decode cX2_placeAll 34 = .ok (.iload_n 3, 1) := by decide +kernel
theorem dX2_placeAll_35 : decode cX2_placeAll 35 = .ok (.ifCond .eq 7, 3) := by decide +kernel
theorem dX2_placeAll_38 : decode cX2_placeAll 38 = .ok (.iconst 1, 1) := by decide +kernel
theorem dX2_placeAll_39 : decode cX2_placeAll 39 = .ok (.goto 4, 3) := by decide +kernel
theorem dX2_placeAll_42 : decode cX2_placeAll 42 = .ok (.iconst 2, 1) := by decide +kernel
theorem dX2_placeAll_43 : decode cX2_placeAll 43 = .ok (.invokevirtual 39, 3) := by decide +kernel
theorem dX2_placeAll_46 : decode cX2_placeAll 46 = .ok (.aload_n 0, 1) := by decide +kernel
theorem dX2_placeAll_47 : decode cX2_placeAll 47 = .ok (.getfield 9, 3) := by decide +kernel
theorem dX2_placeAll_50 : decode cX2_placeAll 50 = .ok (.iload_n 1, 1) := by decide +kernel
theorem dX2_placeAll_51 : decode cX2_placeAll 51 = .ok (.iconst 3, 1) := by decide +kernel
theorem dX2_placeAll_52 : decode cX2_placeAll 52 = .ok (.invokestatic 33, 3) := by decide +kernel
theorem dX2_placeAll_55 : decode cX2_placeAll 55 = .ok (.iload 4, 2) := by decide +kernel
theorem dX2_placeAll_57 : decode cX2_placeAll 57 = .ok (.invokevirtual 39, 3) := by decide +kernel
theorem dX2_placeAll_60 : decode cX2_placeAll 60 = .ok (.iconst 0, 1) := by decide +kernel
theorem dX2_placeAll_61 : decode cX2_placeAll 61 = .ok (.istore 5, 2) := by decide +kernel
theorem dX2_placeAll_63 : decode cX2_placeAll 63 = .ok (.iload 5, 2) := by decide +kernel
theorem dX2_placeAll_65 : decode cX2_placeAll 65 = .ok (.iload 4, 2) := by decide +kernel
theorem dX2_placeAll_67 : decode cX2_placeAll 67 = .ok (.if_icmp .ge 25, 3) := by decide +kernel
theorem dX2_placeAll_70 : decode cX2_placeAll 70 = .ok (.aload_n 0, 1) := by decide +kernel
theorem dX2_placeAll_71 : decode cX2_placeAll 71 = .ok (.getfield 9, 3) := by decide +kernel
theorem dX2_placeAll_74 : decode cX2_placeAll 74 = .ok (.iload_n 1, 1) := by decide +kernel
theorem dX2_placeAll_75 : decode cX2_placeAll 75 = .ok (.iconst 4, 1) := by decide +kernel
theorem dX2_placeAll_76 : decode cX2_placeAll 76 = .ok (.iload 5, 2) := by decide +kernel
theorem dX2_placeAll_78 : decode cX2_placeAll 78 = .ok (.iadd, 1) := by decide +kernel
theorem dX2_placeAll_79 : decode cX2_placeAll 79 = .ok (.invokestatic 33, 3) := by decide +kernel
theorem dX2_placeAll_82 : decode cX2_placeAll 82 = .ok (.iconst (-1), 1) := by decide +kernel
theorem dX2_placeAll_83 : decode cX2_placeAll 83 = .ok (.invokevirtual 39, 3) := by decide +kernel
theorem dX2_placeAll_86 : decode cX2_placeAll 86 = .ok (.iinc 5 1, 3) := by decide +kernel
theorem dX2_placeAll_89 : decode cX2_placeAll 89 = .ok (.goto (-26), 3) := by decide +kernel
theorem dX2_placeAll_92 : decode cX2_placeAll 92 = .ok (.iload_n 3, 1) := by decide +kernel
theorem dX2_placeAll_93 : decode cX2_placeAll 93 = .ok (.ifCond .eq 11, 3) := by decide +kernel
theorem dX2_placeAll_96 : decode cX2_placeAll 96 = .ok (.aload_n 0, 1) := by decide +kernel
theorem dX2_placeAll_97 : decode cX2_placeAll 97 = .ok (.iload_n 1, 1) := by decide +kernel
theorem dX2_placeAll_98 : decode cX2_placeAll 98 = .ok (.invokevirtual 42, 3) := by decide +kernel
theorem dX2_placeAll_101 : decode cX2_placeAll 101 = .ok (.goto 20, 3) := by decide +kernel
theorem dX2_placeAll_104 : decode cX2_placeAll 104 = .ok (.aload_n 0, 1) := by decide +kernel
theorem dX2_placeAll_105 : decode cX2_placeAll 105 = .ok (.iload 4, 2) := by decide +kernel
theorem dX2_placeAll_107 : decode cX2_placeAll 107 = .ok (.invokevirtual 46, 3) := by decide +kernel
theorem dX2_placeAll_110 : decode cX2_placeAll 110 = .ok (.aload_n 0, 1) := by decide +kernel
theorem dX2_placeAll_111 : decode cX2_placeAll 111 = .ok (.iload_n 1, 1) := by decide +kernel
theorem dX2_placeAll_112 : decode cX2_placeAll 112 = .ok (.invokevirtual 49, 3) := by decide +kernel
theorem dX2_placeAll_115 : decode cX2_placeAll 115 = .ok (.aload_n 0, 1) := by decide +kernel
theorem dX2_placeAll_116 : decode cX2_placeAll 116 = .ok (.iload_n 1, 1) := by decide +kernel
theorem dX2_placeAll_117 : decode cX2_placeAll 117 = .ok (.iload_n 2, 1) := by decide +kernel
theorem dX2_placeAll_118 : decode cX2_placeAll 118 = .ok (.invokevirtual 52, 3) := by decide +kernel
theorem dX2_placeAll_121 : decode cX2_placeAll 121 = .ok (.return_, 1) := by decide +kernel
theorem kSX2_placeAll : yX2_placeAll.cls ≠ "java/lang/invoke/MethodHandle" ∧ yX2_placeAll.cls ≠ "java/lang/invoke/VarHandle" ∧ (parseMethodDescriptor yX2_placeAll.desc).map (fun d => d.parameters.length) = some 2 := by decide +kernel
theorem kVX2_placeAll : yX2_placeAll.cls = RX2 ∧ yX2_placeAll.cls ≠ "java/lang/invoke/MethodHandle" ∧ yX2_placeAll.cls ≠ "java/lang/invoke/VarHandle" ∧ (parseMethodDescriptor yX2_placeAll.desc).map (fun d => d.parameters.length) = some 2 := ⟨rfl, kSX2_placeAll⟩
theorem dX2_placesFor_0 : decode cX2_placesFor 0 = .ok (.iload_n 0, 1) := by decide +kernel
theorem dX2_placesFor_1 : decode cX2_placesFor 1 = .ok (.bipush 8, 2) := by decide +kernel
theorem dX2_placesFor_3 : decode cX2_placesFor 3 = .ok (.if_icmp .gt 6, 3) := by decide +kernel
theorem dX2_placesFor_6 : decode cX2_placesFor 6 = .ok (.bipush 8, 2) := by decide +kernel
theorem dX2_placesFor_8 : decode cX2_placesFor 8 = .ok (.ireturn, 1) := by decide +kernel
theorem dX2_placesFor_9 : decode cX2_placesFor 9 = .ok (.iload_n 0, 1) := by decide +kernel
theorem dX2_placesFor_10 : decode cX2_placesFor 10 = .ok (.bipush 16, 2) := by decide +kernel
theorem dX2_placesFor_12 : decode cX2_placesFor 12 = .ok (.if_icmp .gt 8, 3) := by decide +kernel
theorem dX2_placesFor_15 : decode cX2_placesFor 15 = .ok (.bipush 16, 2) := by decide +kernel
theorem dX2_placesFor_17 : decode cX2_placesFor 17 = .ok (.goto 5, 3) := by decide +kernel
theorem dX2_placesFor_20 : decode cX2_placesFor 20 = .ok (.bipush 32, 2) := by decide +kernel
theorem dX2_placesFor_22 : decode cX2_placesFor 22 = .ok (.ireturn, 1) := by decide +kernel
theorem kSX2_placesFor : yX2_placesFor.cls ≠ "java/lang/invoke/MethodHandle" ∧ yX2_placesFor.cls ≠ "java/lang/invoke/VarHandle" ∧ (parseMethodDescriptor yX2_placesFor.desc).map (fun d => d.parameters.length) = some 1 := by decide +kernel
theorem dX2_placePool_0 : decode cX2_placePool 0 = .ok (.iconst 0, 1) := by decide +kernel
theorem dX2_placePool_1 : decode cX2_placePool 1 = .ok (.istore_n 2, 1) := by decide +kernel
theorem dX2_placePool_2 : decode cX2_placePool 2 = .ok (.iconst 0, 1) := by decide +kernel
theorem dX2_placePool_3 : decode cX2_placePool 3 = .ok (.istore_n 3, 1) := by decide +kernel
theorem dX2_placePool_4 : decode cX2_placePool 4 = .ok (.iload_n 3, 1) := by decide +kernel
theorem dX2_placePool_5 : decode cX2_placePool 5 = .ok (.aload_n 0, 1) := by decide +kernel
theorem dX2_placePool_6 : decode cX2_placePool 6 = .ok (.getfield 9, 3) := by decide +kernel
theorem dX2_placePool_9 : decode cX2_placePool 9 = .ok (.iconst 2, 1) := by decide +kernel
theorem dX2_placePool_10 : decode cX2_placePool 10 = .ok (.invokevirtual 55, 3) := by decide +kernel
theorem dX2_placePool_13 : decode cX2_placePool 13 = .ok (.if_icmp .ge 31, 3) := by decide +kernel
theorem dX2_placePool_16 : decode cX2_placePool 16 = .ok (.aload_n 0, 1) := by decide +kernel
theorem dX2_placePool_17 : decode cX2_placePool 17 = .ok (.getfield 9, 3) := by decide +kernel
theorem dX2_placePool_20 : decode cX2_placePool 20 = .ok (.iload_n 3, 1) := by decide +kernel
theorem dX2_placePool_21 : decode cX2_placePool 21 = .ok (.iload_n 1, 1) := by decide +kernel
theorem dX2_placePool_22 : decode cX2_placePool 22 = .ok (.invokestatic 58, 3) := by decide +kernel
theorem dX2_placePool_25 : decode cX2_placePool 25 = .ok (.ifCond .eq 13, 3) := by decide +kernel
theorem dX2_placePool_28 : decode cX2_placePool 28 = .ok (.aload_n 0, 1) := by decide +kernel
theorem dX2_placePool_29 : decode cX2_placePool 29 = .ok (.iload_n 1, 1) := by decide +kernel
theorem dX2_placePool_30 : decode cX2_placePool 30 = .ok (.iload_n 3, 1) := by decide +kernel
theorem dX2_placePool_31 : decode cX2_placePool 31 = .ok (.iload_n 2, 1) := by decide +kernel
theorem dX2_placePool_32 : decode cX2_placePool 32 = .ok (.invokevirtual 64, 3) := by decide +kernel
theorem dX2_placePool_35 : decode cX2_placePool 35 = .ok (.iinc 2 1, 3) := by decide +kernel
theorem dX2_placePool_38 : decode cX2_placePool 38 = .ok (.iinc 3 1, 3) := by decide +kernel
theorem dX2_placePool_41 : decode cX2_placePool 41 = .ok (.goto (-37), 3) := by decide +kernel
theorem dX2_placePool_44 : decode cX2_placePool 44 = .ok (.return_, 1) := by decide +kernel
theorem kSX2_placePool : yX2_placePool.cls ≠ "java/lang/invoke/MethodHandle" ∧ yX2_placePool.cls ≠ "java/lang/invoke/VarHandle" ∧ (parseMethodDescriptor yX2_placePool.desc).map (fun d => d.parameters.length) = some 1 := by decide +kernel
theorem kVX2_placePool : yX2_placePool.cls = RX2 ∧ yX2_placePool.cls ≠ "java/lang/invoke/MethodHandle" ∧ yX2_placePool.cls ≠ "java/lang/invoke/VarHandle" ∧ (parseMethodDescriptor yX2_placePool.desc).map (fun d => d.parameters.length) = some 1 := ⟨rfl, kSX2_placePool⟩
theorem dX2_placeOne_0 : decode cX2_placeOne 0 = .ok (.aload_n 0, 1) := by decide +kernel
theorem dX2_placeOne_1 : decode cX2_placeOne 1 = .ok (.getfield 9, 3) := by decide +kernel
theorem dX2_placeOne_4 : decode cX2_placeOne 4 = .ok (.iload_n 1, 1) := by decide +kernel
theorem dX2_placeOne_5 : decode cX2_placeOne 5 = .ok (.iconst 4, 1) := by decide +kernel
theorem dX2_placeOne_6 : decode cX2_placeOne 6 = .ok (.iload_n 3, 1) := by decide +kernel
theorem dX2_placeOne_7 : decode cX2_placeOne 7 = .ok (.iadd, 1) := by decide +kernel
theorem dX2_placeOne_8 : decode cX2_placeOne 8 = .ok (.invokestatic 33, 3) := by decide +kernel
theorem dX2_placeOne_11 : decode cX2_placeOne 11 = .ok (.iload_n 2, 1) := by decide +kernel
theorem dX2_placeOne_12 : decode cX2_placeOne 12 = .ok (.invokevirtual 39, 3) := by decide +kernel
theorem dX2_placeOne_15 : decode cX2_placeOne 15 = .ok (.aload_n 0, 1) := by decide +kernel
theorem dX2_placeOne_16 : decode cX2_placeOne 16 = .ok (.getfield 9, 3) := by decide +kernel
theorem dX2_placeOne_19 : decode cX2_placeOne 19 = .ok (.iload_n 2, 1) := by decide +kernel
theorem dX2_placeOne_20 : decode cX2_placeOne 20 = .ok (.iconst 5, 1) := by decide +kernel
theorem dX2_placeOne_21 : decode cX2_placeOne 21 = .ok (.invokestatic 68, 3) := by decide +kernel
theorem dX2_placeOne_24 : decode cX2_placeOne 24 = .ok (.iload_n 3, 1) := by decide +kernel
theorem dX2_placeOne_25 : decode cX2_placeOne 25 = .ok (.invokevirtual 39, 3) := by decide +kernel
theorem dX2_placeOne_28 : decode cX2_placeOne 28 = .ok (.return_, 1) := by decide +kernel
theorem kSX2_placeOne : yX2_placeOne.cls ≠ "java/lang/invoke/MethodHandle" ∧ yX2_placeOne.cls ≠ "java/lang/invoke/VarHandle" ∧ (parseMethodDescriptor yX2_placeOne.desc).map (fun d => d.parameters.length) = some 3 := by decide +kernel
theorem kVX2_placeOne : yX2_placeOne.cls = RX2 ∧ yX2_placeOne.cls ≠ "java/lang/invoke/MethodHandle" ∧ yX2_placeOne.cls ≠ "java/lang/invoke/VarHandle" ∧ (parseMethodDescriptor yX2_placeOne.desc).map (fun d => d.parameters.length) = some 3 := ⟨rfl, kSX2_placeOne⟩
theorem dX2_makeRow_0 : decode cX2_makeRow 0 = .ok (.aload_n 0, 1) := by decide +kernel
theorem dX2_makeRow_1 : decode cX2_makeRow 1 = .ok (.getfield 20, 3) := by decide +kernel
theorem dX2_makeRow_4 : decode cX2_makeRow 4 = .ok (.iconst 0, 1) := by decide +kernel
theorem dX2_makeRow_5 : decode cX2_makeRow 5 = .ok (.iconst 0, 1) := by decide +kernel
theorem dX2_makeRow_6 : decode cX2_makeRow 6 = .ok (.invokevirtual 71, 3) := by decide +kernel
theorem dX2_makeRow_9 : decode cX2_makeRow 9 = .ok (.iconst 1, 1) := by decide +kernel
theorem dX2_makeRow_10 : decode cX2_makeRow 10 = .ok (.istore_n 2, 1) := by decide +kernel
theorem dX2_makeRow_11 : decode cX2_makeRow 11 = .ok (.iload_n 2, 1) := by decide +kernel
theorem dX2_makeRow_12 : decode cX2_makeRow 12 = .ok (.iload_n 1, 1) := by decide +kernel
theorem dX2_makeRow_13 : decode cX2_makeRow 13 = .ok (.if_icmp .ge 77, 3) := by decide +kernel
theorem dX2_makeRow_16 : decode cX2_makeRow 16 = .ok (.iconst 0, 1) := by decide +kernel
theorem dX2_makeRow_17 : decode cX2_makeRow 17 = .ok (.istore_n 3, 1) := by decide +kernel
theorem dX2_makeRow_18 : decode cX2_makeRow 18 = .ok (.iload_n 3, 1) := by decide +kernel
theorem dX2_makeRow_19 : decode cX2_makeRow 19 = .ok (.iload_n 2, 1) := by decide +kernel
theorem dX2_makeRow_20 : decode cX2_makeRow 20 = .ok (.if_icmp .ge 63, 3) := by decide +kernel
theorem dX2_makeRow_23 : decode cX2_makeRow 23 = .ok (.aload_n 0, 1) := by decide +kernel
theorem dX2_makeRow_24 : decode cX2_makeRow 24 = .ok (.getfield 20, 3) := by decide +kernel
theorem dX2_makeRow_27 : decode cX2_makeRow 27 = .ok (.iload_n 3, 1) := by decide +kernel
theorem dX2_makeRow_28 : decode cX2_makeRow 28 = .ok (.invokevirtual 74, 3) := by decide +kernel
theorem dX2_makeRow_31 : decode cX2_makeRow 31 = .ok (.istore 4, 2) := by decide +kernel
theorem dX2_makeRow_33 : decode cX2_makeRow 33 = .ok (.iload 4, 2) := by decide +kernel
theorem dX2_makeRow_35 : decode cX2_makeRow 35 = .ok (.iconst 2, 1) := by decide +kernel
theorem dX2_makeRow_36 : decode cX2_makeRow 36 = .ok (.irem, 1) := by decide +kernel
theorem dX2_makeRow_37 : decode cX2_makeRow 37 = .ok (.istore 5, 2) := by decide +kernel
theorem dX2_makeRow_39 : decode cX2_makeRow 39 = .ok (.aload_n 0, 1) := by decide +kernel
theorem dX2_makeRow_40 : decode cX2_makeRow 40 = .ok (.getfield 20, 3) := by decide +kernel
theorem dX2_makeRow_43 : decode cX2_makeRow 43 = .ok (.iload_n 3, 1) := by decide +kernel
theorem dX2_makeRow_44 : decode cX2_makeRow 44 = .ok (.iconst 2, 1) := by decide +kernel
theorem dX2_makeRow_45 : decode cX2_makeRow 45 = .ok (.iload 4, 2) := by decide +kernel
theorem dX2_makeRow_47 : decode cX2_makeRow 47 = .ok (.imul, 1) := by decide +kernel
theorem dX2_makeRow_48 : decode cX2_makeRow 48 = .ok (.iload 5, 2) := by decide +kernel
theorem dX2_makeRow_50 : decode cX2_makeRow 50 = .ok (.iadd, 1) := by decide +kernel
theorem dX2_makeRow_51 : decode cX2_makeRow 51 = .ok (.invokevirtual 71, 3) := by decide +kernel
theorem dX2_makeRow_54 : decode cX2_makeRow 54 = .ok (.aload_n 0, 1) := by decide +kernel
theorem dX2_makeRow_55 : decode cX2_makeRow 55 = .ok (.getfield 20, 3) := by decide +kernel
theorem dX2_makeRow_58 : decode cX2_makeRow 58 = .ok (.iconst 2, 1) := by decide +kernel
theorem dX2_makeRow_59 : decode cX2_makeRow 59 = .ok (.iload_n 2, 1) := by decide +kernel
theorem dX2_makeRow_60 : decode cX2_makeRow 60 = .ok (.imul, 1) := by decide +kernel
theorem dX2_makeRow_61 : decode cX2_makeRow 61 = .ok (.iconst 1, 1) := by decide +kernel
theorem dX2_makeRow_62 : decode cX2_makeRow 62 = .ok (.isub, 1) := by decide +kernel
theorem dX2_makeRow_63 : decode cX2_makeRow 63 = .ok (.iload_n 3, 1) := by decide +kernel
theorem dX2_makeRow_64 : decode cX2_makeRow 64 = .ok (.isub, 1) := by decide +kernel
theorem dX2_makeRow_65 : decode cX2_makeRow 65 = .ok (.iconst 2, 1) := by decide +kernel
theorem dX2_makeRow_66 : decode cX2_makeRow 66 = .ok (.iload 4, 2) := by decide +kernel
theorem dX2_makeRow_68 : decode cX2_makeRow 68 = .ok (.imul, 1) := by decide +kernel
theorem dX2_makeRow_69 : decode cX2_makeRow 69 = .ok (.iconst 1, 1) := by decide +kernel
theorem dX2_makeRow_70 : decode cX2_makeRow 70 = .ok (.iadd, 1) := by decide +kernel
theorem dX2_makeRow_71 : decode cX2_makeRow 71 = .ok (.iload 5, 2) := by decide +kernel
theorem dX2_makeRow_73 : decode cX2_makeRow 73 = .ok (.isub, 1) := by decide +kernel
theorem dX2_makeRow_74 : decode cX2_makeRow 74 = .ok (.invokevirtual 71, 3) := by decide +kernel
theorem dX2_makeRow_77 : decode cX2_makeRow 77 = .ok (.iinc 3 1, 3) := by decide +kernel
theorem dX2_makeRow_80 : decode cX2_makeRow 80 = .ok (.goto (-62), 3) := by decide +kernel
theorem dX2_makeRow_83 : decode cX2_makeRow 83 = .ok (.iload_n 2, 1) := by decide +kernel
theorem dX2_makeRow_84 : decode cX2_makeRow 84 = .ok (.iconst 2, 1) := by decide +kernel
theorem dX2_makeRow_85 : decode cX2_makeRow 85 = .ok (.imul, 1) := by decide +kernel
theorem dX2_makeRow_86 : decode cX2_makeRow 86 = .ok (.istore_n 2, 1) := by decide +kernel
theorem dX2_makeRow_87 : decode cX2_makeRow 87 = .ok (.goto (-76), 3) := by decide +kernel
theorem dX2_makeRow_90 : decode cX2_makeRow 90 = .ok (.return_, 1) := by decide +kernel
theorem kSX2_makeRow : yX2_makeRow.cls ≠ "java/lang/invoke/MethodHandle" ∧ yX2_makeRow.cls ≠ "java/lang/invoke/VarHandle" ∧ (parseMethodDescriptor yX2_makeRow.desc).map (fun d => d.parameters.length) = some 1 := by decide +kernel
theorem kVX2_makeRow : yX2_makeRow.cls = RX2 ∧ yX2_makeRow.cls ≠ "java/lang/invoke/MethodHandle" ∧ yX2_makeRow.cls ≠ "java/lang/invoke/VarHandle" ∧ (parseMethodDescriptor yX2_makeRow.desc).map (fun d => d.parameters.length) = some 1 := ⟨rfl, kSX2_makeRow⟩
theorem dX2_isSeed_0 : decode cX2_isSeed 0 = .ok (.aload_n 0, 1) := by decide +kernel
theorem dX2_isSeed_1 : decode cX2_isSeed 1 = .ok (.getfield 9, 3) := by decide +kernel
theorem dX2_isSeed_4 : decode cX2_isSeed 4 = .ok (.iload_n 1, 1) := by decide +kernel
theorem dX2_isSeed_5 : decode cX2_isSeed 5 = .ok (.iconst 4, 1) := by decide +kernel
theorem dX2_isSeed_6 : decode cX2_isSeed 6 = .ok (.invokestatic 68, 3) := by decide +kernel
theorem dX2_isSeed_9 : decode cX2_isSeed 9 = .ok (.invokevirtual 55, 3) := by decide +kernel
theorem dX2_isSeed_12 : decode cX2_isSeed 12 = .ok (.ifCond .le 7, 3) := by decide +kernel
theorem dX2_isSeed_15 : decode cX2_isSeed 15 = .ok (.iconst 1, 1) := by decide +kernel
theorem dX2_isSeed_16 : decode cX2_isSeed 16 = .ok (.goto 4, 3) := by decide +kernel
theorem dX2_isSeed_19 : decode cX2_isSeed 19 = .ok (.iconst 0, 1) := by decide +kernel
theorem dX2_isSeed_20 : decode cX2_isSeed 20 = .ok (.ireturn, 1) := by decide +kernel
theorem kSX2_isSeed : yX2_isSeed.cls ≠ "java/lang/invoke/MethodHandle" ∧ yX2_isSeed.cls ≠ "java/lang/invoke/VarHandle" ∧ (parseMethodDescriptor yX2_isSeed.desc).map (fun d => d.parameters.length) = some 1 := by decide +kernel
theorem kVX2_isSeed : yX2_isSeed.cls = RX2 ∧ yX2_isSeed.cls ≠ "java/lang/invoke/MethodHandle" ∧ yX2_isSeed.cls ≠ "java/lang/invoke/VarHandle" ∧ (parseMethodDescriptor yX2_isSeed.desc).map (fun d => d.parameters.length) = some 1 := ⟨rfl, kSX2_isSeed⟩
theorem dX2_placeSeeds_0 : decode cX2_placeSeeds 0 = .ok (.iconst 0, 1) := by decide +kernel
theorem dX2_placeSeeds_1 : decode cX2_placeSeeds 1 = .ok (.istore_n 2, 1) := by decide +kernel
theorem dX2_placeSeeds_2 : decode cX2_placeSeeds 2 = .ok (.iconst 1, 1) := by decide +kernel
theorem dX2_placeSeeds_3 : decode cX2_placeSeeds 3 = .ok (.istore_n 3, 1) := by decide +kernel
theorem dX2_placeSeeds_4 : decode cX2_placeSeeds 4 = .ok (.iload_n 3, 1) := by decide +kernel
theorem dX2_placeSeeds_5 : decode cX2_placeSeeds 5 = .ok (.bipush 8, 2) := by decide +kernel
theorem dX2_placeSeeds_7 : decode cX2_placeSeeds 7 = .ok (.if_icmp .gt 79, 3) := by decide +kernel
theorem dX2_placeSeeds_10 : decode cX2_placeSeeds 10 = .ok (.iconst 0, 1) := by decide +kernel
theorem dX2_placeSeeds_11 : decode cX2_placeSeeds 11 = .ok (.istore 4, 2) := by decide +kernel
theorem dX2_placeSeeds_13 : decode cX2_placeSeeds 13 = .ok (.iload 4, 2) := by decide +kernel
theorem dX2_placeSeeds_15 : decode cX2_placeSeeds 15 = .ok (.aload_n 0, 1) := by decide +kernel
theorem dX2_placeSeeds_16 : decode cX2_placeSeeds 16 = .ok (.getfield 9, 3) := by decide +kernel
theorem dX2_placeSeeds_19 : decode cX2_placeSeeds 19 = .ok (.iconst 2, 1) := by decide +kernel
theorem dX2_placeSeeds_20 : decode cX2_placeSeeds 20 = .ok (.invokevirtual 55, 3) := by decide +kernel
theorem dX2_placeSeeds_23 : decode cX2_placeSeeds 23 = .ok (.if_icmp .ge 57, 3) := by decide +kernel
theorem dX2_placeSeeds_26 : decode cX2_placeSeeds 26 = .ok (.aload_n 0, 1) := by decide +kernel
theorem dX2_placeSeeds_27 : decode cX2_placeSeeds 27 = .ok (.getfield 9, 3) := by decide +kernel
theorem dX2_placeSeeds_30 : decode cX2_placeSeeds 30 = .ok (.iload 4, 2) := by decide +kernel
theorem dX2_placeSeeds_32 : decode cX2_placeSeeds 32 = .ok (.iload_n 1, 1) := by decide +kernel
theorem dX2_placeSeeds_33 : decode cX2_placeSeeds 33 = .ok (.invokestatic 58, 3) := by decide +kernel
theorem dX2_placeSeeds_36 : decode cX2_placeSeeds 36 = .ok (.ifCond .eq 38, 3) := by decide +kernel
theorem dX2_placeSeeds_39 : decode cX2_placeSeeds 39 = .ok (.aload_n 0, 1) := by decide +kernel
theorem dX2_placeSeeds_40 : decode cX2_placeSeeds 40 = .ok (.getfield 9, 3) := by decide +kernel
theorem dX2_placeSeeds_43 : decode cX2_placeSeeds 43 = .ok (.iload 4, 2) := by decide +kernel
theorem dX2_placeSeeds_45 : decode cX2_placeSeeds 45 = .ok (.iconst 4, 1) := by decide +kernel
theorem dX2_placeSeeds_46 : decode cX2_placeSeeds 46 = .ok (.invokestatic 68, 3) := by decide +kernel
theorem dX2_placeSeeds_49 : decode cX2_placeSeeds 49 = .ok (.invokevirtual 55, 3) := by decide +kernel
theorem dX2_placeSeeds_52 : decode cX2_placeSeeds 52 = .ok (.iload_n 3, 1) := by decide +kernel
theorem dX2_placeSeeds_53 : decode cX2_placeSeeds 53 = .ok (.if_icmp .ne 21, 3) := by decide +kernel
theorem dX2_placeSeeds_56 : decode cX2_placeSeeds 56 = .ok (.aload_n 0, 1) := by decide +kernel
theorem dX2_placeSeeds_57 : decode cX2_placeSeeds 57 = .ok (.iload_n 1, 1) := by decide +kernel
theorem dX2_placeSeeds_58 : decode cX2_placeSeeds 58 = .ok (.iload 4, 2) := by decide +kernel
theorem dX2_placeSeeds_60 : decode cX2_placeSeeds 60 = .ok (.aload_n 0, 1) := by decide +kernel
theorem dX2_placeSeeds_61 : decode cX2_placeSeeds 61 = .ok (.getfield 20, 3) := by decide +kernel
theorem dX2_placeSeeds_64 : decode cX2_placeSeeds 64 = .ok (.iload_n 2, 1) := by decide +kernel
theorem dX2_placeSeeds_65 : decode cX2_placeSeeds 65 = .ok (.invokevirtual 74, 3) := by decide +kernel
theorem dX2_placeSeeds_68 : decode cX2_placeSeeds 68 = .ok (.invokevirtual 64, 3) := by decide +kernel
theorem dX2_placeSeeds_71 : decode cX2_placeSeeds 71 = .ok (.iinc 2 1, 3) := by decide +kernel
theorem dX2_placeSeeds_74 : decode cX2_placeSeeds 74 = .ok (.iinc 4 1, 3) := by decide +kernel
theorem dX2_placeSeeds_77 : decode cX2_placeSeeds 77 = .ok (.goto (-64), 3) := by decide +kernel
theorem dX2_placeSeeds_80 : decode cX2_placeSeeds 80 = .ok (.iinc 3 1, 3) := by decide +kernel
theorem dX2_placeSeeds_83 : decode cX2_placeSeeds 83 = .ok (.goto (-79), 3) := by decide +kernel
theorem dX2_placeSeeds_86 : decode cX2_placeSeeds 86 = .ok (.return_, 1) := by decide +kernel
theorem kSX2_placeSeeds : yX2_placeSeeds.cls ≠ "java/lang/invoke/MethodHandle" ∧ yX2_placeSeeds.cls ≠ "java/lang/invoke/VarHandle" ∧ (parseMethodDescriptor yX2_placeSeeds.desc).map (fun d => d.parameters.length) = some 1 := by decide +kernel
theorem kVX2_placeSeeds : yX2_placeSeeds.cls = RX2 ∧ yX2_placeSeeds.cls ≠ "java/lang/invoke/MethodHandle" ∧ yX2_placeSeeds.cls ≠ "java/lang/invoke/VarHandle" ∧ (parseMethodDescriptor yX2_placeSeeds.desc).map (fun d => d.parameters.length) = some 1 := ⟨rfl, kSX2_placeSeeds⟩
theorem dX2_placeOthers_0 : decode cX2_placeOthers 0 = .ok (.aload_n 0, 1) := by decide +kernel
theorem dX2_placeOthers_1 : decode cX2_placeOthers 1 = .ok (.getfield 24, 3) := by decide +kernel
theorem dX2_placeOthers_4 : decode cX2_placeOthers 4 = .ok (.iconst 0, 1) := by decide +kernel
theorem dX2_placeOthers_5 : decode cX2_placeOthers 5 = .ok (.invokevirtual 77, 3) := by decide +kernel
theorem dX2_placeOthers_8 : decode cX2_placeOthers 8 = .ok (.iconst 0, 1) := by decide +kernel
theorem dX2_placeOthers_9 : decode cX2_placeOthers 9 = .ok (.istore_n 3, 1) := by decide +kernel
theorem dX2_placeOthers_10 : decode cX2_placeOthers 10 = .ok (.iload_n 3, 1) := by decide +kernel
theorem dX2_placeOthers_11 : decode cX2_placeOthers 11 = .ok (.aload_n 0, 1) := by decide +kernel
theorem dX2_placeOthers_12 : decode cX2_placeOthers 12 = .ok (.getfield 9, 3) := by decide +kernel
theorem dX2_placeOthers_15 : decode cX2_placeOthers 15 = .ok (.iconst 2, 1) := by decide +kernel
theorem dX2_placeOthers_16 : decode cX2_placeOthers 16 = .ok (.invokevirtual 55, 3) := by decide +kernel
theorem dX2_placeOthers_19 : decode cX2_placeOthers 19 = .ok (.if_icmp .ge 63, 3) := by decide +kernel
theorem dX2_placeOthers_22 : decode cX2_placeOthers 22 = .ok (.aload_n 0, 1) := by decide +kernel
theorem dX2_placeOthers_23 : decode cX2_placeOthers 23 = .ok (.getfield 9, 3) := by decide +kernel
theorem dX2_placeOthers_26 : decode cX2_placeOthers 26 = .ok (.iload_n 3, 1) := by decide +kernel
theorem dX2_placeOthers_27 : decode cX2_placeOthers 27 = .ok (.iload_n 1, 1) := by decide +kernel
theorem dX2_placeOthers_28 : decode cX2_placeOthers 28 = .ok (.invokestatic 58, 3) := by decide +kernel
theorem dX2_placeOthers_31 : decode cX2_placeOthers 31 = .ok (.ifCond .eq 45, 3) := by decide +kernel
theorem dX2_placeOthers_34 : decode cX2_placeOthers 34 = .ok (.aload_n 0, 1) := by decide +kernel
theorem dX2_placeOthers_35 : decode cX2_placeOthers 35 = .ok (.iload_n 3, 1) := by decide +kernel
theorem dX2_placeOthers_36 : decode cX2_placeOthers 36 = .ok (.invokevirtual 80, 3) := by decide +kernel
theorem dX2_placeOthers_39 : decode cX2_placeOthers 39 = .ok (.ifCond .ne 37, 3) := by decide +kernel
theorem dX2_placeOthers_42 : decode cX2_placeOthers 42 = .ok (.aload_n 0, 1) := by decide +kernel
theorem dX2_placeOthers_43 : decode cX2_placeOthers 43 = .ok (.getfield 9, 3) := by decide +kernel
theorem dX2_placeOthers_46 : decode cX2_placeOthers 46 = .ok (.iload_n 3, 1) := by decide +kernel
theorem dX2_placeOthers_47 : decode cX2_placeOthers 47 = .ok (.iconst 1, 1) := by decide +kernel
theorem dX2_placeOthers_48 : decode cX2_placeOthers 48 = .ok (.invokestatic 68, 3) := by decide +kernel
theorem dX2_placeOthers_51 : decode cX2_placeOthers 51 = .ok (.invokevirtual 55, 3) := by decide +kernel
theorem dX2_placeOthers_54 : decode cX2_placeOthers 54 = .ok (.istore 4, 2) := by decide +kernel
theorem dX2_placeOthers_56 : decode cX2_placeOthers 56 = .ok (.aload_n 0, 1) := by decide +kernel
theorem dX2_placeOthers_57 : decode cX2_placeOthers 57 = .ok (.getfield 24, 3) := by decide +kernel
theorem dX2_placeOthers_60 : decode cX2_placeOthers 60 = .ok (.iload 4, 2) := by decide +kernel
theorem dX2_placeOthers_62 : decode cX2_placeOthers 62 = .ok (.aload_n 0, 1) := by decide +kernel
theorem dX2_placeOthers_63 : decode cX2_placeOthers 63 = .ok (.getfield 24, 3) := by decide +kernel
theorem dX2_placeOthers_66 : decode cX2_placeOthers 66 = .ok (.iload 4, 2) := by decide +kernel
theorem dX2_placeOthers_68 : decode cX2_placeOthers 68 = .ok (.invokevirtual 74, 3) := by decide +kernel
theorem dX2_placeOthers_71 : decode cX2_placeOthers 71 = .ok (.iconst 1, 1) := by decide +kernel
theorem dX2_placeOthers_72 : decode cX2_placeOthers 72 = .ok (.iadd, 1) := by decide +kernel
theorem dX2_placeOthers_73 : decode cX2_placeOthers 73 = .ok (.invokevirtual 71, 3) := by decide +kernel
theorem dX2_placeOthers_76 : decode cX2_placeOthers 76 = .ok (.iinc 3 1, 3) := by decide +kernel
theorem dX2_placeOthers_79 : decode cX2_placeOthers 79 = .ok (.goto (-69), 3) := by decide +kernel
theorem dX2_placeOthers_82 : decode cX2_placeOthers 82 = .ok (.iconst 0, 1) := by decide +kernel
theorem dX2_placeOthers_83 : decode cX2_placeOthers 83 = .ok (.istore_n 3, 1) := by decide +kernel
theorem dX2_placeOthers_84 : decode cX2_placeOthers 84 = .ok (.iload_n 3, 1) := by decide +kernel
theorem dX2_placeOthers_85 : decode cX2_placeOthers 85 = .ok (.bipush 16, 2) := by decide +kernel
theorem dX2_placeOthers_87 : decode cX2_placeOthers 87 = .ok (.if_icmp .ge 33, 3) := by decide +kernel
theorem dX2_placeOthers_90 : decode cX2_placeOthers 90 = .ok (.aload_n 0, 1) := by decide +kernel
theorem dX2_placeOthers_91 : decode cX2_placeOthers 91 = .ok (.invokevirtual 84, 3) := by decide +kernel
theorem dX2_placeOthers_94 : decode cX2_placeOthers 94 = .ok (.istore 4, 2) := by decide +kernel
theorem dX2_placeOthers_96 : decode cX2_placeOthers 96 = .ok (.aload_n 0, 1) := by decide +kernel
theorem dX2_placeOthers_97 : decode cX2_placeOthers 97 = .ok (.iload_n 1, 1) := by decide +kernel
theorem dX2_placeOthers_98 : decode cX2_placeOthers 98 = .ok (.iload 4, 2) := by decide +kernel
theorem dX2_placeOthers_100 : decode cX2_placeOthers 100 = .ok (.iload_n 2, 1) := by decide +kernel
theorem dX2_placeOthers_101 : decode cX2_placeOthers 101 = .ok (.invokevirtual 88, 3) := by decide +kernel
theorem dX2_placeOthers_104 : decode cX2_placeOthers 104 = .ok (.aload_n 0, 1) := by decide +kernel
theorem dX2_placeOthers_105 : decode cX2_placeOthers 105 = .ok (.getfield 24, 3) := by decide +kernel
theorem dX2_placeOthers_108 : decode cX2_placeOthers 108 = .ok (.iload 4, 2) := by decide +kernel
theorem dX2_placeOthers_110 : decode cX2_placeOthers 110 = .ok (.iconst 0, 1) := by decide +kernel
theorem dX2_placeOthers_111 : decode cX2_placeOthers 111 = .ok (.invokevirtual 71, 3) := by decide +kernel
theorem dX2_placeOthers_114 : decode cX2_placeOthers 114 = .ok (.iinc 3 1, 3) := by decide +kernel
theorem dX2_placeOthers_117 : decode cX2_placeOthers 117 = .ok (.goto (-33), 3) := by decide +kernel
theorem dX2_placeOthers_120 : decode cX2_placeOthers 120 = .ok (.return_, 1) := by decide +kernel
theorem kSX2_placeOthers : yX2_placeOthers.cls ≠ "java/lang/invoke/MethodHandle" ∧ yX2_placeOthers.cls ≠ "java/lang/invoke/VarHandle" ∧ (parseMethodDescriptor yX2_placeOthers.desc).map (fun d => d.parameters.length) = some 2 := by decide +kernel
theorem kVX2_placeOthers : yX2_placeOthers.cls = RX2 ∧ yX2_placeOthers.cls ≠ "java/lang/invoke/MethodHandle" ∧ yX2_placeOthers.cls ≠ "java/lang/invoke/VarHandle" ∧ (parseMethodDescriptor yX2_placeOthers.desc).map (fun d => d.parameters.length) = some 2 := ⟨rfl, kSX2_placeOthers⟩
theorem dX2_largestClub_0 : decode cX2_largestClub 0 = .ok (.iconst 0, 1) := by decide +kernel
theorem dX2_largestClub_1 : decode cX2_largestClub 1 = .ok (.istore_n 1, 1) := by decide +kernel
theorem dX2_largestClub_2 : decode cX2_largestClub 2 = .ok (.iconst 1, 1) := by decide +kernel
theorem dX2_largestClub_3 : decode cX2_largestClub 3 = .ok (.istore_n 2, 1) := by decide +kernel
theorem dX2_largestClub_4 : decode cX2_largestClub 4 = .ok (.iload_n 2, 1) := by decide +kernel
theorem dX2_largestClub_5 : decode cX2_largestClub 5 = .ok (.bipush 16, 2) := by decide +kernel
theorem dX2_largestClub_7 : decode cX2_largestClub 7 = .ok (.if_icmp .ge 30, 3) := by decide +kernel
theorem dX2_largestClub_10 : decode cX2_largestClub 10 = .ok (.aload_n 0, 1) := by decide +kernel
theorem dX2_largestClub_11 : decode cX2_largestClub 11 = .ok (.getfield 24, 3) := by decide +kernel
theorem dX2_largestClub_14 : decode cX2_largestClub 14 = .ok (.iload_n 2, 1) := by decide +kernel
theorem dX2_largestClub_15 : decode cX2_largestClub 15 = .ok (.invokevirtual 74, 3) := by decide +kernel
theorem dX2_largestClub_18 : decode cX2_largestClub 18 = .ok (.aload_n 0, 1) := by decide +kernel
theorem dX2_largestClub_19 : decode cX2_largestClub 19 = .ok (.getfield 24, 3) := by decide +kernel
theorem dX2_largestClub_22 : decode cX2_largestClub 22 = .ok (.iload_n 1, 1) := by decide +kernel
theorem dX2_largestClub_23 : decode cX2_largestClub 23 = .ok (.invokevirtual 74, 3) := by decide +kernel
theorem dX2_largestClub_26 : decode cX2_largestClub 26 = .ok (.if_icmp .le 5, 3) := by decide +kernel
theorem dX2_largestClub_29 : decode cX2_largestClub 29 = .ok (.iload_n 2, 1) := by decide +kernel
theorem dX2_largestClub_30 : decode cX2_largestClub 30 = .ok (.istore_n 1, 1) := by decide +kernel
theorem dX2_largestClub_31 : decode cX2_largestClub 31 = .ok (.iinc 2 1, 3) := by decide +kernel
theorem dX2_largestClub_34 : decode cX2_largestClub 34 = .ok (.goto (-30), 3) := by decide +kernel
theorem dX2_largestClub_37 : decode cX2_largestClub 37 = .ok (.iload_n 1, 1) := by decide +kernel
theorem dX2_largestClub_38 : decode cX2_largestClub 38 = .ok (.ireturn, 1) := by decide +kernel
theorem kSX2_largestClub : yX2_largestClub.cls ≠ "java/lang/invoke/MethodHandle" ∧ yX2_largestClub.cls ≠ "java/lang/invoke/VarHandle" ∧ (parseMethodDescriptor yX2_largestClub.desc).map (fun d => d.parameters.length) = some 0 := by decide +kernel
theorem kVX2_largestClub : yX2_largestClub.cls = RX2 ∧ yX2_largestClub.cls ≠ "java/lang/invoke/MethodHandle" ∧ yX2_largestClub.cls ≠ "java/lang/invoke/VarHandle" ∧ (parseMethodDescriptor yX2_largestClub.desc).map (fun d => d.parameters.length) = some 0 := ⟨rfl, kSX2_largestClub⟩
theorem dX2_placeClub_0 : decode cX2_placeClub 0 = .ok (.iconst 0, 1) := by decide +kernel
theorem dX2_placeClub_1 : decode cX2_placeClub 1 = .ok (.istore 4, 2) := by decide +kernel
theorem dX2_placeClub_3 : decode cX2_placeClub 3 = .ok (.iload 4, 2) := by decide +kernel
theorem dX2_placeClub_5 : decode cX2_placeClub 5 = .ok (.aload_n 0, 1) := by decide +kernel
theorem dX2_placeClub_6 : decode cX2_placeClub 6 = .ok (.getfield 9, 3) := by decide +kernel
theorem dX2_placeClub_9 : decode cX2_placeClub 9 = .ok (.iconst 2, 1) := by decide +kernel
theorem dX2_placeClub_10 : decode cX2_placeClub 10 = .ok (.invokevirtual 55, 3) := by decide +kernel
theorem dX2_placeClub_13 : decode cX2_placeClub 13 = .ok (.if_icmp .ge 85, 3) := by decide +kernel
theorem dX2_placeClub_16 : decode cX2_placeClub 16 = .ok (.aload_n 0, 1) := by decide +kernel
theorem dX2_placeClub_17 : decode cX2_placeClub 17 = .ok (.getfield 24, 3) := by decide +kernel
theorem dX2_placeClub_20 : decode cX2_placeClub 20 = .ok (.iload_n 2, 1) := by decide +kernel
theorem dX2_placeClub_21 : decode cX2_placeClub 21 = .ok (.invokevirtual 74, 3) := by decide +kernel
theorem dX2_placeClub_24 : decode cX2_placeClub 24 = .ok (.ifCond .le 74, 3) := by decide +kernel
theorem dX2_placeClub_27 : decode cX2_placeClub 27 = .ok (.aload_n 0, 1) := by decide +kernel
theorem dX2_placeClub_28 : decode cX2_placeClub 28 = .ok (.getfield 9, 3) := by decide +kernel
theorem dX2_placeClub_31 : decode cX2_placeClub 31 = .ok (.iload 4, 2) := by decide +kernel
theorem dX2_placeClub_33 : decode cX2_placeClub 33 = .ok (.iconst 1, 1) := by decide +kernel
theorem dX2_placeClub_34 : decode cX2_placeClub 34 = .ok (.invokestatic 68, 3) := by decide +kernel
theorem dX2_placeClub_37 : decode cX2_placeClub 37 = .ok (.invokevirtual 55, 3) := by decide +kernel
theorem dX2_placeClub_40 : decode cX2_placeClub 40 = .ok (.iload_n 2, 1) := by decide +kernel
theorem dX2_placeClub_41 : decode cX2_placeClub 41 = .ok (.if_icmp .ne 7, 3) := by decide +kernel
theorem dX2_placeClub_44 : decode cX2_placeClub 44 = .ok (.iconst 1, 1) := by decide +kernel
theorem dX2_placeClub_45 : decode cX2_placeClub 45 = .ok (.goto 4, 3) := by decide +kernel
theorem dX2_placeClub_48 : decode cX2_placeClub 48 = .ok (.iconst 0, 1) := by decide +kernel
theorem dX2_placeClub_49 : decode cX2_placeClub 49 = .ok (.istore 5, 2) := by decide +kernel
theorem dX2_placeClub_51 : decode cX2_placeClub 51 = .ok (.iload 5, 2) := by decide +kernel
theorem dX2_placeClub_53 : decode cX2_placeClub 53 = .ok (.ifCond .eq 39, 3) := by decide +kernel
theorem dX2_placeClub_56 : decode cX2_placeClub 56 = .ok (.aload_n 0, 1) := by decide +kernel
theorem dX2_placeClub_57 : decode cX2_placeClub 57 = .ok (.getfield 9, 3) := by decide +kernel
theorem dX2_placeClub_60 : decode cX2_placeClub 60 = .ok (.iload 4, 2) := by decide +kernel
theorem dX2_placeClub_62 : decode cX2_placeClub 62 = .ok (.iload_n 1, 1) := by decide +kernel
theorem dX2_placeClub_63 : decode cX2_placeClub 63 = .ok (.invokestatic 58, 3) := by decide +kernel
theorem dX2_placeClub_66 : decode cX2_placeClub 66 = .ok (.ifCond .eq 26, 3) := by decide +kernel
theorem dX2_placeClub_69 : decode cX2_placeClub 69 = .ok (.aload_n 0, 1) := by decide +kernel
theorem dX2_placeClub_70 : decode cX2_placeClub 70 = .ok (.iload 4, 2) := by decide +kernel
theorem dX2_placeClub_72 : decode cX2_placeClub 72 = .ok (.invokevirtual 80, 3) := by decide +kernel
theorem dX2_placeClub_75 : decode cX2_placeClub 75 = .ok (.ifCond .ne 17, 3) := by decide +kernel
theorem dX2_placeClub_78 : decode cX2_placeClub 78 = .ok (.aload_n 0, 1) := by decide +kernel
theorem dX2_placeClub_79 : decode cX2_placeClub 79 = .ok (.iload_n 1, 1) := by decide +kernel
theorem dX2_placeClub_80 : decode cX2_placeClub 80 = .ok (.iload 4, 2) := by decide +kernel
theorem dX2_placeClub_82 : decode cX2_placeClub 82 = .ok (.aload_n 0, 1) := by decide +kernel
theorem dX2_placeClub_83 : decode cX2_placeClub 83 = .ok (.iload_n 1, 1) := by decide +kernel
theorem dX2_placeClub_84 : decode cX2_placeClub 84 = .ok (.iload_n 2, 1) := by decide +kernel
theorem dX2_placeClub_85 : decode cX2_placeClub 85 = .ok (.iload_n 3, 1) := by decide +kernel
theorem dX2_placeClub_86 : decode cX2_placeClub 86 = .ok (.invokevirtual 91, 3) := by decide +kernel
theorem dX2_placeClub_89 : decode cX2_placeClub 89 = .ok (.invokevirtual 64, 3) := by decide +kernel
theorem dX2_placeClub_92 : decode cX2_placeClub 92 = .ok (.iinc 4 1, 3) := by decide +kernel
theorem dX2_placeClub_95 : decode cX2_placeClub 95 = .ok (.goto (-92), 3) := by decide +kernel
theorem dX2_placeClub_98 : decode cX2_placeClub 98 = .ok (.return_, 1) := by decide +kernel
theorem kSX2_placeClub : yX2_placeClub.cls ≠ "java/lang/invoke/MethodHandle" ∧ yX2_placeClub.cls ≠ "java/lang/invoke/VarHandle" ∧ (parseMethodDescriptor yX2_placeClub.desc).map (fun d => d.parameters.length) = some 3 := by decide +kernel
theorem kVX2_placeClub : yX2_placeClub.cls = RX2 ∧ yX2_placeClub.cls ≠ "java/lang/invoke/MethodHandle" ∧ yX2_placeClub.cls ≠ "java/lang/invoke/VarHandle" ∧ (parseMethodDescriptor yX2_placeClub.desc).map (fun d => d.parameters.length) = some 3 := ⟨rfl, kSX2_placeClub⟩
theorem dX2_bestPlace_0 : decode cX2_bestPlace 0 = .ok (.iconst (-1), 1) := by decide +kernel
theorem dX2_bestPlace_1 : decode cX2_bestPlace 1 = .ok (.istore 4, 2) := by decide +kernel
theorem dX2_bestPlace_3 : decode cX2_bestPlace 3 = .ok (.iconst (-1), 1) := by decide +kernel
theorem dX2_bestPlace_4 : decode cX2_bestPlace 4 = .ok (.istore 5, 2) := by decide +kernel
theorem dX2_bestPlace_6 : decode cX2_bestPlace 6 = .ok (.iconst 0, 1) := by decide +kernel
theorem dX2_bestPlace_7 : decode cX2_bestPlace 7 = .ok (.istore 6, 2) := by decide +kernel
theorem dX2_bestPlace_9 : decode cX2_bestPlace 9 = .ok (.iload 6, 2) := by decide +kernel
theorem dX2_bestPlace_11 : decode cX2_bestPlace 11 = .ok (.iload_n 3, 1) := by decide +kernel
theorem dX2_bestPlace_12 : decode cX2_bestPlace 12 = .ok (.if_icmp .ge 64, 3) := by decide +kernel
theorem dX2_bestPlace_15 : decode cX2_bestPlace 15 = .ok (.aload_n 0, 1) := by decide +kernel
theorem dX2_bestPlace_16 : decode cX2_bestPlace 16 = .ok (.getfield 20, 3) := by decide +kernel
theorem dX2_bestPlace_19 : decode cX2_bestPlace 19 = .ok (.iload 6, 2) := by decide +kernel
theorem dX2_bestPlace_21 : decode cX2_bestPlace 21 = .ok (.invokevirtual 74, 3) := by decide +kernel
theorem dX2_bestPlace_24 : decode cX2_bestPlace 24 = .ok (.istore 7, 2) := by decide +kernel
theorem dX2_bestPlace_26 : decode cX2_bestPlace 26 = .ok (.aload_n 0, 1) := by decide +kernel
theorem dX2_bestPlace_27 : decode cX2_bestPlace 27 = .ok (.getfield 9, 3) := by decide +kernel
theorem dX2_bestPlace_30 : decode cX2_bestPlace 30 = .ok (.iload_n 1, 1) := by decide +kernel
theorem dX2_bestPlace_31 : decode cX2_bestPlace 31 = .ok (.iconst 4, 1) := by decide +kernel
theorem dX2_bestPlace_32 : decode cX2_bestPlace 32 = .ok (.iload 7, 2) := by decide +kernel
theorem dX2_bestPlace_34 : decode cX2_bestPlace 34 = .ok (.iadd, 1) := by decide +kernel
theorem dX2_bestPlace_35 : decode cX2_bestPlace 35 = .ok (.invokestatic 33, 3) := by decide +kernel
theorem dX2_bestPlace_38 : decode cX2_bestPlace 38 = .ok (.invokevirtual 55, 3) := by decide +kernel
theorem dX2_bestPlace_41 : decode cX2_bestPlace 41 = .ok (.iconst (-1), 1) := by decide +kernel
theorem dX2_bestPlace_42 : decode cX2_bestPlace 42 = .ok (.if_icmp .ne 28, 3) := by decide +kernel
theorem dX2_bestPlace_45 : decode cX2_bestPlace 45 = .ok (.aload_n 0, 1) := by decide +kernel
theorem dX2_bestPlace_46 : decode cX2_bestPlace 46 = .ok (.iload_n 1, 1) := by decide +kernel
theorem dX2_bestPlace_47 : decode cX2_bestPlace 47 = .ok (.iload_n 2, 1) := by decide +kernel
theorem dX2_bestPlace_48 : decode cX2_bestPlace 48 = .ok (.iload 7, 2) := by decide +kernel
theorem dX2_bestPlace_50 : decode cX2_bestPlace 50 = .ok (.invokevirtual 95, 3) := by decide +kernel
theorem dX2_bestPlace_53 : decode cX2_bestPlace 53 = .ok (.istore 8, 2) := by decide +kernel
theorem dX2_bestPlace_55 : decode cX2_bestPlace 55 = .ok (.iload 8, 2) := by decide +kernel
theorem dX2_bestPlace_57 : decode cX2_bestPlace 57 = .ok (.iload 5, 2) := by decide +kernel
theorem dX2_bestPlace_59 : decode cX2_bestPlace 59 = .ok (.if_icmp .le 11, 3) := by decide +kernel
theorem dX2_bestPlace_62 : decode cX2_bestPlace 62 = .ok (.iload 8, 2) := by decide +kernel
theorem dX2_bestPlace_64 : decode cX2_bestPlace 64 = .ok (.istore 5, 2) := by decide +kernel
theorem dX2_bestPlace_66 : decode cX2_bestPlace 66 = .ok (.iload 7, 2) := by decide +kernel
theorem dX2_bestPlace_68 : decode cX2_bestPlace 68 = .ok (.istore 4, 2) := by decide +kernel
theorem dX2_bestPlace_70 : decode cX2_bestPlace 70 = .ok (.iinc 6 1, 3) := by decide +kernel
theorem dX2_bestPlace_73 : decode cX2_bestPlace 73 = .ok (.goto (-64), 3) := by decide +kernel
theorem dX2_bestPlace_76 : decode cX2_bestPlace 76 = .ok (.iload 4, 2) := by decide +kernel
theorem dX2_bestPlace_78 : decode cX2_bestPlace 78 = .ok (.ireturn, 1) := by decide +kernel
theorem kSX2_bestPlace : yX2_bestPlace.cls ≠ "java/lang/invoke/MethodHandle" ∧ yX2_bestPlace.cls ≠ "java/lang/invoke/VarHandle" ∧ (parseMethodDescriptor yX2_bestPlace.desc).map (fun d => d.parameters.length) = some 3 := by decide +kernel
theorem kVX2_bestPlace : yX2_bestPlace.cls = RX2 ∧ yX2_bestPlace.cls ≠ "java/lang/invoke/MethodHandle" ∧ yX2_bestPlace.cls ≠ "java/lang/invoke/VarHandle" ∧ (parseMethodDescriptor yX2_bestPlace.desc).map (fun d => d.parameters.length) = some 3 := ⟨rfl, kSX2_bestPlace⟩
theorem dX2_firstMeeting_0 : decode cX2_firstMeeting 0 = .ok (.bipush 99, 2) := by decide +kernel
theorem dX2_firstMeeting_2 : decode cX2_firstMeeting 2 = .ok (.istore 4, 2) := by decide +kernel
theorem dX2_firstMeeting_4 : decode cX2_firstMeeting 4 = .ok (.aload_n 0, 1) := by decide +kernel
theorem dX2_firstMeeting_5 : decode cX2_firstMeeting 5 = .ok (.getfield 9, 3) := by decide +kernel
theorem dX2_firstMeeting_8 : decode cX2_firstMeeting 8 = .ok (.iload_n 1, 1) := by decide +kernel
theorem dX2_firstMeeting_9 : decode cX2_firstMeeting 9 = .ok (.iconst 3, 1) := by decide +kernel
theorem dX2_firstMeeting_10 : decode cX2_firstMeeting 10 = .ok (.invokestatic 33, 3) := by decide +kernel
theorem dX2_firstMeeting_13 : decode cX2_firstMeeting 13 = .ok (.invokevirtual 55, 3) := by decide +kernel
theorem dX2_firstMeeting_16 : decode cX2_firstMeeting 16 = .ok (.istore 5, 2) := by decide +kernel
theorem dX2_firstMeeting_18 : decode cX2_firstMeeting 18 = .ok (.iconst 0, 1) := by decide +kernel
theorem dX2_firstMeeting_19 : decode cX2_firstMeeting 19 = .ok (.istore 6, 2) := by decide +kernel
theorem dX2_firstMeeting_21 : decode cX2_firstMeeting 21 = .ok (.iload 6, 2) := by decide +kernel
theorem dX2_firstMeeting_23 : decode cX2_firstMeeting 23 = .ok (.iload 5, 2) := by decide +kernel
theorem dX2_firstMeeting_25 : decode cX2_firstMeeting 25 = .ok (.if_icmp .ge 62, 3) := by decide +kernel
theorem dX2_firstMeeting_28 : decode cX2_firstMeeting 28 = .ok (.aload_n 0, 1) := by decide +kernel
theorem dX2_firstMeeting_29 : decode cX2_firstMeeting 29 = .ok (.getfield 9, 3) := by decide +kernel
theorem dX2_firstMeeting_32 : decode cX2_firstMeeting 32 = .ok (.iload_n 1, 1) := by decide +kernel
theorem dX2_firstMeeting_33 : decode cX2_firstMeeting 33 = .ok (.iconst 4, 1) := by decide +kernel
theorem dX2_firstMeeting_34 : decode cX2_firstMeeting 34 = .ok (.iload 6, 2) := by decide +kernel
theorem dX2_firstMeeting_36 : decode cX2_firstMeeting 36 = .ok (.iadd, 1) := by decide +kernel
theorem dX2_firstMeeting_37 : decode cX2_firstMeeting 37 = .ok (.invokestatic 33, 3) := by decide +kernel
theorem dX2_firstMeeting_40 : decode cX2_firstMeeting 40 = .ok (.invokevirtual 55, 3) := by decide +kernel
theorem dX2_firstMeeting_43 : decode cX2_firstMeeting 43 = .ok (.istore 7, 2) := by decide +kernel
theorem dX2_firstMeeting_45 : decode cX2_firstMeeting 45 = .ok (.iload 7, 2) := by decide +kernel
theorem dX2_firstMeeting_47 : decode cX2_firstMeeting 47 = .ok (.iconst (-1), 1) := by decide +kernel
theorem dX2_firstMeeting_48 : decode cX2_firstMeeting 48 = .ok (.if_icmp .eq 33, 3) := by decide +kernel
theorem dX2_firstMeeting_51 : decode cX2_firstMeeting 51 = .ok (.aload_n 0, 1) := by decide +kernel
theorem dX2_firstMeeting_52 : decode cX2_firstMeeting 52 = .ok (.getfield 9, 3) := by decide +kernel
theorem dX2_firstMeeting_55 : decode cX2_firstMeeting 55 = .ok (.iload 7, 2) := by decide +kernel
theorem dX2_firstMeeting_57 : decode cX2_firstMeeting 57 = .ok (.iconst 1, 1) := by decide +kernel
theorem dX2_firstMeeting_58 : decode cX2_firstMeeting 58 = .ok (.invokestatic 68, 3) := by decide +kernel
theorem dX2_firstMeeting_61 : decode cX2_firstMeeting 61 = .ok (.invokevirtual 55, 3) := by decide +kernel
theorem dX2_firstMeeting_64 : decode cX2_firstMeeting 64 = .ok (.iload_n 2, 1) := by decide +kernel
theorem dX2_firstMeeting_65 : decode cX2_firstMeeting 65 = .ok (.if_icmp .ne 16, 3) := by decide +kernel
theorem dX2_firstMeeting_68 : decode cX2_firstMeeting 68 = .ok (.iload 4, 2) := by decide +kernel
theorem dX2_firstMeeting_70 : decode cX2_firstMeeting 70 = .ok (.iload_n 3, 1) := by decide +kernel
theorem dX2_firstMeeting_71 : decode cX2_firstMeeting 71 = .ok (.iload 6, 2) := by decide +kernel
theorem dX2_firstMeeting_73 : decode cX2_firstMeeting 73 = .ok (.invokestatic 98, 3) := by decide +kernel
theorem dX2_firstMeeting_76 : decode cX2_firstMeeting 76 = .ok (.invokestatic 101, 3) := by decide +kernel
theorem dX2_firstMeeting_79 : decode cX2_firstMeeting 79 = .ok (.istore 4, 2) := by decide +kernel
theorem dX2_firstMeeting_81 : decode cX2_firstMeeting 81 = .ok (.iinc 6 1, 3) := by decide +kernel
theorem dX2_firstMeeting_84 : decode cX2_firstMeeting 84 = .ok (.goto (-63), 3) := by decide +kernel
theorem dX2_firstMeeting_87 : decode cX2_firstMeeting 87 = .ok (.iload 4, 2) := by decide +kernel
theorem dX2_firstMeeting_89 : decode cX2_firstMeeting 89 = .ok (.ireturn, 1) := by decide +kernel
theorem kSX2_firstMeeting : yX2_firstMeeting.cls ≠ "java/lang/invoke/MethodHandle" ∧ yX2_firstMeeting.cls ≠ "java/lang/invoke/VarHandle" ∧ (parseMethodDescriptor yX2_firstMeeting.desc).map (fun d => d.parameters.length) = some 3 := by decide +kernel
theorem kVX2_firstMeeting : yX2_firstMeeting.cls = RX2 ∧ yX2_firstMeeting.cls ≠ "java/lang/invoke/MethodHandle" ∧ yX2_firstMeeting.cls ≠ "java/lang/invoke/VarHandle" ∧ (parseMethodDescriptor yX2_firstMeeting.desc).map (fun d => d.parameters.length) = some 3 := ⟨rfl, kSX2_firstMeeting⟩
theorem dX2_meetingRound_0 : decode cX2_meetingRound 0 = .ok (.iconst 0, 1) := by decide +kernel
theorem dX2_meetingRound_1 : decode cX2_meetingRound 1 = .ok (.istore_n 2, 1) := by decide +kernel
theorem dX2_meetingRound_2 : decode cX2_meetingRound 2 = .ok (.iload_n 0, 1) := by decide +kernel
theorem dX2_meetingRound_3 : decode cX2_meetingRound 3 = .ok (.iload_n 1, 1) := by decide +kernel
theorem dX2_meetingRound_4 : decode cX2_meetingRound 4 = .ok (.ixor, 1) := by decide +kernel
theorem dX2_meetingRound_5 : decode cX2_meetingRound 5 = .ok (.iconst 1, 1) := by decide +kernel
theorem dX2_meetingRound_6 : decode cX2_meetingRound 6 = .ok (.ishr, 1) := by decide +kernel
theorem dX2_meetingRound_7 : decode cX2_meetingRound 7 = .ok (.istore_n 3, 1) := by decide +kernel
theorem dX2_meetingRound_8 : decode cX2_meetingRound 8 = .ok (.iload_n 3, 1) := by decide +kernel
theorem dX2_meetingRound_9 : decode cX2_meetingRound 9 = .ok (.ifCond .le 13, 3) := by decide +kernel
theorem dX2_meetingRound_12 : decode cX2_meetingRound 12 = .ok (.iinc 2 1, 3) := by decide +kernel
theorem dX2_meetingRound_15 : decode cX2_meetingRound 15 = .ok (.iload_n 3, 1) := by decide +kernel
theorem dX2_meetingRound_16 : decode cX2_meetingRound 16 = .ok (.iconst 1, 1) := by decide +kernel
theorem dX2_meetingRound_17 : decode cX2_meetingRound 17 = .ok (.ishr, 1) := by decide +kernel
theorem dX2_meetingRound_18 : decode cX2_meetingRound 18 = .ok (.istore_n 3, 1) := by decide +kernel
theorem dX2_meetingRound_19 : decode cX2_meetingRound 19 = .ok (.goto (-11), 3) := by decide +kernel
theorem dX2_meetingRound_22 : decode cX2_meetingRound 22 = .ok (.iload_n 2, 1) := by decide +kernel
theorem dX2_meetingRound_23 : decode cX2_meetingRound 23 = .ok (.ireturn, 1) := by decide +kernel
theorem kSX2_meetingRound : yX2_meetingRound.cls ≠ "java/lang/invoke/MethodHandle" ∧ yX2_meetingRound.cls ≠ "java/lang/invoke/VarHandle" ∧ (parseMethodDescriptor yX2_meetingRound.desc).map (fun d => d.parameters.length) = some 2 := by decide +kernel
theorem dX3_start_0 : decode cX3_start 0 = .ok (.aload_n 0, 1) := by decide +kernel
theorem dX3_start_1 : decode cX3_start 1 = .ok (.getfield 9, 3) := by decide +kernel
theorem dX3_start_4 : decode cX3_start 4 = .ok (.iload_n 2, 1) := by decide +kernel
theorem dX3_start_5 : decode cX3_start 5 = .ok (.iload_n 3, 1) := by decide +kernel
theorem dX3_start_6 : decode cX3_start 6 = .ok (.iconst 0, 1) := by decide +kernel
theorem dX3_start_7 : decode cX3_start 7 = .ok (.invokestatic 47, 3) := by decide +kernel
theorem dX3_start_10 : decode cX3_start 10 = .ok (.iconst 2, 1) := by decide +kernel
theorem dX3_start_11 : decode cX3_start 11 = .ok (.invokevirtual 59, 3) := by decide +kernel
theorem dX3_start_14 : decode cX3_start 14 = .ok (.aload_n 0, 1) := by decide +kernel
theorem dX3_start_15 : decode cX3_start 15 = .ok (.getfield 9, 3) := by decide +kernel
theorem dX3_start_18 : decode cX3_start 18 = .ok (.iload_n 2, 1) := by decide +kernel
theorem dX3_start_19 : decode cX3_start 19 = .ok (.iload_n 3, 1) := by decide +kernel
theorem dX3_start_20 : decode cX3_start 20 = .ok (.iconst 1, 1) := by decide +kernel
theorem dX3_start_21 : decode cX3_start 21 = .ok (.invokestatic 47, 3) := by decide +kernel
theorem dX3_start_24 : decode cX3_start 24 = .ok (.aload_n 0, 1) := by decide +kernel
theorem dX3_start_25 : decode cX3_start 25 = .ok (.getfield 15, 3) := by decide +kernel
theorem dX3_start_28 : decode cX3_start 28 = .ok (.iload_n 2, 1) := by decide +kernel
theorem dX3_start_29 : decode cX3_start 29 = .ok (.iload_n 3, 1) := by decide +kernel
theorem dX3_start_30 : decode cX3_start 30 = .ok (.invokevirtual 62, 3) := by decide +kernel
theorem dX3_start_33 : decode cX3_start 33 = .ok (.invokevirtual 59, 3) := by decide +kernel
theorem dX3_start_36 : decode cX3_start 36 = .ok (.aload_n 0, 1) := by decide +kernel
theorem dX3_start_37 : decode cX3_start 37 = .ok (.getfield 9, 3) := by decide +kernel
theorem dX3_start_40 : decode cX3_start 40 = .ok (.iload_n 2, 1) := by decide +kernel
theorem dX3_start_41 : decode cX3_start 41 = .ok (.iload_n 3, 1) := by decide +kernel
theorem dX3_start_42 : decode cX3_start 42 = .ok (.iconst 2, 1) := by decide +kernel
theorem dX3_start_43 : decode cX3_start 43 = .ok (.invokestatic 47, 3) := by decide +kernel
theorem dX3_start_46 : decode cX3_start 46 = .ok (.aload_n 0, 1) := by decide +kernel
theorem dX3_start_47 : decode cX3_start 47 = .ok (.getfield 15, 3) := by decide +kernel
theorem dX3_start_50 : decode cX3_start 50 = .ok (.iload_n 2, 1) := by decide +kernel
theorem dX3_start_51 : decode cX3_start 51 = .ok (.iload_n 3, 1) := by decide +kernel
theorem dX3_start_52 : decode cX3_start 52 = .ok (.invokevirtual 65, 3) := by decide +kernel
theorem dX3_start_55 : decode cX3_start 55 = .ok (.invokevirtual 59, 3) := by decide +kernel
theorem dX3_start_58 : decode cX3_start 58 = .ok (.aload_n 0, 1) := by decide +kernel
theorem dX3_start_59 : decode cX3_start 59 = .ok (.getfield 9, 3) := by decide +kernel
theorem dX3_start_62 : decode cX3_start 62 = .ok (.iload_n 2, 1) := by decide +kernel
theorem dX3_start_63 : decode cX3_start 63 = .ok (.iload_n 3, 1) := by decide +kernel
theorem dX3_start_64 : decode cX3_start 64 = .ok (.bipush 7, 2) := by decide +kernel
theorem dX3_start_66 : decode cX3_start 66 = .ok (.invokestatic 47, 3) := by decide +kernel
theorem dX3_start_69 : decode cX3_start 69 = .ok (.iload 4, 2) := by decide +kernel
theorem dX3_start_71 : decode cX3_start 71 = .ok (.invokevirtual 59, 3) := by decide +kernel
theorem dX3_start_74 : decode cX3_start 74 = .ok (.aload_n 0, 1) := by decide +kernel
theorem dX3_start_75 : decode cX3_start 75 = .ok (.getfield 9, 3) := by decide +kernel
theorem dX3_start_78 : decode cX3_start 78 = .ok (.iload 4, 2) := by decide +kernel
theorem dX3_start_80 : decode cX3_start 80 = .ok (.iconst 0, 1) := by decide +kernel
theorem dX3_start_81 : decode cX3_start 81 = .ok (.invokestatic 28, 3) := by decide +kernel
theorem dX3_start_84 : decode cX3_start 84 = .ok (.iload_n 2, 1) := by decide +kernel
theorem dX3_start_85 : decode cX3_start 85 = .ok (.invokevirtual 59, 3) := by decide +kernel
theorem dX3_start_88 : decode cX3_start 88 = .ok (.aload_n 0, 1) := by decide +kernel
theorem dX3_start_89 : decode cX3_start 89 = .ok (.getfield 9, 3) := by decide +kernel
theorem dX3_start_92 : decode cX3_start 92 = .ok (.iload 4, 2) := by decide +kernel
theorem dX3_start_94 : decode cX3_start 94 = .ok (.iconst 1, 1) := by decide +kernel
theorem dX3_start_95 : decode cX3_start 95 = .ok (.invokestatic 28, 3) := by decide +kernel
theorem dX3_start_98 : decode cX3_start 98 = .ok (.iload_n 3, 1) := by decide +kernel
theorem dX3_start_99 : decode cX3_start 99 = .ok (.invokevirtual 59, 3) := by decide +kernel
theorem dX3_start_102 : decode cX3_start 102 = .ok (.aload_n 0, 1) := by decide +kernel
theorem dX3_start_103 : decode cX3_start 103 = .ok (.getfield 9, 3) := by decide +kernel
theorem dX3_start_106 : decode cX3_start 106 = .ok (.iload 4, 2) := by decide +kernel
theorem dX3_start_108 : decode cX3_start 108 = .ok (.iconst 2, 1) := by decide +kernel
theorem dX3_start_109 : decode cX3_start 109 = .ok (.invokestatic 28, 3) := by decide +kernel
theorem dX3_start_112 : decode cX3_start 112 = .ok (.iload_n 1, 1) := by decide +kernel
theorem dX3_start_113 : decode cX3_start 113 = .ok (.invokevirtual 59, 3) := by decide +kernel
theorem dX3_start_116 : decode cX3_start 116 = .ok (.aload_n 0, 1) := by decide +kernel
theorem dX3_start_117 : decode cX3_start 117 = .ok (.getfield 9, 3) := by decide +kernel
theorem dX3_start_120 : decode cX3_start 120 = .ok (.iload 4, 2) := by decide +kernel
theorem dX3_start_122 : decode cX3_start 122 = .ok (.iconst 3, 1) := by decide +kernel
theorem dX3_start_123 : decode cX3_start 123 = .ok (.invokestatic 28, 3) := by decide +kernel
theorem dX3_start_126 : decode cX3_start 126 = .ok (.iconst 0, 1) := by decide +kernel
theorem dX3_start_127 : decode cX3_start 127 = .ok (.invokevirtual 59, 3) := by decide +kernel
theorem dX3_start_130 : decode cX3_start 130 = .ok (.aload_n 0, 1) := by decide +kernel
theorem dX3_start_131 : decode cX3_start 131 = .ok (.getfield 9, 3) := by decide +kernel
theorem dX3_start_134 : decode cX3_start 134 = .ok (.iload 4, 2) := by decide +kernel
theorem dX3_start_136 : decode cX3_start 136 = .ok (.iconst 4, 1) := by decide +kernel
theorem dX3_start_137 : decode cX3_start 137 = .ok (.invokestatic 28, 3) := by decide +kernel
theorem dX3_start_140 : decode cX3_start 140 = .ok (.iconst 0, 1) := by decide +kernel
theorem dX3_start_141 : decode cX3_start 141 = .ok (.invokevirtual 59, 3) := by decide +kernel
theorem dX3_start_144 : decode cX3_start 144 = .ok (.iconst 0, 1) := by decide +kernel
theorem dX3_start_145 : decode cX3_start 145 = .ok (.istore 5, 2) := by decide +kernel
theorem dX3_start_147 : decode cX3_start 147 = .ok (.iload 5, 2) := by decide +kernel
theorem dX3_start_149 : decode cX3_start 149 = .ok (.bipush 16, 2) := by decide +kernel
theorem dX3_start_151 : decode cX3_start 151 = .ok (.if_icmp .ge 26, 3) := by decide +kernel
theorem dX3_start_154 : decode cX3_start 154 = .ok (.aload_n 0, 1) := by decide +kernel
theorem dX3_start_155 : decode cX3_start 155 = .ok (.getfield 9, 3) := by decide +kernel
theorem dX3_start_158 : decode cX3_start 158 = .ok (.iload 4, 2) := by decide +kernel
theorem dX3_start_160 : decode cX3_start 160 = .ok (.iconst 5, 1) := by decide +kernel
theorem dX3_start_161 : decode cX3_start 161 = .ok (.iload 5, 2) := by decide +kernel
theorem dX3_start_163 : decode cX3_start 163 = .ok (.iadd, 1) := by decide +kernel
theorem dX3_start_164 : decode cX3_start 164 = .ok (.invokestatic 28, 3) := by decide +kernel
theorem dX3_start_167 : decode cX3_start 167 = .ok (.iconst 0, 1) := by decide +kernel
theorem dX3_start_168 : decode cX3_start 168 = .ok (.invokevirtual 59, 3) := by decide +kernel
theorem dX3_start_171 : decode cX3_start 171 = .ok (.iinc 5 1, 3) := by decide +kernel
theorem dX3_start_174 : decode cX3_start 174 = .ok (.goto (-27), 3) := by decide +kernel
theorem dX3_start_177 : decode cX3_start 177 = .ok (.return_, 1) := by decide +kernel
theorem kSX3_start : yX3_start.cls ≠ "java/lang/invoke/MethodHandle" ∧ yX3_start.cls ≠ "java/lang/invoke/VarHandle" ∧ (parseMethodDescriptor yX3_start.desc).map (fun d => d.parameters.length) = some 4 := by decide +kernel
theorem kVX3_start : yX3_start.cls = RX3 ∧ yX3_start.cls ≠ "java/lang/invoke/MethodHandle" ∧ yX3_start.cls ≠ "java/lang/invoke/VarHandle" ∧ (parseMethodDescriptor yX3_start.desc).map (fun d => d.parameters.length) = some 4 := ⟨rfl, kSX3_start⟩
theorem dX3_turnOver_0 : decode cX3_turnOver 0 = .ok (.aload_n 0, 1) := by decide +kernel
theorem dX3_turnOver_1 : decode cX3_turnOver 1 = .ok (.iload_n 2, 1) := by decide +kernel
theorem dX3_turnOver_2 : decode cX3_turnOver 2 = .ok (.invokevirtual 41, 3) := by decide +kernel
theorem dX3_turnOver_5 : decode cX3_turnOver 5 = .ok (.ifCond .ne 12, 3) := by decide +kernel
theorem dX3_turnOver_8 : decode cX3_turnOver 8 = .ok (.aload_n 0, 1) := by decide +kernel
theorem dX3_turnOver_9 : decode cX3_turnOver 9 = .ok (.iload_n 2, 1) := by decide +kernel
theorem dX3_turnOver_10 : decode cX3_turnOver 10 = .ok (.iconst 2, 1) := by decide +kernel
theorem dX3_turnOver_11 : decode cX3_turnOver 11 = .ok (.invokevirtual 38, 3) := by decide +kernel
theorem dX3_turnOver_14 : decode cX3_turnOver 14 = .ok (.ifCond .le 4, 3) := by decide +kernel
theorem dX3_turnOver_17 : decode cX3_turnOver 17 = .ok (.return_, 1) := by decide +kernel
theorem dX3_turnOver_18 : decode cX3_turnOver 18 = .ok (.aload_n 0, 1) := by decide +kernel
theorem dX3_turnOver_19 : decode cX3_turnOver 19 = .ok (.iload_n 2, 1) := by decide +kernel
theorem dX3_turnOver_20 : decode cX3_turnOver 20 = .ok (.iconst 3, 1) := by decide +kernel
theorem dX3_turnOver_21 : decode cX3_turnOver 21 = .ok (.invokevirtual 38, 3) := by decide +kernel
theorem dX3_turnOver_24 : decode cX3_turnOver 24 = .ok (.ifCond .ne 42, 3) := by decide +kernel
theorem dX3_turnOver_27 : decode cX3_turnOver 27 = .ok (.aload_n 1, 1) := by decide +kernel
theorem dX3_turnOver_28 : decode cX3_turnOver 28 = .ok (.getfield 68, 3) := by decide +kernel
theorem dX3_turnOver_31 : decode cX3_turnOver 31 = .ok (.ifCond .le 35, 3) := by decide +kernel
theorem dX3_turnOver_34 : decode cX3_turnOver 34 = .ok (.aload_n 0, 1) := by decide +kernel
theorem dX3_turnOver_35 : decode cX3_turnOver 35 = .ok (.getfield 9, 3) := by decide +kernel
theorem dX3_turnOver_38 : decode cX3_turnOver 38 = .ok (.iload_n 2, 1) := by decide +kernel
theorem dX3_turnOver_39 : decode cX3_turnOver 39 = .ok (.iconst 3, 1) := by decide +kernel
theorem dX3_turnOver_40 : decode cX3_turnOver 40 = .ok (.invokestatic 28, 3) := by decide +kernel
theorem dX3_turnOver_43 : decode cX3_turnOver 43 = .ok (.iconst 1, 1) := by decide +kernel
theorem dX3_turnOver_44 : decode cX3_turnOver 44 = .ok (.invokevirtual 59, 3) := by decide +kernel
theorem dX3_turnOver_47 : decode cX3_turnOver 47 = .ok (.aload_n 0, 1) := by decide +kernel
theorem dX3_turnOver_48 : decode cX3_turnOver 48 = .ok (.getfield 9, 3) := by decide +kernel
theorem dX3_turnOver_51 : decode cX3_turnOver 51 = .ok (.iload_n 2, 1) := by decide +kernel
theorem dX3_turnOver_52 : decode cX3_turnOver 52 = .ok (.iconst 2, 1) := by decide +kernel
theorem dX3_turnOver_53 : decode cX3_turnOver 53 = .ok (.invokestatic 28, 3) := by decide +kernel
theorem dX3_turnOver_56 : decode cX3_turnOver 56 = .ok (.aload_n 1, 1) := by decide +kernel
theorem dX3_turnOver_57 : decode cX3_turnOver 57 = .ok (.getfield 68, 3) := by decide +kernel
theorem dX3_turnOver_60 : decode cX3_turnOver 60 = .ok (.invokevirtual 59, 3) := by decide +kernel
theorem dX3_turnOver_63 : decode cX3_turnOver 63 = .ok (.goto 16, 3) := by decide +kernel
theorem dX3_turnOver_66 : decode cX3_turnOver 66 = .ok (.aload_n 0, 1) := by decide +kernel
theorem dX3_turnOver_67 : decode cX3_turnOver 67 = .ok (.getfield 9, 3) := by decide +kernel
theorem dX3_turnOver_70 : decode cX3_turnOver 70 = .ok (.iload_n 2, 1) := by decide +kernel
theorem dX3_turnOver_71 : decode cX3_turnOver 71 = .ok (.iconst 4, 1) := by decide +kernel
theorem dX3_turnOver_72 : decode cX3_turnOver 72 = .ok (.invokestatic 28, 3) := by decide +kernel
theorem dX3_turnOver_75 : decode cX3_turnOver 75 = .ok (.iconst 1, 1) := by decide +kernel
theorem dX3_turnOver_76 : decode cX3_turnOver 76 = .ok (.invokevirtual 59, 3) := by decide +kernel
theorem dX3_turnOver_79 : decode cX3_turnOver 79 = .ok (.return_, 1) := by decide +kernel
theorem kSX3_turnOver : yX3_turnOver.cls ≠ "java/lang/invoke/MethodHandle" ∧ yX3_turnOver.cls ≠ "java/lang/invoke/VarHandle" ∧ (parseMethodDescriptor yX3_turnOver.desc).map (fun d => d.parameters.length) = some 2 := by decide +kernel
theorem kVX3_turnOver : yX3_turnOver.cls = RX3 ∧ yX3_turnOver.cls ≠ "java/lang/invoke/MethodHandle" ∧ yX3_turnOver.cls ≠ "java/lang/invoke/VarHandle" ∧ (parseMethodDescriptor yX3_turnOver.desc).map (fun d => d.parameters.length) = some 2 := ⟨rfl, kSX3_turnOver⟩
theorem dX3_giveSign_0 : decode cX3_giveSign 0 = .ok (.aload_n 0, 1) := by decide +kernel
theorem dX3_giveSign_1 : decode cX3_giveSign 1 = .ok (.iload_n 1, 1) := by decide +kernel
theorem dX3_giveSign_2 : decode cX3_giveSign 2 = .ok (.iload_n 2, 1) := by decide +kernel
theorem dX3_giveSign_3 : decode cX3_giveSign 3 = .ok (.iload_n 3, 1) := by decide +kernel
theorem dX3_giveSign_4 : decode cX3_giveSign 4 = .ok (.invokevirtual 72, 3) := by decide +kernel
theorem dX3_giveSign_7 : decode cX3_giveSign 7 = .ok (.istore 4, 2) := by decide +kernel
theorem dX3_giveSign_9 : decode cX3_giveSign 9 = .ok (.iload_n 1, 1) := by decide +kernel
theorem dX3_giveSign_10 : decode cX3_giveSign 10 = .ok (.iconst 5, 1) := by decide +kernel
theorem dX3_giveSign_11 : decode cX3_giveSign 11 = .ok (.iload_n 2, 1) := by decide +kernel
theorem dX3_giveSign_12 : decode cX3_giveSign 12 = .ok (.bipush 8, 2) := by decide +kernel
theorem dX3_giveSign_14 : decode cX3_giveSign 14 = .ok (.imul, 1) := by decide +kernel
theorem dX3_giveSign_15 : decode cX3_giveSign 15 = .ok (.iadd, 1) := by decide +kernel
theorem dX3_giveSign_16 : decode cX3_giveSign 16 = .ok (.iload_n 3, 1) := by decide +kernel
theorem dX3_giveSign_17 : decode cX3_giveSign 17 = .ok (.iadd, 1) := by decide +kernel
theorem dX3_giveSign_18 : decode cX3_giveSign 18 = .ok (.invokestatic 28, 3) := by decide +kernel
theorem dX3_giveSign_21 : decode cX3_giveSign 21 = .ok (.istore 5, 2) := by decide +kernel
theorem dX3_giveSign_23 : decode cX3_giveSign 23 = .ok (.aload_n 0, 1) := by decide +kernel
theorem dX3_giveSign_24 : decode cX3_giveSign 24 = .ok (.getfield 9, 3) := by decide +kernel
theorem dX3_giveSign_27 : decode cX3_giveSign 27 = .ok (.iload 5, 2) := by decide +kernel
theorem dX3_giveSign_29 : decode cX3_giveSign 29 = .ok (.iload 4, 2) := by decide +kernel
theorem dX3_giveSign_31 : decode cX3_giveSign 31 = .ok (.iconst 1, 1) := by decide +kernel
theorem dX3_giveSign_32 : decode cX3_giveSign 32 = .ok (.iadd, 1) := by decide +kernel
theorem dX3_giveSign_33 : decode cX3_giveSign 33 = .ok (.bipush 99, 2) := by decide +kernel
theorem dX3_giveSign_35 : decode cX3_giveSign 35 = .ok (.invokestatic 75, 3) := by decide +kernel
theorem dX3_giveSign_38 : decode cX3_giveSign 38 = .ok (.invokevirtual 59, 3) := by decide +kernel
theorem dX3_giveSign_41 : decode cX3_giveSign 41 = .ok (.return_, 1) := by decide +kernel
theorem kSX3_giveSign : yX3_giveSign.cls ≠ "java/lang/invoke/MethodHandle" ∧ yX3_giveSign.cls ≠ "java/lang/invoke/VarHandle" ∧ (parseMethodDescriptor yX3_giveSign.desc).map (fun d => d.parameters.length) = some 3 := by decide +kernel
theorem kVX3_giveSign : yX3_giveSign.cls = RX3 ∧ yX3_giveSign.cls ≠ "java/lang/invoke/MethodHandle" ∧ yX3_giveSign.cls ≠ "java/lang/invoke/VarHandle" ∧ (parseMethodDescriptor yX3_giveSign.desc).map (fun d => d.parameters.length) = some 3 := ⟨rfl, kSX3_giveSign⟩
theorem dX3_letPass_0 : decode cX3_letPass 0 = .ok (.aload_n 0, 1) := by decide +kernel
theorem dX3_letPass_1 : decode cX3_letPass 1 = .ok (.getfield 9, 3) := by decide +kernel
theorem dX3_letPass_4 : decode cX3_letPass 4 = .ok (.iload_n 1, 1) := by decide +kernel
theorem dX3_letPass_5 : decode cX3_letPass 5 = .ok (.iconst 2, 1) := by decide +kernel
theorem dX3_letPass_6 : decode cX3_letPass 6 = .ok (.invokestatic 28, 3) := by decide +kernel
theorem dX3_letPass_9 : decode cX3_letPass 9 = .ok (.aload_n 0, 1) := by decide +kernel
theorem dX3_letPass_10 : decode cX3_letPass 10 = .ok (.iload_n 1, 1) := by decide +kernel
theorem dX3_letPass_11 : decode cX3_letPass 11 = .ok (.iconst 2, 1) := by decide +kernel
theorem dX3_letPass_12 : decode cX3_letPass 12 = .ok (.invokevirtual 38, 3) := by decide +kernel
theorem dX3_letPass_15 : decode cX3_letPass 15 = .ok (.iload_n 2, 1) := by decide +kernel
theorem dX3_letPass_16 : decode cX3_letPass 16 = .ok (.isub, 1) := by decide +kernel
theorem dX3_letPass_17 : decode cX3_letPass 17 = .ok (.invokevirtual 59, 3) := by decide +kernel
theorem dX3_letPass_20 : decode cX3_letPass 20 = .ok (.return_, 1) := by decide +kernel
theorem kSX3_letPass : yX3_letPass.cls ≠ "java/lang/invoke/MethodHandle" ∧ yX3_letPass.cls ≠ "java/lang/invoke/VarHandle" ∧ (parseMethodDescriptor yX3_letPass.desc).map (fun d => d.parameters.length) = some 2 := by decide +kernel
theorem kVX3_letPass : yX3_letPass.cls = RX3 ∧ yX3_letPass.cls ≠ "java/lang/invoke/MethodHandle" ∧ yX3_letPass.cls ≠ "java/lang/invoke/VarHandle" ∧ (parseMethodDescriptor yX3_letPass.desc).map (fun d => d.parameters.length) = some 2 := ⟨rfl, kSX3_letPass⟩
theorem dX3_ask_0 : decode cX3_ask 0 = .ok (.iconst 0, 1) := by decide +kernel
theorem dX3_ask_1 : decode cX3_ask 1 = .ok (.istore_n 3, 1) := by decide +kernel
theorem dX3_ask_2 : decode cX3_ask 2 = .ok (.iload_n 3, 1) := by decide +kernel
theorem dX3_ask_3 : decode cX3_ask 3 = .ok (.aload_n 1, 1) := by decide +kernel
theorem dX3_ask_4 : decode cX3_ask 4 = .ok (.getfield 80, 3) := by decide +kernel
theorem dX3_ask_7 : decode cX3_ask 7 = .ok (.if_icmp .ge 55, 3) := by decide +kernel
theorem dX3_ask_10 : decode cX3_ask 10 = .ok (.iconst 0, 1) := by decide +kernel
theorem dX3_ask_11 : decode cX3_ask 11 = .ok (.istore 4, 2) := by decide +kernel
theorem dX3_ask_13 : decode cX3_ask 13 = .ok (.iload 4, 2) := by decide +kernel
theorem dX3_ask_15 : decode cX3_ask 15 = .ok (.iconst 2, 1) := by decide +kernel
theorem dX3_ask_16 : decode cX3_ask 16 = .ok (.if_icmp .ge 40, 3) := by decide +kernel
theorem dX3_ask_19 : decode cX3_ask 19 = .ok (.aload_n 0, 1) := by decide +kernel
theorem dX3_ask_20 : decode cX3_ask 20 = .ok (.aload_n 1, 1) := by decide +kernel
theorem dX3_ask_21 : decode cX3_ask 21 = .ok (.iload_n 3, 1) := by decide +kernel
theorem dX3_ask_22 : decode cX3_ask 22 = .ok (.iload_n 2, 1) := by decide +kernel
theorem dX3_ask_23 : decode cX3_ask 23 = .ok (.iload 4, 2) := by decide +kernel
theorem dX3_ask_25 : decode cX3_ask 25 = .ok (.invokevirtual 83, 3) := by decide +kernel
theorem dX3_ask_28 : decode cX3_ask 28 = .ok (.ifCond .eq 22, 3) := by decide +kernel
theorem dX3_ask_31 : decode cX3_ask 31 = .ok (.aload_n 0, 1) := by decide +kernel
theorem dX3_ask_32 : decode cX3_ask 32 = .ok (.iload_n 2, 1) := by decide +kernel
theorem dX3_ask_33 : decode cX3_ask 33 = .ok (.iload 4, 2) := by decide +kernel
theorem dX3_ask_35 : decode cX3_ask 35 = .ok (.iload_n 3, 1) := by decide +kernel
theorem dX3_ask_36 : decode cX3_ask 36 = .ok (.aload_n 1, 1) := by decide +kernel
theorem dX3_ask_37 : decode cX3_ask 37 = .ok (.getfield 87, 3) := by decide +kernel
theorem dX3_ask_40 : decode cX3_ask 40 = .ok (.iload_n 3, 1) := by decide +kernel
theorem dX3_ask_41 : decode cX3_ask 41 = .ok (.invokevirtual 90, 3) := by decide +kernel
theorem dX3_ask_44 : decode cX3_ask 44 = .ok (.invokevirtual 93, 3) := by decide +kernel
theorem dX3_ask_47 : decode cX3_ask 47 = .ok (.pop, 1) := by decide +kernel
theorem dX3_ask_48 : decode cX3_ask 48 = .ok (.iload_n 3, 1) := by decide +kernel
theorem dX3_ask_49 : decode cX3_ask 49 = .ok (.ireturn, 1) := by decide +kernel
theorem dX3_ask_50 : decode cX3_ask 50 = .ok (.iinc 4 1, 3) := by decide +kernel
theorem dX3_ask_53 : decode cX3_ask 53 = .ok (.goto (-40), 3) := by decide +kernel
theorem dX3_ask_56 : decode cX3_ask 56 = .ok (.iinc 3 1, 3) := by decide +kernel
theorem dX3_ask_59 : decode cX3_ask 59 = .ok (.goto (-57), 3) := by decide +kernel
theorem dX3_ask_62 : decode cX3_ask 62 = .ok (.iconst (-1), 1) := by decide +kernel
theorem dX3_ask_63 : decode cX3_ask 63 = .ok (.ireturn, 1) := by decide +kernel
theorem kSX3_ask : yX3_ask.cls ≠ "java/lang/invoke/MethodHandle" ∧ yX3_ask.cls ≠ "java/lang/invoke/VarHandle" ∧ (parseMethodDescriptor yX3_ask.desc).map (fun d => d.parameters.length) = some 2 := by decide +kernel
theorem kVX3_ask : yX3_ask.cls = RX3 ∧ yX3_ask.cls ≠ "java/lang/invoke/MethodHandle" ∧ yX3_ask.cls ≠ "java/lang/invoke/VarHandle" ∧ (parseMethodDescriptor yX3_ask.desc).map (fun d => d.parameters.length) = some 2 := ⟨rfl, kSX3_ask⟩
theorem dX3_holds_0 : decode cX3_holds 0 = .ok (.aload_n 0, 1) := by decide +kernel
theorem dX3_holds_1 : decode cX3_holds 1 = .ok (.iconst 0, 1) := by decide +kernel
theorem dX3_holds_2 : decode cX3_holds 2 = .ok (.putfield 97, 3) := by decide +kernel
theorem dX3_holds_5 : decode cX3_holds 5 = .ok (.aload_n 1, 1) := by decide +kernel
theorem dX3_holds_6 : decode cX3_holds 6 = .ok (.iload_n 2, 1) := by decide +kernel
theorem dX3_holds_7 : decode cX3_holds 7 = .ok (.invokevirtual 100, 3) := by decide +kernel
theorem dX3_holds_10 : decode cX3_holds 10 = .ok (.istore 5, 2) := by decide +kernel
theorem dX3_holds_12 : decode cX3_holds 12 = .ok (.iload 5, 2) := by decide +kernel
theorem dX3_holds_14 : decode cX3_holds 14 = .ok (.aload_n 1, 1) := by decide +kernel
theorem dX3_holds_15 : decode cX3_holds 15 = .ok (.getfield 103, 3) := by decide +kernel
theorem dX3_holds_18 : decode cX3_holds 18 = .ok (.iload_n 2, 1) := by decide +kernel
theorem dX3_holds_19 : decode cX3_holds 19 = .ok (.invokevirtual 90, 3) := by decide +kernel
theorem dX3_holds_22 : decode cX3_holds 22 = .ok (.if_icmp .ge 105, 3) := by decide +kernel
theorem dX3_holds_25 : decode cX3_holds 25 = .ok (.aload_n 1, 1) := by decide +kernel
theorem dX3_holds_26 : decode cX3_holds 26 = .ok (.iload 5, 2) := by decide +kernel
theorem dX3_holds_28 : decode cX3_holds 28 = .ok (.invokevirtual 106, 3) := by decide +kernel
theorem dX3_holds_31 : decode cX3_holds 31 = .ok (.istore 6, 2) := by decide +kernel
theorem dX3_holds_33 : decode cX3_holds 33 = .ok (.iload 6, 2) := by decide +kernel
theorem dX3_holds_35 : decode cX3_holds 35 = .ok (.bipush 11, 2) := by decide +kernel
theorem dX3_holds_37 : decode cX3_holds 37 = .ok (.if_icmp .ne 16, 3) := by decide +kernel
theorem dX3_holds_40 : decode cX3_holds 40 = .ok (.aload_n 0, 1) := by decide +kernel
theorem dX3_holds_41 : decode cX3_holds 41 = .ok (.iconst 1, 1) := by decide +kernel
theorem dX3_holds_42 : decode cX3_holds 42 = .ok (.aload_n 0, 1) := by decide +kernel
theorem dX3_holds_43 : decode cX3_holds 43 = .ok (.invokevirtual 111, 3) := by decide +kernel
theorem dX3_holds_46 : decode cX3_holds 46 = .ok (.isub, 1) := by decide +kernel
theorem dX3_holds_47 : decode cX3_holds 47 = .ok (.invokevirtual 115, 3) := by decide +kernel
theorem dX3_holds_50 : decode cX3_holds 50 = .ok (.goto 71, 3) := by decide +kernel
theorem dX3_holds_53 : decode cX3_holds 53 = .ok (.iload 6, 2) := by decide +kernel
theorem dX3_holds_55 : decode cX3_holds 55 = .ok (.bipush 10, 2) := by decide +kernel
theorem dX3_holds_57 : decode cX3_holds 57 = .ok (.if_icmp .eq 17, 3) := by decide +kernel
theorem dX3_holds_60 : decode cX3_holds 60 = .ok (.iload 6, 2) := by decide +kernel
theorem dX3_holds_62 : decode cX3_holds 62 = .ok (.bipush 9, 2) := by decide +kernel
theorem dX3_holds_64 : decode cX3_holds 64 = .ok (.if_icmp .eq 10, 3) := by decide +kernel
theorem dX3_holds_67 : decode cX3_holds 67 = .ok (.iload 6, 2) := by decide +kernel
theorem dX3_holds_69 : decode cX3_holds 69 = .ok (.bipush 20, 2) := by decide +kernel
theorem dX3_holds_71 : decode cX3_holds 71 = .ok (.if_icmp .lt 31, 3) := by decide +kernel
theorem dX3_holds_74 : decode cX3_holds 74 = .ok (.aload_n 0, 1) := by decide +kernel
theorem dX3_holds_75 : decode cX3_holds 75 = .ok (.invokevirtual 111, 3) := by decide +kernel
theorem dX3_holds_78 : decode cX3_holds 78 = .ok (.istore 7, 2) := by decide +kernel
theorem dX3_holds_80 : decode cX3_holds 80 = .ok (.aload_n 0, 1) := by decide +kernel
theorem dX3_holds_81 : decode cX3_holds 81 = .ok (.invokevirtual 111, 3) := by decide +kernel
theorem dX3_holds_84 : decode cX3_holds 84 = .ok (.istore 8, 2) := by decide +kernel
theorem dX3_holds_86 : decode cX3_holds 86 = .ok (.aload_n 0, 1) := by decide +kernel
theorem dX3_holds_87 : decode cX3_holds 87 = .ok (.iload 6, 2) := by decide +kernel
theorem dX3_holds_89 : decode cX3_holds 89 = .ok (.iload 8, 2) := by decide +kernel
theorem dX3_holds_91 : decode cX3_holds 91 = .ok (.iload 7, 2) := by decide +kernel
theorem dX3_holds_93 : decode cX3_holds 93 = .ok (.invokestatic 119, 3) := by decide +kernel
theorem dX3_holds_96 : decode cX3_holds 96 = .ok (.invokevirtual 115, 3) := by decide +kernel
theorem dX3_holds_99 : decode cX3_holds 99 = .ok (.goto 22, 3) := by decide +kernel
theorem dX3_holds_102 : decode cX3_holds 102 = .ok (.aload_n 0, 1) := by decide +kernel
theorem dX3_holds_103 : decode cX3_holds 103 = .ok (.aload_n 0, 1) := by decide +kernel
theorem dX3_holds_104 : decode cX3_holds 104 = .ok (.iload 6, 2) := by decide +kernel
theorem dX3_holds_106 : decode cX3_holds 106 = .ok (.aload_n 1, 1) := by decide +kernel
theorem dX3_holds_107 : decode cX3_holds 107 = .ok (.iload 5, 2) := by decide +kernel
theorem dX3_holds_109 : decode cX3_holds 109 = .ok (.invokevirtual 122, 3) := by decide +kernel
theorem dX3_holds_112 : decode cX3_holds 112 = .ok (.iload_n 3, 1) := by decide +kernel
theorem dX3_holds_113 : decode cX3_holds 113 = .ok (.iload 4, 2) := by decide +kernel
theorem dX3_holds_115 : decode cX3_holds 115 = .ok (.invokevirtual 125, 3) := by decide +kernel
theorem dX3_holds_118 : decode cX3_holds 118 = .ok (.invokevirtual 115, 3) := by decide +kernel
theorem dX3_holds_121 : decode cX3_holds 121 = .ok (.iinc 5 1, 3) := by decide +kernel
theorem dX3_holds_124 : decode cX3_holds 124 = .ok (.goto (-112), 3) := by decide +kernel
theorem dX3_holds_127 : decode cX3_holds 127 = .ok (.aload_n 0, 1) := by decide +kernel
theorem dX3_holds_128 : decode cX3_holds 128 = .ok (.invokevirtual 111, 3) := by decide +kernel
theorem dX3_holds_131 : decode cX3_holds 131 = .ok (.iconst 1, 1) := by decide +kernel
theorem dX3_holds_132 : decode cX3_holds 132 = .ok (.if_icmp .ne 7, 3) := by decide +kernel
theorem dX3_holds_135 : decode cX3_holds 135 = .ok (.iconst 1, 1) := by decide +kernel
theorem dX3_holds_136 : decode cX3_holds 136 = .ok (.goto 4, 3) := by decide +kernel
theorem dX3_holds_139 : decode cX3_holds 139 = .ok (.iconst 0, 1) := by decide +kernel
theorem dX3_holds_140 : decode cX3_holds 140 = .ok (.ireturn, 1) := by decide +kernel
theorem kSX3_holds : yX3_holds.cls ≠ "java/lang/invoke/MethodHandle" ∧ yX3_holds.cls ≠ "java/lang/invoke/VarHandle" ∧ (parseMethodDescriptor yX3_holds.desc).map (fun d => d.parameters.length) = some 4 := by decide +kernel
theorem kVX3_holds : yX3_holds.cls = RX3 ∧ yX3_holds.cls ≠ "java/lang/invoke/MethodHandle" ∧ yX3_holds.cls ≠ "java/lang/invoke/VarHandle" ∧ (parseMethodDescriptor yX3_holds.desc).map (fun d => d.parameters.length) = some 4 := ⟨rfl, kSX3_holds⟩
theorem dX3_push_0 : decode cX3_push 0 = .ok (.aload_n 0, 1) := by decide +kernel
theorem dX3_push_1 : decode cX3_push 1 = .ok (.getfield 24, 3) := by decide +kernel
theorem dX3_push_4 : decode cX3_push 4 = .ok (.aload_n 0, 1) := by decide +kernel
theorem dX3_push_5 : decode cX3_push 5 = .ok (.getfield 97, 3) := by decide +kernel
theorem dX3_push_8 : decode cX3_push 8 = .ok (.iload_n 1, 1) := by decide +kernel
theorem dX3_push_9 : decode cX3_push 9 = .ok (.invokevirtual 128, 3) := by decide +kernel
theorem dX3_push_12 : decode cX3_push 12 = .ok (.aload_n 0, 1) := by decide +kernel
theorem dX3_push_13 : decode cX3_push 13 = .ok (.dup, 1) := by decide +kernel
theorem dX3_push_14 : decode cX3_push 14 = .ok (.getfield 97, 3) := by decide +kernel
theorem dX3_push_17 : decode cX3_push 17 = .ok (.iconst 1, 1) := by decide +kernel
theorem dX3_push_18 : decode cX3_push 18 = .ok (.iadd, 1) := by decide +kernel
theorem dX3_push_19 : decode cX3_push 19 = .ok (.putfield 97, 3) := by decide +kernel
theorem dX3_push_22 : decode cX3_push 22 = .ok (.return_, 1) := by decide +kernel
theorem kSX3_push : yX3_push.cls ≠ "java/lang/invoke/MethodHandle" ∧ yX3_push.cls ≠ "java/lang/invoke/VarHandle" ∧ (parseMethodDescriptor yX3_push.desc).map (fun d => d.parameters.length) = some 1 := by decide +kernel
theorem kVX3_push : yX3_push.cls = RX3 ∧ yX3_push.cls ≠ "java/lang/invoke/MethodHandle" ∧ yX3_push.cls ≠ "java/lang/invoke/VarHandle" ∧ (parseMethodDescriptor yX3_push.desc).map (fun d => d.parameters.length) = some 1 := ⟨rfl, kSX3_push⟩
theorem dX3_pop_0 : decode cX3_pop 0 = .ok (.aload_n 0, 1) := by decide +kernel
theorem dX3_pop_1 : decode cX3_pop 1 = .ok (.aload_n 0, 1) := by decide +kernel
theorem dX3_pop_2 : decode cX3_pop 2 = .ok (.getfield 97, 3) := by decide +kernel
theorem dX3_pop_5 : decode cX3_pop 5 = .ok (.iconst 1, 1) := by decide +kernel
theorem dX3_pop_6 : decode cX3_pop 6 = .ok (.isub, 1) := by decide +kernel
theorem dX3_pop_7 : decode cX3_pop 7 = .ok (.iconst 0, 1) := by decide +kernel
theorem dX3_pop_8 : decode cX3_pop 8 = .ok (.invokestatic 131, 3) := by decide +kernel
theorem dX3_pop_11 : decode cX3_pop 11 = .ok (.putfield 97, 3) := by decide +kernel
theorem dX3_pop_14 : decode cX3_pop 14 = .ok (.aload_n 0, 1) := by decide +kernel
theorem dX3_pop_15 : decode cX3_pop 15 = .ok (.getfield 24, 3) := by decide +kernel
theorem dX3_pop_18 : decode cX3_pop 18 = .ok (.aload_n 0, 1) := by decide +kernel
theorem dX3_pop_19 : decode cX3_pop 19 = .ok (.getfield 97, 3) := by decide +kernel
theorem dX3_pop_22 : decode cX3_pop 22 = .ok (.invokevirtual 90, 3) := by decide +kernel
theorem dX3_pop_25 : decode cX3_pop 25 = .ok (.ireturn, 1) := by decide +kernel
theorem kSX3_pop : yX3_pop.cls ≠ "java/lang/invoke/MethodHandle" ∧ yX3_pop.cls ≠ "java/lang/invoke/VarHandle" ∧ (parseMethodDescriptor yX3_pop.desc).map (fun d => d.parameters.length) = some 0 := by decide +kernel
theorem kVX3_pop : yX3_pop.cls = RX3 ∧ yX3_pop.cls ≠ "java/lang/invoke/MethodHandle" ∧ yX3_pop.cls ≠ "java/lang/invoke/VarHandle" ∧ (parseMethodDescriptor yX3_pop.desc).map (fun d => d.parameters.length) = some 0 := ⟨rfl, kSX3_pop⟩
theorem dX3_valueOf_0 : decode cX3_valueOf 0 = .ok (.iload_n 1, 1) := by decide +kernel
theorem dX3_valueOf_1 : decode cX3_valueOf 1 = .ok (.tableswitch 94 12 16 #[69, 62, 35, 44, 55], 35) := by decide +kernel
theorem dX3_valueOf_36 : decode cX3_valueOf 36 = .ok (.aload_n 0, 1) := by decide +kernel
theorem dX3_valueOf_37 : decode cX3_valueOf 37 = .ok (.iload_n 3, 1) := by decide +kernel
theorem dX3_valueOf_38 : decode cX3_valueOf 38 = .ok (.iload 4, 2) := by decide +kernel
theorem dX3_valueOf_40 : decode cX3_valueOf 40 = .ok (.iload_n 2, 1) := by decide +kernel
theorem dX3_valueOf_41 : decode cX3_valueOf 41 = .ok (.invokevirtual 72, 3) := by decide +kernel
theorem dX3_valueOf_44 : decode cX3_valueOf 44 = .ok (.ireturn, 1) := by decide +kernel
theorem dX3_valueOf_45 : decode cX3_valueOf 45 = .ok (.aload_n 0, 1) := by decide +kernel
theorem dX3_valueOf_46 : decode cX3_valueOf 46 = .ok (.iload_n 3, 1) := by decide +kernel
theorem dX3_valueOf_47 : decode cX3_valueOf 47 = .ok (.iconst 1, 1) := by decide +kernel
theorem dX3_valueOf_48 : decode cX3_valueOf 48 = .ok (.iload 4, 2) := by decide +kernel
theorem dX3_valueOf_50 : decode cX3_valueOf 50 = .ok (.isub, 1) := by decide +kernel
theorem dX3_valueOf_51 : decode cX3_valueOf 51 = .ok (.iload_n 2, 1) := by decide +kernel
theorem dX3_valueOf_52 : decode cX3_valueOf 52 = .ok (.invokevirtual 72, 3) := by decide +kernel
theorem dX3_valueOf_55 : decode cX3_valueOf 55 = .ok (.ireturn, 1) := by decide +kernel
theorem dX3_valueOf_56 : decode cX3_valueOf 56 = .ok (.aload_n 0, 1) := by decide +kernel
theorem dX3_valueOf_57 : decode cX3_valueOf 57 = .ok (.iload_n 3, 1) := by decide +kernel
theorem dX3_valueOf_58 : decode cX3_valueOf 58 = .ok (.iconst 2, 1) := by decide +kernel
theorem dX3_valueOf_59 : decode cX3_valueOf 59 = .ok (.invokevirtual 38, 3) := by decide +kernel
theorem dX3_valueOf_62 : decode cX3_valueOf 62 = .ok (.ireturn, 1) := by decide +kernel
theorem dX3_valueOf_63 : decode cX3_valueOf 63 = .ok (.aload_n 0, 1) := by decide +kernel
theorem dX3_valueOf_64 : decode cX3_valueOf 64 = .ok (.iload_n 3, 1) := by decide +kernel
theorem dX3_valueOf_65 : decode cX3_valueOf 65 = .ok (.iconst 3, 1) := by decide +kernel
theorem dX3_valueOf_66 : decode cX3_valueOf 66 = .ok (.invokevirtual 38, 3) := by decide +kernel
theorem dX3_valueOf_69 : decode cX3_valueOf 69 = .ok (.ireturn, 1) := by decide +kernel
theorem dX3_valueOf_70 : decode cX3_valueOf 70 = .ok (.aload_n 0, 1) := by decide +kernel
theorem dX3_valueOf_71 : decode cX3_valueOf 71 = .ok (.iload_n 3, 1) := by decide +kernel
theorem dX3_valueOf_72 : decode cX3_valueOf 72 = .ok (.iconst 3, 1) := by decide +kernel
theorem dX3_valueOf_73 : decode cX3_valueOf 73 = .ok (.invokevirtual 38, 3) := by decide +kernel
theorem dX3_valueOf_76 : decode cX3_valueOf 76 = .ok (.iconst 1, 1) := by decide +kernel
theorem dX3_valueOf_77 : decode cX3_valueOf 77 = .ok (.if_icmp .eq 12, 3) := by decide +kernel
theorem dX3_valueOf_80 : decode cX3_valueOf 80 = .ok (.aload_n 0, 1) := by decide +kernel
theorem dX3_valueOf_81 : decode cX3_valueOf 81 = .ok (.iload_n 3, 1) := by decide +kernel
theorem dX3_valueOf_82 : decode cX3_valueOf 82 = .ok (.iconst 2, 1) := by decide +kernel
theorem dX3_valueOf_83 : decode cX3_valueOf 83 = .ok (.invokevirtual 38, 3) := by decide +kernel
theorem dX3_valueOf_86 : decode cX3_valueOf 86 = .ok (.ifCond .ne 7, 3) := by decide +kernel
theorem dX3_valueOf_89 : decode cX3_valueOf 89 = .ok (.iconst 1, 1) := by decide +kernel
theorem dX3_valueOf_90 : decode cX3_valueOf 90 = .ok (.goto 4, 3) := by decide +kernel
theorem dX3_valueOf_93 : decode cX3_valueOf 93 = .ok (.iconst 0, 1) := by decide +kernel
theorem dX3_valueOf_94 : decode cX3_valueOf 94 = .ok (.ireturn, 1) := by decide +kernel
theorem dX3_valueOf_95 : decode cX3_valueOf 95 = .ok (.iload_n 2, 1) := by decide +kernel
theorem dX3_valueOf_96 : decode cX3_valueOf 96 = .ok (.ireturn, 1) := by decide +kernel
theorem kSX3_valueOf : yX3_valueOf.cls ≠ "java/lang/invoke/MethodHandle" ∧ yX3_valueOf.cls ≠ "java/lang/invoke/VarHandle" ∧ (parseMethodDescriptor yX3_valueOf.desc).map (fun d => d.parameters.length) = some 4 := by decide +kernel
theorem kVX3_valueOf : yX3_valueOf.cls = RX3 ∧ yX3_valueOf.cls ≠ "java/lang/invoke/MethodHandle" ∧ yX3_valueOf.cls ≠ "java/lang/invoke/VarHandle" ∧ (parseMethodDescriptor yX3_valueOf.desc).map (fun d => d.parameters.length) = some 4 := ⟨rfl, kSX3_valueOf⟩
theorem dX3_workOn_0 : decode cX3_workOn 0 = .ok (.iload_n 0, 1) := by decide +kernel
theorem dX3_workOn_1 : decode cX3_workOn 1 = .ok (.tableswitch 158 9 26 #[99, 95, 158, 158, 158, 158, 158, 158, 158, 158, 158, 87, 91, 103, 114, 125, 136, 147], 87) := by decide +kernel
theorem dX3_workOn_88 : decode cX3_workOn 88 = .ok (.iload_n 1, 1) := by decide +kernel
theorem dX3_workOn_89 : decode cX3_workOn 89 = .ok (.iload_n 2, 1) := by decide +kernel
theorem dX3_workOn_90 : decode cX3_workOn 90 = .ok (.iadd, 1) := by decide +kernel
theorem dX3_workOn_91 : decode cX3_workOn 91 = .ok (.ireturn, 1) := by decide +kernel
theorem dX3_workOn_92 : decode cX3_workOn 92 = .ok (.iload_n 1, 1) := by decide +kernel
theorem dX3_workOn_93 : decode cX3_workOn 93 = .ok (.iload_n 2, 1) := by decide +kernel
theorem dX3_workOn_94 : decode cX3_workOn 94 = .ok (.isub, 1) := by decide +kernel
theorem dX3_workOn_95 : decode cX3_workOn 95 = .ok (.ireturn, 1) := by decide +kernel
theorem dX3_workOn_96 : decode cX3_workOn 96 = .ok (.iload_n 1, 1) := by decide +kernel
theorem dX3_workOn_97 : decode cX3_workOn 97 = .ok (.iload_n 2, 1) := by decide +kernel
theorem dX3_workOn_98 : decode cX3_workOn 98 = .ok (.iand, 1) := by decide +kernel
theorem dX3_workOn_99 : decode cX3_workOn 99 = .ok (.ireturn, 1) := by decide +kernel
theorem dX3_workOn_100 : decode cX3_workOn 100 = .ok (.iload_n 1, 1) := by decide +kernel
theorem dX3_workOn_101 : decode cX3_workOn 101 = .ok (.iload_n 2, 1) := by decide +kernel
theorem dX3_workOn_102 : decode cX3_workOn 102 = .ok (.ior, 1) := by decide +kernel
theorem dX3_workOn_103 : decode cX3_workOn 103 = .ok (.ireturn, 1) := by decide +kernel
theorem dX3_workOn_104 : decode cX3_workOn 104 = .ok (.iload_n 1, 1) := by decide +kernel
theorem dX3_workOn_105 : decode cX3_workOn 105 = .ok (.iload_n 2, 1) := by decide +kernel
theorem dX3_workOn_106 : decode cX3_workOn 106 = .ok (.if_icmp .ge 7, 3) := by decide +kernel
theorem dX3_workOn_109 : decode cX3_workOn 109 = .ok (.iconst 1, 1) := by decide +kernel
theorem dX3_workOn_110 : decode cX3_workOn 110 = .ok (.goto 4, 3) := by decide +kernel
theorem dX3_workOn_113 : decode cX3_workOn 113 = .ok (.iconst 0, 1) := by decide +kernel
theorem dX3_workOn_114 : decode cX3_workOn 114 = .ok (.ireturn, 1) := by decide +kernel
theorem dX3_workOn_115 : decode cX3_workOn 115 = .ok (.iload_n 1, 1) := by decide +kernel
theorem dX3_workOn_116 : decode cX3_workOn 116 = .ok (.iload_n 2, 1) := by decide +kernel
theorem dX3_workOn_117 : decode cX3_workOn 117 = .ok (.if_icmp .gt 7, 3) := by decide +kernel
theorem dX3_workOn_120 : decode cX3_workOn 120 = .ok (.iconst 1, 1) := by decide +kernel
theorem dX3_workOn_121 : decode cX3_workOn 121 = .ok (.goto 4, 3) := by decide +kernel
theorem dX3_workOn_124 : decode cX3_workOn 124 = .ok (.iconst 0, 1) := by decide +kernel
theorem dX3_workOn_125 : decode cX3_workOn 125 = .ok (.ireturn, 1) := by decide +kernel
theorem dX3_workOn_126 : decode cX3_workOn 126 = .ok (.iload_n 1, 1) := by decide +kernel
theorem dX3_workOn_127 : decode cX3_workOn 127 = .ok (.iload_n 2, 1) := by decide +kernel
theorem dX3_workOn_128 : decode cX3_workOn 128 = .ok (.if_icmp .le 7, 3) := by decide +kernel
theorem dX3_workOn_131 : decode cX3_workOn 131 = .ok (.iconst 1, 1) := by decide +kernel
theorem dX3_workOn_132 : decode cX3_workOn 132 = .ok (.goto 4, 3) := by decide +kernel
theorem dX3_workOn_135 : decode cX3_workOn 135 = .ok (.iconst 0, 1) := by decide +kernel
theorem dX3_workOn_136 : decode cX3_workOn 136 = .ok (.ireturn, 1) := by decide +kernel
theorem dX3_workOn_137 : decode cX3_workOn 137 = .ok (.iload_n 1, 1) := by decide +kernel
theorem dX3_workOn_138 : decode cX3_workOn 138 = .ok (.iload_n 2, 1) := by decide +kernel
theorem dX3_workOn_139 : decode cX3_workOn 139 = .ok (.if_icmp .lt 7, 3) := by decide +kernel
theorem dX3_workOn_142 : decode cX3_workOn 142 = .ok (.iconst 1, 1) := by decide +kernel
theorem dX3_workOn_143 : decode cX3_workOn 143 = .ok (.goto 4, 3) := by decide +kernel
theorem dX3_workOn_146 : decode cX3_workOn 146 = .ok (.iconst 0, 1) := by decide +kernel
theorem dX3_workOn_147 : decode cX3_workOn 147 = .ok (.ireturn, 1) := by decide +kernel
theorem dX3_workOn_148 : decode cX3_workOn 148 = .ok (.iload_n 1, 1) := by decide +kernel
theorem dX3_workOn_149 : decode cX3_workOn 149 = .ok (.iload_n 2, 1) := by decide +kernel
theorem dX3_workOn_150 : decode cX3_workOn 150 = .ok (.if_icmp .ne 7, 3) := by decide +kernel
theorem dX3_workOn_153 : decode cX3_workOn 153 = .ok (.iconst 1, 1) := by decide +kernel
theorem dX3_workOn_154 : decode cX3_workOn 154 = .ok (.goto 4, 3) := by decide +kernel
theorem dX3_workOn_157 : decode cX3_workOn 157 = .ok (.iconst 0, 1) := by decide +kernel
theorem dX3_workOn_158 : decode cX3_workOn 158 = .ok (.ireturn, 1) := by decide +kernel
theorem dX3_workOn_159 : decode cX3_workOn 159 = .ok (.iload_n 1, 1) := by decide +kernel
theorem dX3_workOn_160 : decode cX3_workOn 160 = .ok (.iload_n 2, 1) := by decide +kernel
theorem dX3_workOn_161 : decode cX3_workOn 161 = .ok (.if_icmp .eq 7, 3) := by decide +kernel
theorem dX3_workOn_164 : decode cX3_workOn 164 = .ok (.iconst 1, 1) := by decide +kernel
theorem dX3_workOn_165 : decode cX3_workOn 165 = .ok (.goto 4, 3) := by decide +kernel
theorem dX3_workOn_168 : decode cX3_workOn 168 = .ok (.iconst 0, 1) := by decide +kernel
theorem dX3_workOn_169 : decode cX3_workOn 169 = .ok (.ireturn, 1) := by decide +kernel
theorem kSX3_workOn : yX3_workOn.cls ≠ "java/lang/invoke/MethodHandle" ∧ yX3_workOn.cls ≠ "java/lang/invoke/VarHandle" ∧ (parseMethodDescriptor yX3_workOn.desc).map (fun d => d.parameters.length) = some 3 := by decide +kernel
theorem dX3_finish_0 : decode cX3_finish 0 = .ok (.aload_n 0, 1) := by decide +kernel
theorem dX3_finish_1 : decode cX3_finish 1 = .ok (.iload_n 1, 1) := by decide +kernel
theorem dX3_finish_2 : decode cX3_finish 2 = .ok (.iconst 0, 1) := by decide +kernel
theorem dX3_finish_3 : decode cX3_finish 3 = .ok (.invokevirtual 38, 3) := by decide +kernel
theorem dX3_finish_6 : decode cX3_finish 6 = .ok (.istore 5, 2) := by decide +kernel
theorem dX3_finish_8 : decode cX3_finish 8 = .ok (.aload_n 0, 1) := by decide +kernel
theorem dX3_finish_9 : decode cX3_finish 9 = .ok (.iload_n 1, 1) := by decide +kernel
theorem dX3_finish_10 : decode cX3_finish 10 = .ok (.iconst 1, 1) := by decide +kernel
theorem dX3_finish_11 : decode cX3_finish 11 = .ok (.invokevirtual 38, 3) := by decide +kernel
theorem dX3_finish_14 : decode cX3_finish 14 = .ok (.istore 6, 2) := by decide +kernel
theorem dX3_finish_16 : decode cX3_finish 16 = .ok (.aload_n 0, 1) := by decide +kernel
theorem dX3_finish_17 : decode cX3_finish 17 = .ok (.iload_n 1, 1) := by decide +kernel
theorem dX3_finish_18 : decode cX3_finish 18 = .ok (.iload_n 2, 1) := by decide +kernel
theorem dX3_finish_19 : decode cX3_finish 19 = .ok (.invokevirtual 51, 3) := by decide +kernel
theorem dX3_finish_22 : decode cX3_finish 22 = .ok (.istore 7, 2) := by decide +kernel
theorem dX3_finish_24 : decode cX3_finish 24 = .ok (.aload_n 0, 1) := by decide +kernel
theorem dX3_finish_25 : decode cX3_finish 25 = .ok (.getfield 9, 3) := by decide +kernel
theorem dX3_finish_28 : decode cX3_finish 28 = .ok (.iload 5, 2) := by decide +kernel
theorem dX3_finish_30 : decode cX3_finish 30 = .ok (.iload 6, 2) := by decide +kernel
theorem dX3_finish_32 : decode cX3_finish 32 = .ok (.iconst 0, 1) := by decide +kernel
theorem dX3_finish_33 : decode cX3_finish 33 = .ok (.invokestatic 47, 3) := by decide +kernel
theorem dX3_finish_36 : decode cX3_finish 36 = .ok (.iconst 3, 1) := by decide +kernel
theorem dX3_finish_37 : decode cX3_finish 37 = .ok (.invokevirtual 59, 3) := by decide +kernel
theorem dX3_finish_40 : decode cX3_finish 40 = .ok (.aload_n 0, 1) := by decide +kernel
theorem dX3_finish_41 : decode cX3_finish 41 = .ok (.getfield 9, 3) := by decide +kernel
theorem dX3_finish_44 : decode cX3_finish 44 = .ok (.iload 5, 2) := by decide +kernel
theorem dX3_finish_46 : decode cX3_finish 46 = .ok (.iload 6, 2) := by decide +kernel
theorem dX3_finish_48 : decode cX3_finish 48 = .ok (.iconst 3, 1) := by decide +kernel
theorem dX3_finish_49 : decode cX3_finish 49 = .ok (.invokestatic 47, 3) := by decide +kernel
theorem dX3_finish_52 : decode cX3_finish 52 = .ok (.iload 7, 2) := by decide +kernel
theorem dX3_finish_54 : decode cX3_finish 54 = .ok (.invokevirtual 59, 3) := by decide +kernel
theorem dX3_finish_57 : decode cX3_finish 57 = .ok (.aload_n 0, 1) := by decide +kernel
theorem dX3_finish_58 : decode cX3_finish 58 = .ok (.getfield 9, 3) := by decide +kernel
theorem dX3_finish_61 : decode cX3_finish 61 = .ok (.iload 5, 2) := by decide +kernel
theorem dX3_finish_63 : decode cX3_finish 63 = .ok (.iload 6, 2) := by decide +kernel
theorem dX3_finish_65 : decode cX3_finish 65 = .ok (.iconst 4, 1) := by decide +kernel
theorem dX3_finish_66 : decode cX3_finish 66 = .ok (.invokestatic 47, 3) := by decide +kernel
theorem dX3_finish_69 : decode cX3_finish 69 = .ok (.iload_n 3, 1) := by decide +kernel
theorem dX3_finish_70 : decode cX3_finish 70 = .ok (.invokevirtual 59, 3) := by decide +kernel
theorem dX3_finish_73 : decode cX3_finish 73 = .ok (.aload_n 0, 1) := by decide +kernel
theorem dX3_finish_74 : decode cX3_finish 74 = .ok (.getfield 9, 3) := by decide +kernel
theorem dX3_finish_77 : decode cX3_finish 77 = .ok (.iload 5, 2) := by decide +kernel
theorem dX3_finish_79 : decode cX3_finish 79 = .ok (.iload 6, 2) := by decide +kernel
theorem dX3_finish_81 : decode cX3_finish 81 = .ok (.iconst 5, 1) := by decide +kernel
theorem dX3_finish_82 : decode cX3_finish 82 = .ok (.invokestatic 47, 3) := by decide +kernel
theorem dX3_finish_85 : decode cX3_finish 85 = .ok (.iload 4, 2) := by decide +kernel
theorem dX3_finish_87 : decode cX3_finish 87 = .ok (.invokevirtual 59, 3) := by decide +kernel
theorem dX3_finish_90 : decode cX3_finish 90 = .ok (.aload_n 0, 1) := by decide +kernel
theorem dX3_finish_91 : decode cX3_finish 91 = .ok (.getfield 9, 3) := by decide +kernel
theorem dX3_finish_94 : decode cX3_finish 94 = .ok (.iload 5, 2) := by decide +kernel
theorem dX3_finish_96 : decode cX3_finish 96 = .ok (.iload 6, 2) := by decide +kernel
theorem dX3_finish_98 : decode cX3_finish 98 = .ok (.bipush 6, 2) := by decide +kernel
theorem dX3_finish_100 : decode cX3_finish 100 = .ok (.invokestatic 47, 3) := by decide +kernel
theorem dX3_finish_103 : decode cX3_finish 103 = .ok (.aload_n 0, 1) := by decide +kernel
theorem dX3_finish_104 : decode cX3_finish 104 = .ok (.getfield 9, 3) := by decide +kernel
theorem dX3_finish_107 : decode cX3_finish 107 = .ok (.iconst 0, 1) := by decide +kernel
theorem dX3_finish_108 : decode cX3_finish 108 = .ok (.invokevirtual 34, 3) := by decide +kernel
theorem dX3_finish_111 : decode cX3_finish 111 = .ok (.invokevirtual 59, 3) := by decide +kernel
theorem dX3_finish_114 : decode cX3_finish 114 = .ok (.aload_n 0, 1) := by decide +kernel
theorem dX3_finish_115 : decode cX3_finish 115 = .ok (.iload_n 1, 1) := by decide +kernel
theorem dX3_finish_116 : decode cX3_finish 116 = .ok (.invokevirtual 134, 3) := by decide +kernel
theorem dX3_finish_119 : decode cX3_finish 119 = .ok (.iload 7, 2) := by decide +kernel
theorem dX3_finish_121 : decode cX3_finish 121 = .ok (.ireturn, 1) := by decide +kernel
theorem kSX3_finish : yX3_finish.cls ≠ "java/lang/invoke/MethodHandle" ∧ yX3_finish.cls ≠ "java/lang/invoke/VarHandle" ∧ (parseMethodDescriptor yX3_finish.desc).map (fun d => d.parameters.length) = some 4 := by decide +kernel
theorem kVX3_finish : yX3_finish.cls = RX3 ∧ yX3_finish.cls ≠ "java/lang/invoke/MethodHandle" ∧ yX3_finish.cls ≠ "java/lang/invoke/VarHandle" ∧ (parseMethodDescriptor yX3_finish.desc).map (fun d => d.parameters.length) = some 4 := ⟨rfl, kSX3_finish⟩
theorem dX3_leave_0 : decode cX3_leave 0 = .ok (.aload_n 0, 1) := by decide +kernel
theorem dX3_leave_1 : decode cX3_leave 1 = .ok (.getfield 9, 3) := by decide +kernel
theorem dX3_leave_4 : decode cX3_leave 4 = .ok (.aload_n 0, 1) := by decide +kernel
theorem dX3_leave_5 : decode cX3_leave 5 = .ok (.iload_n 1, 1) := by decide +kernel
theorem dX3_leave_6 : decode cX3_leave 6 = .ok (.iconst 0, 1) := by decide +kernel
theorem dX3_leave_7 : decode cX3_leave 7 = .ok (.invokevirtual 51, 3) := by decide +kernel
theorem dX3_leave_10 : decode cX3_leave 10 = .ok (.bipush 6, 2) := by decide +kernel
theorem dX3_leave_12 : decode cX3_leave 12 = .ok (.invokestatic 54, 3) := by decide +kernel
theorem dX3_leave_15 : decode cX3_leave 15 = .ok (.aload_n 0, 1) := by decide +kernel
theorem dX3_leave_16 : decode cX3_leave 16 = .ok (.getfield 9, 3) := by decide +kernel
theorem dX3_leave_19 : decode cX3_leave 19 = .ok (.iconst 0, 1) := by decide +kernel
theorem dX3_leave_20 : decode cX3_leave 20 = .ok (.invokevirtual 34, 3) := by decide +kernel
theorem dX3_leave_23 : decode cX3_leave 23 = .ok (.invokevirtual 59, 3) := by decide +kernel
theorem dX3_leave_26 : decode cX3_leave 26 = .ok (.aload_n 0, 1) := by decide +kernel
theorem dX3_leave_27 : decode cX3_leave 27 = .ok (.getfield 9, 3) := by decide +kernel
theorem dX3_leave_30 : decode cX3_leave 30 = .ok (.aload_n 0, 1) := by decide +kernel
theorem dX3_leave_31 : decode cX3_leave 31 = .ok (.iload_n 1, 1) := by decide +kernel
theorem dX3_leave_32 : decode cX3_leave 32 = .ok (.iconst 1, 1) := by decide +kernel
theorem dX3_leave_33 : decode cX3_leave 33 = .ok (.invokevirtual 51, 3) := by decide +kernel
theorem dX3_leave_36 : decode cX3_leave 36 = .ok (.bipush 6, 2) := by decide +kernel
theorem dX3_leave_38 : decode cX3_leave 38 = .ok (.invokestatic 54, 3) := by decide +kernel
theorem dX3_leave_41 : decode cX3_leave 41 = .ok (.aload_n 0, 1) := by decide +kernel
theorem dX3_leave_42 : decode cX3_leave 42 = .ok (.getfield 9, 3) := by decide +kernel
theorem dX3_leave_45 : decode cX3_leave 45 = .ok (.iconst 0, 1) := by decide +kernel
theorem dX3_leave_46 : decode cX3_leave 46 = .ok (.invokevirtual 34, 3) := by decide +kernel
theorem dX3_leave_49 : decode cX3_leave 49 = .ok (.invokevirtual 59, 3) := by decide +kernel
theorem dX3_leave_52 : decode cX3_leave 52 = .ok (.aload_n 0, 1) := by decide +kernel
theorem dX3_leave_53 : decode cX3_leave 53 = .ok (.getfield 9, 3) := by decide +kernel
theorem dX3_leave_56 : decode cX3_leave 56 = .ok (.iload_n 1, 1) := by decide +kernel
theorem dX3_leave_57 : decode cX3_leave 57 = .ok (.iconst 1, 1) := by decide +kernel
theorem dX3_leave_58 : decode cX3_leave 58 = .ok (.invokestatic 28, 3) := by decide +kernel
theorem dX3_leave_61 : decode cX3_leave 61 = .ok (.iconst (-1), 1) := by decide +kernel
theorem dX3_leave_62 : decode cX3_leave 62 = .ok (.invokevirtual 59, 3) := by decide +kernel
theorem dX3_leave_65 : decode cX3_leave 65 = .ok (.return_, 1) := by decide +kernel
theorem kSX3_leave : yX3_leave.cls ≠ "java/lang/invoke/MethodHandle" ∧ yX3_leave.cls ≠ "java/lang/invoke/VarHandle" ∧ (parseMethodDescriptor yX3_leave.desc).map (fun d => d.parameters.length) = some 1 := by decide +kernel
theorem kVX3_leave : yX3_leave.cls = RX3 ∧ yX3_leave.cls ≠ "java/lang/invoke/MethodHandle" ∧ yX3_leave.cls ≠ "java/lang/invoke/VarHandle" ∧ (parseMethodDescriptor yX3_leave.desc).map (fun d => d.parameters.length) = some 1 := ⟨rfl, kSX3_leave⟩
theorem dX3_strikeFrom_0 : decode cX3_strikeFrom 0 = .ok (.iconst 0, 1) := by decide +kernel
theorem dX3_strikeFrom_1 : decode cX3_strikeFrom 1 = .ok (.istore_n 3, 1) := by decide +kernel
theorem dX3_strikeFrom_2 : decode cX3_strikeFrom 2 = .ok (.iload_n 2, 1) := by decide +kernel
theorem dX3_strikeFrom_3 : decode cX3_strikeFrom 3 = .ok (.istore 4, 2) := by decide +kernel
theorem dX3_strikeFrom_5 : decode cX3_strikeFrom 5 = .ok (.iconst 0, 1) := by decide +kernel
theorem dX3_strikeFrom_6 : decode cX3_strikeFrom 6 = .ok (.istore 5, 2) := by decide +kernel
theorem dX3_strikeFrom_8 : decode cX3_strikeFrom 8 = .ok (.iload 5, 2) := by decide +kernel
theorem dX3_strikeFrom_10 : decode cX3_strikeFrom 10 = .ok (.bipush 37, 2) := by decide +kernel
theorem dX3_strikeFrom_12 : decode cX3_strikeFrom 12 = .ok (.if_icmp .ge 43, 3) := by decide +kernel
theorem dX3_strikeFrom_15 : decode cX3_strikeFrom 15 = .ok (.iload 4, 2) := by decide +kernel
theorem dX3_strikeFrom_17 : decode cX3_strikeFrom 17 = .ok (.iconst (-1), 1) := by decide +kernel
theorem dX3_strikeFrom_18 : decode cX3_strikeFrom 18 = .ok (.if_icmp .eq 37, 3) := by decide +kernel
theorem dX3_strikeFrom_21 : decode cX3_strikeFrom 21 = .ok (.aload_n 0, 1) := by decide +kernel
theorem dX3_strikeFrom_22 : decode cX3_strikeFrom 22 = .ok (.iload_n 1, 1) := by decide +kernel
theorem dX3_strikeFrom_23 : decode cX3_strikeFrom 23 = .ok (.iload 4, 2) := by decide +kernel
theorem dX3_strikeFrom_25 : decode cX3_strikeFrom 25 = .ok (.invokevirtual 137, 3) := by decide +kernel
theorem dX3_strikeFrom_28 : decode cX3_strikeFrom 28 = .ok (.iinc 3 1, 3) := by decide +kernel
theorem dX3_strikeFrom_31 : decode cX3_strikeFrom 31 = .ok (.aload_n 0, 1) := by decide +kernel
theorem dX3_strikeFrom_32 : decode cX3_strikeFrom 32 = .ok (.getfield 15, 3) := by decide +kernel
theorem dX3_strikeFrom_35 : decode cX3_strikeFrom 35 = .ok (.iload_n 1, 1) := by decide +kernel
theorem dX3_strikeFrom_36 : decode cX3_strikeFrom 36 = .ok (.invokevirtual 140, 3) := by decide +kernel
theorem dX3_strikeFrom_39 : decode cX3_strikeFrom 39 = .ok (.aload_n 0, 1) := by decide +kernel
theorem dX3_strikeFrom_40 : decode cX3_strikeFrom 40 = .ok (.getfield 15, 3) := by decide +kernel
theorem dX3_strikeFrom_43 : decode cX3_strikeFrom 43 = .ok (.iload_n 1, 1) := by decide +kernel
theorem dX3_strikeFrom_44 : decode cX3_strikeFrom 44 = .ok (.invokevirtual 143, 3) := by decide +kernel
theorem dX3_strikeFrom_47 : decode cX3_strikeFrom 47 = .ok (.istore 4, 2) := by decide +kernel
theorem dX3_strikeFrom_49 : decode cX3_strikeFrom 49 = .ok (.iinc 5 1, 3) := by decide +kernel
theorem dX3_strikeFrom_52 : decode cX3_strikeFrom 52 = .ok (.goto (-44), 3) := by decide +kernel
theorem dX3_strikeFrom_55 : decode cX3_strikeFrom 55 = .ok (.iload_n 3, 1) := by decide +kernel
theorem dX3_strikeFrom_56 : decode cX3_strikeFrom 56 = .ok (.ireturn, 1) := by decide +kernel
theorem kSX3_strikeFrom : yX3_strikeFrom.cls ≠ "java/lang/invoke/MethodHandle" ∧ yX3_strikeFrom.cls ≠ "java/lang/invoke/VarHandle" ∧ (parseMethodDescriptor yX3_strikeFrom.desc).map (fun d => d.parameters.length) = some 2 := by decide +kernel
theorem kVX3_strikeFrom : yX3_strikeFrom.cls = RX3 ∧ yX3_strikeFrom.cls ≠ "java/lang/invoke/MethodHandle" ∧ yX3_strikeFrom.cls ≠ "java/lang/invoke/VarHandle" ∧ (parseMethodDescriptor yX3_strikeFrom.desc).map (fun d => d.parameters.length) = some 2 := ⟨rfl, kSX3_strikeFrom⟩
theorem dX3_drop_0 : decode cX3_drop 0 = .ok (.aload_n 0, 1) := by decide +kernel
theorem dX3_drop_1 : decode cX3_drop 1 = .ok (.getfield 9, 3) := by decide +kernel
theorem dX3_drop_4 : decode cX3_drop 4 = .ok (.iload_n 1, 1) := by decide +kernel
theorem dX3_drop_5 : decode cX3_drop 5 = .ok (.iload_n 2, 1) := by decide +kernel
theorem dX3_drop_6 : decode cX3_drop 6 = .ok (.iconst 0, 1) := by decide +kernel
theorem dX3_drop_7 : decode cX3_drop 7 = .ok (.invokestatic 47, 3) := by decide +kernel
theorem dX3_drop_10 : decode cX3_drop 10 = .ok (.invokevirtual 34, 3) := by decide +kernel
theorem dX3_drop_13 : decode cX3_drop 13 = .ok (.iconst 2, 1) := by decide +kernel
theorem dX3_drop_14 : decode cX3_drop 14 = .ok (.if_icmp .ne 21, 3) := by decide +kernel
theorem dX3_drop_17 : decode cX3_drop 17 = .ok (.aload_n 0, 1) := by decide +kernel
theorem dX3_drop_18 : decode cX3_drop 18 = .ok (.aload_n 0, 1) := by decide +kernel
theorem dX3_drop_19 : decode cX3_drop 19 = .ok (.getfield 9, 3) := by decide +kernel
theorem dX3_drop_22 : decode cX3_drop 22 = .ok (.iload_n 1, 1) := by decide +kernel
theorem dX3_drop_23 : decode cX3_drop 23 = .ok (.iload_n 2, 1) := by decide +kernel
theorem dX3_drop_24 : decode cX3_drop 24 = .ok (.bipush 7, 2) := by decide +kernel
theorem dX3_drop_26 : decode cX3_drop 26 = .ok (.invokestatic 47, 3) := by decide +kernel
theorem dX3_drop_29 : decode cX3_drop 29 = .ok (.invokevirtual 34, 3) := by decide +kernel
theorem dX3_drop_32 : decode cX3_drop 32 = .ok (.invokevirtual 134, 3) := by decide +kernel
theorem dX3_drop_35 : decode cX3_drop 35 = .ok (.aload_n 0, 1) := by decide +kernel
theorem dX3_drop_36 : decode cX3_drop 36 = .ok (.getfield 9, 3) := by decide +kernel
theorem dX3_drop_39 : decode cX3_drop 39 = .ok (.iload_n 1, 1) := by decide +kernel
theorem dX3_drop_40 : decode cX3_drop 40 = .ok (.iload_n 2, 1) := by decide +kernel
theorem dX3_drop_41 : decode cX3_drop 41 = .ok (.iconst 0, 1) := by decide +kernel
theorem dX3_drop_42 : decode cX3_drop 42 = .ok (.invokestatic 47, 3) := by decide +kernel
theorem dX3_drop_45 : decode cX3_drop 45 = .ok (.iconst 0, 1) := by decide +kernel
theorem dX3_drop_46 : decode cX3_drop 46 = .ok (.invokevirtual 59, 3) := by decide +kernel
theorem dX3_drop_49 : decode cX3_drop 49 = .ok (.return_, 1) := by decide +kernel
theorem kSX3_drop : yX3_drop.cls ≠ "java/lang/invoke/MethodHandle" ∧ yX3_drop.cls ≠ "java/lang/invoke/VarHandle" ∧ (parseMethodDescriptor yX3_drop.desc).map (fun d => d.parameters.length) = some 2 := by decide +kernel
theorem kVX3_drop : yX3_drop.cls = RX3 ∧ yX3_drop.cls ≠ "java/lang/invoke/MethodHandle" ∧ yX3_drop.cls ≠ "java/lang/invoke/VarHandle" ∧ (parseMethodDescriptor yX3_drop.desc).map (fun d => d.parameters.length) = some 2 := ⟨rfl, kSX3_drop⟩
theorem dX5_handOver_0 : decode cX5_handOver 0 = .ok (.aload_n 0, 1) := by decide +kernel
theorem dX5_handOver_1 : decode cX5_handOver 1 = .ok (.getfield 33, 3) := by decide +kernel
theorem dX5_handOver_4 : decode cX5_handOver 4 = .ok (.astore_n 1, 1) := by decide +kernel
theorem dX5_handOver_5 : decode cX5_handOver 5 = .ok (.aload_n 0, 1) := by decide +kernel
theorem dX5_handOver_6 : decode cX5_handOver 6 = .ok (.new 17, 3) := by decide +kernel
theorem dX5_handOver_9 : decode cX5_handOver 9 = .ok (.dup, 1) := by decide +kernel
theorem dX5_handOver_10 : decode cX5_handOver 10 = .ok (.invokespecial 32, 3) := by decide +kernel
theorem dX5_handOver_13 : decode cX5_handOver 13 = .ok (.putfield 33, 3) := by decide +kernel
theorem dX5_handOver_16 : decode cX5_handOver 16 = .ok (.aload_n 1, 1) := by decide +kernel
theorem dX5_handOver_17 : decode cX5_handOver 17 = .ok (.areturn, 1) := by decide +kernel
theorem kSX5_handOver : yX5_handOver.cls ≠ "java/lang/invoke/MethodHandle" ∧ yX5_handOver.cls ≠ "java/lang/invoke/VarHandle" ∧ (parseMethodDescriptor yX5_handOver.desc).map (fun d => d.parameters.length) = some 0 := by decide +kernel
theorem kVX5_handOver : yX5_handOver.cls = RX5 ∧ yX5_handOver.cls ≠ "java/lang/invoke/MethodHandle" ∧ yX5_handOver.cls ≠ "java/lang/invoke/VarHandle" ∧ (parseMethodDescriptor yX5_handOver.desc).map (fun d => d.parameters.length) = some 0 := ⟨rfl, kSX5_handOver⟩
theorem dX6_put_0 : decode cX6_put 0 = .ok (.iload 4, 2) := by decide +kernel
theorem dX6_put_2 : decode cX6_put 2 = .ok (.aload_n 0, 1) := by decide +kernel
theorem dX6_put_3 : decode cX6_put 3 = .ok (.getfield 62, 3) := by decide +kernel
theorem dX6_put_6 : decode cX6_put 6 = .ok (.iadd, 1) := by decide +kernel
theorem dX6_put_7 : decode cX6_put 7 = .ok (.istore 5, 2) := by decide +kernel
theorem dX6_put_9 : decode cX6_put 9 = .ok (.aload_n 0, 1) := by decide +kernel
theorem dX6_put_10 : decode cX6_put 10 = .ok (.getfield 48, 3) := by decide +kernel
theorem dX6_put_13 : decode cX6_put 13 = .ok (.iload_n 1, 1) := by decide +kernel
theorem dX6_put_14 : decode cX6_put 14 = .ok (.iload_n 2, 1) := by decide +kernel
theorem dX6_put_15 : decode cX6_put 15 = .ok (.invokestatic 54, 3) := by decide +kernel
theorem dX6_put_18 : decode cX6_put 18 = .ok (.iload_n 3, 1) := by decide +kernel
theorem dX6_put_19 : decode cX6_put 19 = .ok (.invokevirtual 115, 3) := by decide +kernel
theorem dX6_put_22 : decode cX6_put 22 = .ok (.aload_n 0, 1) := by decide +kernel
theorem dX6_put_23 : decode cX6_put 23 = .ok (.getfield 51, 3) := by decide +kernel
theorem dX6_put_26 : decode cX6_put 26 = .ok (.iload_n 1, 1) := by decide +kernel
theorem dX6_put_27 : decode cX6_put 27 = .ok (.iload_n 2, 1) := by decide +kernel
theorem dX6_put_28 : decode cX6_put 28 = .ok (.invokestatic 54, 3) := by decide +kernel
theorem dX6_put_31 : decode cX6_put 31 = .ok (.iload 4, 2) := by decide +kernel
theorem dX6_put_33 : decode cX6_put 33 = .ok (.invokevirtual 115, 3) := by decide +kernel
theorem dX6_put_36 : decode cX6_put 36 = .ok (.aload_n 0, 1) := by decide +kernel
theorem dX6_put_37 : decode cX6_put 37 = .ok (.getfield 30, 3) := by decide +kernel
theorem dX6_put_40 : decode cX6_put 40 = .ok (.iload_n 1, 1) := by decide +kernel
theorem dX6_put_41 : decode cX6_put 41 = .ok (.iload_n 2, 1) := by decide +kernel
theorem dX6_put_42 : decode cX6_put 42 = .ok (.invokestatic 54, 3) := by decide +kernel
theorem dX6_put_45 : decode cX6_put 45 = .ok (.iload 5, 2) := by decide +kernel
theorem dX6_put_47 : decode cX6_put 47 = .ok (.invokevirtual 115, 3) := by decide +kernel
theorem dX6_put_50 : decode cX6_put 50 = .ok (.aload_n 0, 1) := by decide +kernel
theorem dX6_put_51 : decode cX6_put 51 = .ok (.getfield 33, 3) := by decide +kernel
theorem dX6_put_54 : decode cX6_put 54 = .ok (.iload_n 3, 1) := by decide +kernel
theorem dX6_put_55 : decode cX6_put 55 = .ok (.iload 5, 2) := by decide +kernel
theorem dX6_put_57 : decode cX6_put 57 = .ok (.invokevirtual 115, 3) := by decide +kernel
theorem dX6_put_60 : decode cX6_put 60 = .ok (.aload_n 0, 1) := by decide +kernel
theorem dX6_put_61 : decode cX6_put 61 = .ok (.aload_n 0, 1) := by decide +kernel
theorem dX6_put_62 : decode cX6_put 62 = .ok (.getfield 15, 3) := by decide +kernel
theorem dX6_put_65 : decode cX6_put 65 = .ok (.iload_n 1, 1) := by decide +kernel
theorem dX6_put_66 : decode cX6_put 66 = .ok (.iload_n 2, 1) := by decide +kernel
theorem dX6_put_67 : decode cX6_put 67 = .ok (.invokevirtual 125, 3) := by decide +kernel
theorem dX6_put_70 : decode cX6_put 70 = .ok (.iload 5, 2) := by decide +kernel
theorem dX6_put_72 : decode cX6_put 72 = .ok (.aload_n 0, 1) := by decide +kernel
theorem dX6_put_73 : decode cX6_put 73 = .ok (.getfield 9, 3) := by decide +kernel
theorem dX6_put_76 : decode cX6_put 76 = .ok (.iconst 1, 1) := by decide +kernel
theorem dX6_put_77 : decode cX6_put 77 = .ok (.invokevirtual 81, 3) := by decide +kernel
theorem dX6_put_80 : decode cX6_put 80 = .ok (.iadd, 1) := by decide +kernel
theorem dX6_put_81 : decode cX6_put 81 = .ok (.invokevirtual 128, 3) := by decide +kernel
theorem dX6_put_84 : decode cX6_put 84 = .ok (.aload_n 0, 1) := by decide +kernel
theorem dX6_put_85 : decode cX6_put 85 = .ok (.aload_n 0, 1) := by decide +kernel
theorem dX6_put_86 : decode cX6_put 86 = .ok (.getfield 15, 3) := by decide +kernel
theorem dX6_put_89 : decode cX6_put 89 = .ok (.iload_n 1, 1) := by decide +kernel
theorem dX6_put_90 : decode cX6_put 90 = .ok (.iload_n 2, 1) := by decide +kernel
theorem dX6_put_91 : decode cX6_put 91 = .ok (.invokevirtual 131, 3) := by decide +kernel
theorem dX6_put_94 : decode cX6_put 94 = .ok (.iload 5, 2) := by decide +kernel
theorem dX6_put_96 : decode cX6_put 96 = .ok (.aload_n 0, 1) := by decide +kernel
theorem dX6_put_97 : decode cX6_put 97 = .ok (.getfield 9, 3) := by decide +kernel
theorem dX6_put_100 : decode cX6_put 100 = .ok (.iconst 1, 1) := by decide +kernel
theorem dX6_put_101 : decode cX6_put 101 = .ok (.invokevirtual 81, 3) := by decide +kernel
theorem dX6_put_104 : decode cX6_put 104 = .ok (.iadd, 1) := by decide +kernel
theorem dX6_put_105 : decode cX6_put 105 = .ok (.invokevirtual 128, 3) := by decide +kernel
theorem dX6_put_108 : decode cX6_put 108 = .ok (.aload_n 0, 1) := by decide +kernel
theorem dX6_put_109 : decode cX6_put 109 = .ok (.aload_n 0, 1) := by decide +kernel
theorem dX6_put_110 : decode cX6_put 110 = .ok (.getfield 102, 3) := by decide +kernel
theorem dX6_put_113 : decode cX6_put 113 = .ok (.iload 5, 2) := by decide +kernel
theorem dX6_put_115 : decode cX6_put 115 = .ok (.invokestatic 97, 3) := by decide +kernel
theorem dX6_put_118 : decode cX6_put 118 = .ok (.putfield 102, 3) := by decide +kernel
theorem dX6_put_121 : decode cX6_put 121 = .ok (.return_, 1) := by decide +kernel
theorem kSX6_put : yX6_put.cls ≠ "java/lang/invoke/MethodHandle" ∧ yX6_put.cls ≠ "java/lang/invoke/VarHandle" ∧ (parseMethodDescriptor yX6_put.desc).map (fun d => d.parameters.length) = some 4 := by decide +kernel
theorem kVX6_put : yX6_put.cls = RX6 ∧ yX6_put.cls ≠ "java/lang/invoke/MethodHandle" ∧ yX6_put.cls ≠ "java/lang/invoke/VarHandle" ∧ (parseMethodDescriptor yX6_put.desc).map (fun d => d.parameters.length) = some 4 := ⟨rfl, kSX6_put⟩
theorem dX6_holdTill_0 : decode cX6_holdTill 0 = .ok (.iload_n 1, 1) := by decide +kernel
theorem dX6_holdTill_1 : decode cX6_holdTill 1 = .ok (.iconst (-1), 1) := by decide +kernel
theorem dX6_holdTill_2 : decode cX6_holdTill 2 = .ok (.if_icmp .eq 23, 3) := by decide +kernel
theorem dX6_holdTill_5 : decode cX6_holdTill 5 = .ok (.aload_n 0, 1) := by decide +kernel
theorem dX6_holdTill_6 : decode cX6_holdTill 6 = .ok (.getfield 36, 3) := by decide +kernel
theorem dX6_holdTill_9 : decode cX6_holdTill 9 = .ok (.iload_n 1, 1) := by decide +kernel
theorem dX6_holdTill_10 : decode cX6_holdTill 10 = .ok (.aload_n 0, 1) := by decide +kernel
theorem dX6_holdTill_11 : decode cX6_holdTill 11 = .ok (.getfield 36, 3) := by decide +kernel
theorem dX6_holdTill_14 : decode cX6_holdTill 14 = .ok (.iload_n 1, 1) := by decide +kernel
theorem dX6_holdTill_15 : decode cX6_holdTill 15 = .ok (.invokevirtual 58, 3) := by decide +kernel
theorem dX6_holdTill_18 : decode cX6_holdTill 18 = .ok (.iload_n 2, 1) := by decide +kernel
theorem dX6_holdTill_19 : decode cX6_holdTill 19 = .ok (.invokestatic 97, 3) := by decide +kernel
theorem dX6_holdTill_22 : decode cX6_holdTill 22 = .ok (.invokevirtual 115, 3) := by decide +kernel
theorem dX6_holdTill_25 : decode cX6_holdTill 25 = .ok (.return_, 1) := by decide +kernel
theorem kSX6_holdTill : yX6_holdTill.cls ≠ "java/lang/invoke/MethodHandle" ∧ yX6_holdTill.cls ≠ "java/lang/invoke/VarHandle" ∧ (parseMethodDescriptor yX6_holdTill.desc).map (fun d => d.parameters.length) = some 2 := by decide +kernel
theorem kVX6_holdTill : yX6_holdTill.cls = RX6 ∧ yX6_holdTill.cls ≠ "java/lang/invoke/MethodHandle" ∧ yX6_holdTill.cls ≠ "java/lang/invoke/VarHandle" ∧ (parseMethodDescriptor yX6_holdTill.desc).map (fun d => d.parameters.length) = some 2 := ⟨rfl, kSX6_holdTill⟩
theorem dX6_putFrom_0 : decode cX6_putFrom 0 = .ok (.iconst 0, 1) := by decide +kernel
theorem dX6_putFrom_1 : decode cX6_putFrom 1 = .ok (.istore_n 3, 1) := by decide +kernel
theorem dX6_putFrom_2 : decode cX6_putFrom 2 = .ok (.iload_n 3, 1) := by decide +kernel
theorem dX6_putFrom_3 : decode cX6_putFrom 3 = .ok (.iload_n 1, 1) := by decide +kernel
theorem dX6_putFrom_4 : decode cX6_putFrom 4 = .ok (.if_icmp .ge 81, 3) := by decide +kernel
theorem dX6_putFrom_7 : decode cX6_putFrom 7 = .ok (.aload_n 0, 1) := by decide +kernel
theorem dX6_putFrom_8 : decode cX6_putFrom 8 = .ok (.getfield 33, 3) := by decide +kernel
theorem dX6_putFrom_11 : decode cX6_putFrom 11 = .ok (.iload_n 3, 1) := by decide +kernel
theorem dX6_putFrom_12 : decode cX6_putFrom 12 = .ok (.invokevirtual 58, 3) := by decide +kernel
theorem dX6_putFrom_15 : decode cX6_putFrom 15 = .ok (.iload_n 2, 1) := by decide +kernel
theorem dX6_putFrom_16 : decode cX6_putFrom 16 = .ok (.if_icmp .gt 11, 3) := by decide +kernel
theorem dX6_putFrom_19 : decode cX6_putFrom 19 = .ok (.aload_n 0, 1) := by decide +kernel
theorem dX6_putFrom_20 : decode cX6_putFrom 20 = .ok (.iload_n 2, 1) := by decide +kernel
theorem dX6_putFrom_21 : decode cX6_putFrom 21 = .ok (.invokevirtual 146, 3) := by decide +kernel
theorem dX6_putFrom_24 : decode cX6_putFrom 24 = .ok (.goto 4, 3) := by decide +kernel
theorem dX6_putFrom_27 : decode cX6_putFrom 27 = .ok (.iconst (-1), 1) := by decide +kernel
theorem dX6_putFrom_28 : decode cX6_putFrom 28 = .ok (.istore 4, 2) := by decide +kernel
theorem dX6_putFrom_30 : decode cX6_putFrom 30 = .ok (.iload 4, 2) := by decide +kernel
theorem dX6_putFrom_32 : decode cX6_putFrom 32 = .ok (.iconst (-1), 1) := by decide +kernel
theorem dX6_putFrom_33 : decode cX6_putFrom 33 = .ok (.if_icmp .eq 46, 3) := by decide +kernel
theorem dX6_putFrom_36 : decode cX6_putFrom 36 = .ok (.aload_n 0, 1) := by decide +kernel
theorem dX6_putFrom_37 : decode cX6_putFrom 37 = .ok (.getfield 26, 3) := by decide +kernel
theorem dX6_putFrom_40 : decode cX6_putFrom 40 = .ok (.iload 4, 2) := by decide +kernel
theorem dX6_putFrom_42 : decode cX6_putFrom 42 = .ok (.invokevirtual 58, 3) := by decide +kernel
theorem dX6_putFrom_45 : decode cX6_putFrom 45 = .ok (.istore 5, 2) := by decide +kernel
theorem dX6_putFrom_47 : decode cX6_putFrom 47 = .ok (.iload 5, 2) := by decide +kernel
theorem dX6_putFrom_49 : decode cX6_putFrom 49 = .ok (.bipush 37, 2) := by decide +kernel
theorem dX6_putFrom_51 : decode cX6_putFrom 51 = .ok (.idiv, 1) := by decide +kernel
theorem dX6_putFrom_52 : decode cX6_putFrom 52 = .ok (.istore 6, 2) := by decide +kernel
theorem dX6_putFrom_54 : decode cX6_putFrom 54 = .ok (.aload_n 0, 1) := by decide +kernel
theorem dX6_putFrom_55 : decode cX6_putFrom 55 = .ok (.iload 6, 2) := by decide +kernel
theorem dX6_putFrom_57 : decode cX6_putFrom 57 = .ok (.iload 5, 2) := by decide +kernel
theorem dX6_putFrom_59 : decode cX6_putFrom 59 = .ok (.bipush 37, 2) := by decide +kernel
theorem dX6_putFrom_61 : decode cX6_putFrom 61 = .ok (.irem, 1) := by decide +kernel
theorem dX6_putFrom_62 : decode cX6_putFrom 62 = .ok (.iload_n 3, 1) := by decide +kernel
theorem dX6_putFrom_63 : decode cX6_putFrom 63 = .ok (.iload_n 2, 1) := by decide +kernel
theorem dX6_putFrom_64 : decode cX6_putFrom 64 = .ok (.invokevirtual 121, 3) := by decide +kernel
theorem dX6_putFrom_67 : decode cX6_putFrom 67 = .ok (.aload_n 0, 1) := by decide +kernel
theorem dX6_putFrom_68 : decode cX6_putFrom 68 = .ok (.iload 4, 2) := by decide +kernel
theorem dX6_putFrom_70 : decode cX6_putFrom 70 = .ok (.invokevirtual 149, 3) := by decide +kernel
theorem dX6_putFrom_73 : decode cX6_putFrom 73 = .ok (.aload_n 0, 1) := by decide +kernel
theorem dX6_putFrom_74 : decode cX6_putFrom 74 = .ok (.iload 6, 2) := by decide +kernel
theorem dX6_putFrom_76 : decode cX6_putFrom 76 = .ok (.invokevirtual 75, 3) := by decide +kernel
theorem dX6_putFrom_79 : decode cX6_putFrom 79 = .ok (.iinc 3 1, 3) := by decide +kernel
theorem dX6_putFrom_82 : decode cX6_putFrom 82 = .ok (.goto (-80), 3) := by decide +kernel
theorem dX6_putFrom_85 : decode cX6_putFrom 85 = .ok (.return_, 1) := by decide +kernel
theorem kSX6_putFrom : yX6_putFrom.cls ≠ "java/lang/invoke/MethodHandle" ∧ yX6_putFrom.cls ≠ "java/lang/invoke/VarHandle" ∧ (parseMethodDescriptor yX6_putFrom.desc).map (fun d => d.parameters.length) = some 2 := by decide +kernel
theorem kVX6_putFrom : yX6_putFrom.cls = RX6 ∧ yX6_putFrom.cls ≠ "java/lang/invoke/MethodHandle" ∧ yX6_putFrom.cls ≠ "java/lang/invoke/VarHandle" ∧ (parseMethodDescriptor yX6_putFrom.desc).map (fun d => d.parameters.length) = some 2 := ⟨rfl, kSX6_putFrom⟩
theorem dX6_firstThatMay_0 : decode cX6_firstThatMay 0 = .ok (.iconst 0, 1) := by decide +kernel
theorem dX6_firstThatMay_1 : decode cX6_firstThatMay 1 = .ok (.istore_n 2, 1) := by decide +kernel
theorem dX6_firstThatMay_2 : decode cX6_firstThatMay 2 = .ok (.iload_n 2, 1) := by decide +kernel
theorem dX6_firstThatMay_3 : decode cX6_firstThatMay 3 = .ok (.aload_n 0, 1) := by decide +kernel
theorem dX6_firstThatMay_4 : decode cX6_firstThatMay 4 = .ok (.getfield 84, 3) := by decide +kernel
theorem dX6_firstThatMay_7 : decode cX6_firstThatMay 7 = .ok (.if_icmp .ge 30, 3) := by decide +kernel
theorem dX6_firstThatMay_10 : decode cX6_firstThatMay 10 = .ok (.aload_n 0, 1) := by decide +kernel
theorem dX6_firstThatMay_11 : decode cX6_firstThatMay 11 = .ok (.getfield 39, 3) := by decide +kernel
theorem dX6_firstThatMay_14 : decode cX6_firstThatMay 14 = .ok (.aload_n 0, 1) := by decide +kernel
theorem dX6_firstThatMay_15 : decode cX6_firstThatMay 15 = .ok (.getfield 26, 3) := by decide +kernel
theorem dX6_firstThatMay_18 : decode cX6_firstThatMay 18 = .ok (.iload_n 2, 1) := by decide +kernel
theorem dX6_firstThatMay_19 : decode cX6_firstThatMay 19 = .ok (.invokevirtual 58, 3) := by decide +kernel
theorem dX6_firstThatMay_22 : decode cX6_firstThatMay 22 = .ok (.invokevirtual 58, 3) := by decide +kernel
theorem dX6_firstThatMay_25 : decode cX6_firstThatMay 25 = .ok (.iload_n 1, 1) := by decide +kernel
theorem dX6_firstThatMay_26 : decode cX6_firstThatMay 26 = .ok (.if_icmp .gt 5, 3) := by decide +kernel
theorem dX6_firstThatMay_29 : decode cX6_firstThatMay 29 = .ok (.iload_n 2, 1) := by decide +kernel
theorem dX6_firstThatMay_30 : decode cX6_firstThatMay 30 = .ok (.ireturn, 1) := by decide +kernel
theorem dX6_firstThatMay_31 : decode cX6_firstThatMay 31 = .ok (.iinc 2 1, 3) := by decide +kernel
theorem dX6_firstThatMay_34 : decode cX6_firstThatMay 34 = .ok (.goto (-32), 3) := by decide +kernel
theorem dX6_firstThatMay_37 : decode cX6_firstThatMay 37 = .ok (.iconst (-1), 1) := by decide +kernel
theorem dX6_firstThatMay_38 : decode cX6_firstThatMay 38 = .ok (.ireturn, 1) := by decide +kernel
theorem kSX6_firstThatMay : yX6_firstThatMay.cls ≠ "java/lang/invoke/MethodHandle" ∧ yX6_firstThatMay.cls ≠ "java/lang/invoke/VarHandle" ∧ (parseMethodDescriptor yX6_firstThatMay.desc).map (fun d => d.parameters.length) = some 1 := by decide +kernel
theorem kVX6_firstThatMay : yX6_firstThatMay.cls = RX6 ∧ yX6_firstThatMay.cls ≠ "java/lang/invoke/MethodHandle" ∧ yX6_firstThatMay.cls ≠ "java/lang/invoke/VarHandle" ∧ (parseMethodDescriptor yX6_firstThatMay.desc).map (fun d => d.parameters.length) = some 1 := ⟨rfl, kSX6_firstThatMay⟩
theorem dX6_takeOutOfOrder_0 : decode cX6_takeOutOfOrder 0 = .ok (.aload_n 0, 1) := by decide +kernel
theorem dX6_takeOutOfOrder_1 : decode cX6_takeOutOfOrder 1 = .ok (.dup, 1) := by decide +kernel
theorem dX6_takeOutOfOrder_2 : decode cX6_takeOutOfOrder 2 = .ok (.getfield 84, 3) := by decide +kernel
theorem dX6_takeOutOfOrder_5 : decode cX6_takeOutOfOrder 5 = .ok (.iconst 1, 1) := by decide +kernel
theorem dX6_takeOutOfOrder_6 : decode cX6_takeOutOfOrder 6 = .ok (.isub, 1) := by decide +kernel
theorem dX6_takeOutOfOrder_7 : decode cX6_takeOutOfOrder 7 = .ok (.putfield 84, 3) := by decide +kernel
theorem dX6_takeOutOfOrder_10 : decode cX6_takeOutOfOrder 10 = .ok (.iload_n 1, 1) := by decide +kernel
theorem dX6_takeOutOfOrder_11 : decode cX6_takeOutOfOrder 11 = .ok (.istore_n 2, 1) := by decide +kernel
theorem dX6_takeOutOfOrder_12 : decode cX6_takeOutOfOrder 12 = .ok (.iload_n 2, 1) := by decide +kernel
theorem dX6_takeOutOfOrder_13 : decode cX6_takeOutOfOrder 13 = .ok (.aload_n 0, 1) := by decide +kernel
theorem dX6_takeOutOfOrder_14 : decode cX6_takeOutOfOrder 14 = .ok (.getfield 84, 3) := by decide +kernel
theorem dX6_takeOutOfOrder_17 : decode cX6_takeOutOfOrder 17 = .ok (.if_icmp .ge 27, 3) := by decide +kernel
theorem dX6_takeOutOfOrder_20 : decode cX6_takeOutOfOrder 20 = .ok (.aload_n 0, 1) := by decide +kernel
theorem dX6_takeOutOfOrder_21 : decode cX6_takeOutOfOrder 21 = .ok (.getfield 26, 3) := by decide +kernel
theorem dX6_takeOutOfOrder_24 : decode cX6_takeOutOfOrder 24 = .ok (.iload_n 2, 1) := by decide +kernel
theorem dX6_takeOutOfOrder_25 : decode cX6_takeOutOfOrder 25 = .ok (.aload_n 0, 1) := by decide +kernel
theorem dX6_takeOutOfOrder_26 : decode cX6_takeOutOfOrder 26 = .ok (.getfield 26, 3) := by decide +kernel
theorem dX6_takeOutOfOrder_29 : decode cX6_takeOutOfOrder 29 = .ok (.iload_n 2, 1) := by decide +kernel
theorem dX6_takeOutOfOrder_30 : decode cX6_takeOutOfOrder 30 = .ok (.iconst 1, 1) := by decide +kernel
theorem dX6_takeOutOfOrder_31 : decode cX6_takeOutOfOrder 31 = .ok (.iadd, 1) := by decide +kernel
theorem dX6_takeOutOfOrder_32 : decode cX6_takeOutOfOrder 32 = .ok (.invokevirtual 58, 3) := by decide +kernel
theorem dX6_takeOutOfOrder_35 : decode cX6_takeOutOfOrder 35 = .ok (.invokevirtual 115, 3) := by decide +kernel
theorem dX6_takeOutOfOrder_38 : decode cX6_takeOutOfOrder 38 = .ok (.iinc 2 1, 3) := by decide +kernel
theorem dX6_takeOutOfOrder_41 : decode cX6_takeOutOfOrder 41 = .ok (.goto (-29), 3) := by decide +kernel
theorem dX6_takeOutOfOrder_44 : decode cX6_takeOutOfOrder 44 = .ok (.return_, 1) := by decide +kernel
theorem kSX6_takeOutOfOrder : yX6_takeOutOfOrder.cls ≠ "java/lang/invoke/MethodHandle" ∧ yX6_takeOutOfOrder.cls ≠ "java/lang/invoke/VarHandle" ∧ (parseMethodDescriptor yX6_takeOutOfOrder.desc).map (fun d => d.parameters.length) = some 1 := by decide +kernel
theorem kVX6_takeOutOfOrder : yX6_takeOutOfOrder.cls = RX6 ∧ yX6_takeOutOfOrder.cls ≠ "java/lang/invoke/MethodHandle" ∧ yX6_takeOutOfOrder.cls ≠ "java/lang/invoke/VarHandle" ∧ (parseMethodDescriptor yX6_takeOutOfOrder.desc).map (fun d => d.parameters.length) = some 1 := ⟨rfl, kSX6_takeOutOfOrder⟩
theorem dX6_soonestMat_0 : decode cX6_soonestMat 0 = .ok (.ldc 152, 2) := by decide +kernel
theorem dX6_soonestMat_2 : decode cX6_soonestMat 2 = .ok (.istore_n 2, 1) := by decide +kernel
theorem dX6_soonestMat_3 : decode cX6_soonestMat 3 = .ok (.iconst 0, 1) := by decide +kernel
theorem dX6_soonestMat_4 : decode cX6_soonestMat 4 = .ok (.istore_n 3, 1) := by decide +kernel
theorem dX6_soonestMat_5 : decode cX6_soonestMat 5 = .ok (.iload_n 3, 1) := by decide +kernel
theorem dX6_soonestMat_6 : decode cX6_soonestMat 6 = .ok (.iload_n 1, 1) := by decide +kernel
theorem dX6_soonestMat_7 : decode cX6_soonestMat 7 = .ok (.if_icmp .ge 22, 3) := by decide +kernel
theorem dX6_soonestMat_10 : decode cX6_soonestMat 10 = .ok (.iload_n 2, 1) := by decide +kernel
theorem dX6_soonestMat_11 : decode cX6_soonestMat 11 = .ok (.aload_n 0, 1) := by decide +kernel
theorem dX6_soonestMat_12 : decode cX6_soonestMat 12 = .ok (.getfield 33, 3) := by decide +kernel
theorem dX6_soonestMat_15 : decode cX6_soonestMat 15 = .ok (.iload_n 3, 1) := by decide +kernel
theorem dX6_soonestMat_16 : decode cX6_soonestMat 16 = .ok (.invokevirtual 58, 3) := by decide +kernel
theorem dX6_soonestMat_19 : decode cX6_soonestMat 19 = .ok (.invokestatic 153, 3) := by decide +kernel
theorem dX6_soonestMat_22 : decode cX6_soonestMat 22 = .ok (.istore_n 2, 1) := by decide +kernel
theorem dX6_soonestMat_23 : decode cX6_soonestMat 23 = .ok (.iinc 3 1, 3) := by decide +kernel
theorem dX6_soonestMat_26 : decode cX6_soonestMat 26 = .ok (.goto (-21), 3) := by decide +kernel
theorem dX6_soonestMat_29 : decode cX6_soonestMat 29 = .ok (.iload_n 2, 1) := by decide +kernel
theorem dX6_soonestMat_30 : decode cX6_soonestMat 30 = .ok (.ireturn, 1) := by decide +kernel
theorem kSX6_soonestMat : yX6_soonestMat.cls ≠ "java/lang/invoke/MethodHandle" ∧ yX6_soonestMat.cls ≠ "java/lang/invoke/VarHandle" ∧ (parseMethodDescriptor yX6_soonestMat.desc).map (fun d => d.parameters.length) = some 1 := by decide +kernel
theorem kVX6_soonestMat : yX6_soonestMat.cls = RX6 ∧ yX6_soonestMat.cls ≠ "java/lang/invoke/MethodHandle" ∧ yX6_soonestMat.cls ≠ "java/lang/invoke/VarHandle" ∧ (parseMethodDescriptor yX6_soonestMat.desc).map (fun d => d.parameters.length) = some 1 := ⟨rfl, kSX6_soonestMat⟩
theorem dX6_soonestFight_0 : decode cX6_soonestFight 0 = .ok (.ldc 152, 2) := by decide +kernel
theorem dX6_soonestFight_2 : decode cX6_soonestFight 2 = .ok (.istore_n 1, 1) := by decide +kernel
theorem dX6_soonestFight_3 : decode cX6_soonestFight 3 = .ok (.iconst 0, 1) := by decide +kernel
theorem dX6_soonestFight_4 : decode cX6_soonestFight 4 = .ok (.istore_n 2, 1) := by decide +kernel
theorem dX6_soonestFight_5 : decode cX6_soonestFight 5 = .ok (.iload_n 2, 1) := by decide +kernel
theorem dX6_soonestFight_6 : decode cX6_soonestFight 6 = .ok (.aload_n 0, 1) := by decide +kernel
theorem dX6_soonestFight_7 : decode cX6_soonestFight 7 = .ok (.getfield 84, 3) := by decide +kernel
theorem dX6_soonestFight_10 : decode cX6_soonestFight 10 = .ok (.if_icmp .ge 29, 3) := by decide +kernel
theorem dX6_soonestFight_13 : decode cX6_soonestFight 13 = .ok (.iload_n 1, 1) := by decide +kernel
theorem dX6_soonestFight_14 : decode cX6_soonestFight 14 = .ok (.aload_n 0, 1) := by decide +kernel
theorem dX6_soonestFight_15 : decode cX6_soonestFight 15 = .ok (.getfield 39, 3) := by decide +kernel
theorem dX6_soonestFight_18 : decode cX6_soonestFight 18 = .ok (.aload_n 0, 1) := by decide +kernel
theorem dX6_soonestFight_19 : decode cX6_soonestFight 19 = .ok (.getfield 26, 3) := by decide +kernel
theorem dX6_soonestFight_22 : decode cX6_soonestFight 22 = .ok (.iload_n 2, 1) := by decide +kernel
theorem dX6_soonestFight_23 : decode cX6_soonestFight 23 = .ok (.invokevirtual 58, 3) := by decide +kernel
theorem dX6_soonestFight_26 : decode cX6_soonestFight 26 = .ok (.invokevirtual 58, 3) := by decide +kernel
theorem dX6_soonestFight_29 : decode cX6_soonestFight 29 = .ok (.invokestatic 153, 3) := by decide +kernel
theorem dX6_soonestFight_32 : decode cX6_soonestFight 32 = .ok (.istore_n 1, 1) := by decide +kernel
theorem dX6_soonestFight_33 : decode cX6_soonestFight 33 = .ok (.iinc 2 1, 3) := by decide +kernel
theorem dX6_soonestFight_36 : decode cX6_soonestFight 36 = .ok (.goto (-31), 3) := by decide +kernel
theorem dX6_soonestFight_39 : decode cX6_soonestFight 39 = .ok (.iload_n 1, 1) := by decide +kernel
theorem dX6_soonestFight_40 : decode cX6_soonestFight 40 = .ok (.ireturn, 1) := by decide +kernel
theorem kSX6_soonestFight : yX6_soonestFight.cls ≠ "java/lang/invoke/MethodHandle" ∧ yX6_soonestFight.cls ≠ "java/lang/invoke/VarHandle" ∧ (parseMethodDescriptor yX6_soonestFight.desc).map (fun d => d.parameters.length) = some 0 := by decide +kernel
theorem kVX6_soonestFight : yX6_soonestFight.cls = RX6 ∧ yX6_soonestFight.cls ≠ "java/lang/invoke/MethodHandle" ∧ yX6_soonestFight.cls ≠ "java/lang/invoke/VarHandle" ∧ (parseMethodDescriptor yX6_soonestFight.desc).map (fun d => d.parameters.length) = some 0 := ⟨rfl, kSX6_soonestFight⟩
theorem dX6_freeFrom_0 : decode cX6_freeFrom 0 = .ok (.iload_n 1, 1) := by decide +kernel
theorem dX6_freeFrom_1 : decode cX6_freeFrom 1 = .ok (.iconst (-1), 1) := by decide +kernel
theorem dX6_freeFrom_2 : decode cX6_freeFrom 2 = .ok (.if_icmp .ne 7, 3) := by decide +kernel
theorem dX6_freeFrom_5 : decode cX6_freeFrom 5 = .ok (.iconst 0, 1) := by decide +kernel
theorem dX6_freeFrom_6 : decode cX6_freeFrom 6 = .ok (.goto 11, 3) := by decide +kernel
theorem dX6_freeFrom_9 : decode cX6_freeFrom 9 = .ok (.aload_n 0, 1) := by decide +kernel
theorem dX6_freeFrom_10 : decode cX6_freeFrom 10 = .ok (.getfield 36, 3) := by decide +kernel
theorem dX6_freeFrom_13 : decode cX6_freeFrom 13 = .ok (.iload_n 1, 1) := by decide +kernel
theorem dX6_freeFrom_14 : decode cX6_freeFrom 14 = .ok (.invokevirtual 58, 3) := by decide +kernel
theorem dX6_freeFrom_17 : decode cX6_freeFrom 17 = .ok (.ireturn, 1) := by decide +kernel
theorem kSX6_freeFrom : yX6_freeFrom.cls ≠ "java/lang/invoke/MethodHandle" ∧ yX6_freeFrom.cls ≠ "java/lang/invoke/VarHandle" ∧ (parseMethodDescriptor yX6_freeFrom.desc).map (fun d => d.parameters.length) = some 1 := by decide +kernel
theorem kVX6_freeFrom : yX6_freeFrom.cls = RX6 ∧ yX6_freeFrom.cls ≠ "java/lang/invoke/MethodHandle" ∧ yX6_freeFrom.cls ≠ "java/lang/invoke/VarHandle" ∧ (parseMethodDescriptor yX6_freeFrom.desc).map (fun d => d.parameters.length) = some 1 := ⟨rfl, kSX6_freeFrom⟩
theorem dX6_behindFight_0 : decode cX6_behindFight 0 = .ok (.iload_n 2, 1) := by decide +kernel
theorem dX6_behindFight_1 : decode cX6_behindFight 1 = .ok (.iconst (-1), 1) := by decide +kernel
theorem dX6_behindFight_2 : decode cX6_behindFight 2 = .ok (.if_icmp .eq 29, 3) := by decide +kernel
theorem dX6_behindFight_5 : decode cX6_behindFight 5 = .ok (.aload_n 0, 1) := by decide +kernel
theorem dX6_behindFight_6 : decode cX6_behindFight 6 = .ok (.getfield 15, 3) := by decide +kernel
theorem dX6_behindFight_9 : decode cX6_behindFight 9 = .ok (.iload_n 1, 1) := by decide +kernel
theorem dX6_behindFight_10 : decode cX6_behindFight 10 = .ok (.iload_n 2, 1) := by decide +kernel
theorem dX6_behindFight_11 : decode cX6_behindFight 11 = .ok (.invokevirtual 140, 3) := by decide +kernel
theorem dX6_behindFight_14 : decode cX6_behindFight 14 = .ok (.iconst 3, 1) := by decide +kernel
theorem dX6_behindFight_15 : decode cX6_behindFight 15 = .ok (.if_icmp .eq 16, 3) := by decide +kernel
theorem dX6_behindFight_18 : decode cX6_behindFight 18 = .ok (.aload_n 0, 1) := by decide +kernel
theorem dX6_behindFight_19 : decode cX6_behindFight 19 = .ok (.getfield 15, 3) := by decide +kernel
theorem dX6_behindFight_22 : decode cX6_behindFight 22 = .ok (.iload_n 1, 1) := by decide +kernel
theorem dX6_behindFight_23 : decode cX6_behindFight 23 = .ok (.iload_n 2, 1) := by decide +kernel
theorem dX6_behindFight_24 : decode cX6_behindFight 24 = .ok (.invokevirtual 140, 3) := by decide +kernel
theorem dX6_behindFight_27 : decode cX6_behindFight 27 = .ok (.iconst 4, 1) := by decide +kernel
theorem dX6_behindFight_28 : decode cX6_behindFight 28 = .ok (.if_icmp .ne 5, 3) := by decide +kernel
theorem dX6_behindFight_31 : decode cX6_behindFight 31 = .ok (.iconst 0, 1) := by decide +kernel
theorem dX6_behindFight_32 : decode cX6_behindFight 32 = .ok (.ireturn, 1) := by decide +kernel
theorem dX6_behindFight_33 : decode cX6_behindFight 33 = .ok (.aload_n 0, 1) := by decide +kernel
theorem dX6_behindFight_34 : decode cX6_behindFight 34 = .ok (.getfield 30, 3) := by decide +kernel
theorem dX6_behindFight_37 : decode cX6_behindFight 37 = .ok (.iload_n 1, 1) := by decide +kernel
theorem dX6_behindFight_38 : decode cX6_behindFight 38 = .ok (.iload_n 2, 1) := by decide +kernel
theorem dX6_behindFight_39 : decode cX6_behindFight 39 = .ok (.invokestatic 54, 3) := by decide +kernel
theorem dX6_behindFight_42 : decode cX6_behindFight 42 = .ok (.invokevirtual 58, 3) := by decide +kernel
theorem dX6_behindFight_45 : decode cX6_behindFight 45 = .ok (.istore_n 3, 1) := by decide +kernel
theorem dX6_behindFight_46 : decode cX6_behindFight 46 = .ok (.iload_n 3, 1) := by decide +kernel
theorem dX6_behindFight_47 : decode cX6_behindFight 47 = .ok (.iconst (-1), 1) := by decide +kernel
theorem dX6_behindFight_48 : decode cX6_behindFight 48 = .ok (.if_icmp .ne 8, 3) := by decide +kernel
theorem dX6_behindFight_51 : decode cX6_behindFight 51 = .ok (.ldc 152, 2) := by decide +kernel
theorem dX6_behindFight_53 : decode cX6_behindFight 53 = .ok (.goto 13, 3) := by decide +kernel
theorem dX6_behindFight_56 : decode cX6_behindFight 56 = .ok (.iload_n 3, 1) := by decide +kernel
theorem dX6_behindFight_57 : decode cX6_behindFight 57 = .ok (.aload_n 0, 1) := by decide +kernel
theorem dX6_behindFight_58 : decode cX6_behindFight 58 = .ok (.getfield 9, 3) := by decide +kernel
theorem dX6_behindFight_61 : decode cX6_behindFight 61 = .ok (.iconst 1, 1) := by decide +kernel
theorem dX6_behindFight_62 : decode cX6_behindFight 62 = .ok (.invokevirtual 81, 3) := by decide +kernel
theorem dX6_behindFight_65 : decode cX6_behindFight 65 = .ok (.iadd, 1) := by decide +kernel
theorem dX6_behindFight_66 : decode cX6_behindFight 66 = .ok (.ireturn, 1) := by decide +kernel
theorem kSX6_behindFight : yX6_behindFight.cls ≠ "java/lang/invoke/MethodHandle" ∧ yX6_behindFight.cls ≠ "java/lang/invoke/VarHandle" ∧ (parseMethodDescriptor yX6_behindFight.desc).map (fun d => d.parameters.length) = some 2 := by decide +kernel
theorem kVX6_behindFight : yX6_behindFight.cls = RX6 ∧ yX6_behindFight.cls ≠ "java/lang/invoke/MethodHandle" ∧ yX6_behindFight.cls ≠ "java/lang/invoke/VarHandle" ∧ (parseMethodDescriptor yX6_behindFight.desc).map (fun d => d.parameters.length) = some 2 := ⟨rfl, kSX6_behindFight⟩
theorem dX7_ofPool_0 : decode cX7_ofPool 0 = .ok (.aload_n 0, 1) := by decide +kernel
theorem dX7_ofPool_1 : decode cX7_ofPool 1 = .ok (.getfield 15, 3) := by decide +kernel
theorem dX7_ofPool_4 : decode cX7_ofPool 4 = .ok (.iload_n 1, 1) := by decide +kernel
theorem dX7_ofPool_5 : decode cX7_ofPool 5 = .ok (.iconst 3, 1) := by decide +kernel
theorem dX7_ofPool_6 : decode cX7_ofPool 6 = .ok (.invokevirtual 47, 3) := by decide +kernel
theorem dX7_ofPool_9 : decode cX7_ofPool 9 = .ok (.aload_n 0, 1) := by decide +kernel
theorem dX7_ofPool_10 : decode cX7_ofPool 10 = .ok (.getfield 15, 3) := by decide +kernel
theorem dX7_ofPool_13 : decode cX7_ofPool 13 = .ok (.iload_n 1, 1) := by decide +kernel
theorem dX7_ofPool_14 : decode cX7_ofPool 14 = .ok (.invokevirtual 37, 3) := by decide +kernel
theorem dX7_ofPool_17 : decode cX7_ofPool 17 = .ok (.if_icmp .ge 5, 3) := by decide +kernel
theorem dX7_ofPool_20 : decode cX7_ofPool 20 = .ok (.iconst (-1), 1) := by decide +kernel
theorem dX7_ofPool_21 : decode cX7_ofPool 21 = .ok (.ireturn, 1) := by decide +kernel
theorem dX7_ofPool_22 : decode cX7_ofPool 22 = .ok (.aload_n 0, 1) := by decide +kernel
theorem dX7_ofPool_23 : decode cX7_ofPool 23 = .ok (.iload_n 1, 1) := by decide +kernel
theorem dX7_ofPool_24 : decode cX7_ofPool 24 = .ok (.invokevirtual 50, 3) := by decide +kernel
theorem dX7_ofPool_27 : decode cX7_ofPool 27 = .ok (.iconst 0, 1) := by decide +kernel
theorem dX7_ofPool_28 : decode cX7_ofPool 28 = .ok (.istore_n 3, 1) := by decide +kernel
theorem dX7_ofPool_29 : decode cX7_ofPool 29 = .ok (.iload_n 3, 1) := by decide +kernel
theorem dX7_ofPool_30 : decode cX7_ofPool 30 = .ok (.aload_n 0, 1) := by decide +kernel
theorem dX7_ofPool_31 : decode cX7_ofPool 31 = .ok (.getfield 15, 3) := by decide +kernel
theorem dX7_ofPool_34 : decode cX7_ofPool 34 = .ok (.iload_n 1, 1) := by decide +kernel
theorem dX7_ofPool_35 : decode cX7_ofPool 35 = .ok (.invokevirtual 31, 3) := by decide +kernel
theorem dX7_ofPool_38 : decode cX7_ofPool 38 = .ok (.if_icmp .ge 31, 3) := by decide +kernel
theorem dX7_ofPool_41 : decode cX7_ofPool 41 = .ok (.aload_n 0, 1) := by decide +kernel
theorem dX7_ofPool_42 : decode cX7_ofPool 42 = .ok (.iload_n 1, 1) := by decide +kernel
theorem dX7_ofPool_43 : decode cX7_ofPool 43 = .ok (.aload_n 0, 1) := by decide +kernel
theorem dX7_ofPool_44 : decode cX7_ofPool 44 = .ok (.iload_n 1, 1) := by decide +kernel
theorem dX7_ofPool_45 : decode cX7_ofPool 45 = .ok (.iload_n 3, 1) := by decide +kernel
theorem dX7_ofPool_46 : decode cX7_ofPool 46 = .ok (.invokevirtual 54, 3) := by decide +kernel
theorem dX7_ofPool_49 : decode cX7_ofPool 49 = .ok (.invokevirtual 57, 3) := by decide +kernel
theorem dX7_ofPool_52 : decode cX7_ofPool 52 = .ok (.iload_n 2, 1) := by decide +kernel
theorem dX7_ofPool_53 : decode cX7_ofPool 53 = .ok (.if_icmp .ne 10, 3) := by decide +kernel
theorem dX7_ofPool_56 : decode cX7_ofPool 56 = .ok (.aload_n 0, 1) := by decide +kernel
theorem dX7_ofPool_57 : decode cX7_ofPool 57 = .ok (.iload_n 1, 1) := by decide +kernel
theorem dX7_ofPool_58 : decode cX7_ofPool 58 = .ok (.iload_n 3, 1) := by decide +kernel
theorem dX7_ofPool_59 : decode cX7_ofPool 59 = .ok (.invokevirtual 54, 3) := by decide +kernel
theorem dX7_ofPool_62 : decode cX7_ofPool 62 = .ok (.ireturn, 1) := by decide +kernel
theorem dX7_ofPool_63 : decode cX7_ofPool 63 = .ok (.iinc 3 1, 3) := by decide +kernel
theorem dX7_ofPool_66 : decode cX7_ofPool 66 = .ok (.goto (-37), 3) := by decide +kernel
theorem dX7_ofPool_69 : decode cX7_ofPool 69 = .ok (.iconst (-1), 1) := by decide +kernel
theorem dX7_ofPool_70 : decode cX7_ofPool 70 = .ok (.ireturn, 1) := by decide +kernel
theorem kSX7_ofPool : yX7_ofPool.cls ≠ "java/lang/invoke/MethodHandle" ∧ yX7_ofPool.cls ≠ "java/lang/invoke/VarHandle" ∧ (parseMethodDescriptor yX7_ofPool.desc).map (fun d => d.parameters.length) = some 2 := by decide +kernel
theorem kVX7_ofPool : yX7_ofPool.cls = RX7 ∧ yX7_ofPool.cls ≠ "java/lang/invoke/MethodHandle" ∧ yX7_ofPool.cls ≠ "java/lang/invoke/VarHandle" ∧ (parseMethodDescriptor yX7_ofPool.desc).map (fun d => d.parameters.length) = some 2 := ⟨rfl, kSX7_ofPool⟩
theorem dX7_addUp_0 : decode cX7_addUp 0 = .ok (.aload_n 0, 1) := by decide +kernel
theorem dX7_addUp_1 : decode cX7_addUp 1 = .ok (.getfield 24, 3) := by decide +kernel
theorem dX7_addUp_4 : decode cX7_addUp 4 = .ok (.iconst 0, 1) := by decide +kernel
theorem dX7_addUp_5 : decode cX7_addUp 5 = .ok (.invokevirtual 68, 3) := by decide +kernel
theorem dX7_addUp_8 : decode cX7_addUp 8 = .ok (.aload_n 0, 1) := by decide +kernel
theorem dX7_addUp_9 : decode cX7_addUp 9 = .ok (.getfield 28, 3) := by decide +kernel
theorem dX7_addUp_12 : decode cX7_addUp 12 = .ok (.iconst 0, 1) := by decide +kernel
theorem dX7_addUp_13 : decode cX7_addUp 13 = .ok (.invokevirtual 68, 3) := by decide +kernel
theorem dX7_addUp_16 : decode cX7_addUp 16 = .ok (.iconst 0, 1) := by decide +kernel
theorem dX7_addUp_17 : decode cX7_addUp 17 = .ok (.istore_n 2, 1) := by decide +kernel
theorem dX7_addUp_18 : decode cX7_addUp 18 = .ok (.iload_n 2, 1) := by decide +kernel
theorem dX7_addUp_19 : decode cX7_addUp 19 = .ok (.aload_n 0, 1) := by decide +kernel
theorem dX7_addUp_20 : decode cX7_addUp 20 = .ok (.getfield 15, 3) := by decide +kernel
theorem dX7_addUp_23 : decode cX7_addUp 23 = .ok (.iload_n 1, 1) := by decide +kernel
theorem dX7_addUp_24 : decode cX7_addUp 24 = .ok (.invokevirtual 37, 3) := by decide +kernel
theorem dX7_addUp_27 : decode cX7_addUp 27 = .ok (.if_icmp .ge 67, 3) := by decide +kernel
theorem dX7_addUp_30 : decode cX7_addUp 30 = .ok (.aload_n 0, 1) := by decide +kernel
theorem dX7_addUp_31 : decode cX7_addUp 31 = .ok (.getfield 15, 3) := by decide +kernel
theorem dX7_addUp_34 : decode cX7_addUp 34 = .ok (.iload_n 1, 1) := by decide +kernel
theorem dX7_addUp_35 : decode cX7_addUp 35 = .ok (.iload_n 2, 1) := by decide +kernel
theorem dX7_addUp_36 : decode cX7_addUp 36 = .ok (.invokevirtual 40, 3) := by decide +kernel
theorem dX7_addUp_39 : decode cX7_addUp 39 = .ok (.istore_n 3, 1) := by decide +kernel
theorem dX7_addUp_40 : decode cX7_addUp 40 = .ok (.aload_n 0, 1) := by decide +kernel
theorem dX7_addUp_41 : decode cX7_addUp 41 = .ok (.getfield 24, 3) := by decide +kernel
theorem dX7_addUp_44 : decode cX7_addUp 44 = .ok (.iload_n 3, 1) := by decide +kernel
theorem dX7_addUp_45 : decode cX7_addUp 45 = .ok (.aload_n 0, 1) := by decide +kernel
theorem dX7_addUp_46 : decode cX7_addUp 46 = .ok (.getfield 24, 3) := by decide +kernel
theorem dX7_addUp_49 : decode cX7_addUp 49 = .ok (.iload_n 3, 1) := by decide +kernel
theorem dX7_addUp_50 : decode cX7_addUp 50 = .ok (.invokevirtual 71, 3) := by decide +kernel
theorem dX7_addUp_53 : decode cX7_addUp 53 = .ok (.iconst 1, 1) := by decide +kernel
theorem dX7_addUp_54 : decode cX7_addUp 54 = .ok (.iadd, 1) := by decide +kernel
theorem dX7_addUp_55 : decode cX7_addUp 55 = .ok (.invokevirtual 74, 3) := by decide +kernel
theorem dX7_addUp_58 : decode cX7_addUp 58 = .ok (.aload_n 0, 1) := by decide +kernel
theorem dX7_addUp_59 : decode cX7_addUp 59 = .ok (.getfield 28, 3) := by decide +kernel
theorem dX7_addUp_62 : decode cX7_addUp 62 = .ok (.iload_n 3, 1) := by decide +kernel
theorem dX7_addUp_63 : decode cX7_addUp 63 = .ok (.aload_n 0, 1) := by decide +kernel
theorem dX7_addUp_64 : decode cX7_addUp 64 = .ok (.getfield 28, 3) := by decide +kernel
theorem dX7_addUp_67 : decode cX7_addUp 67 = .ok (.iload_n 3, 1) := by decide +kernel
theorem dX7_addUp_68 : decode cX7_addUp 68 = .ok (.invokevirtual 71, 3) := by decide +kernel
theorem dX7_addUp_71 : decode cX7_addUp 71 = .ok (.aload_n 0, 1) := by decide +kernel
theorem dX7_addUp_72 : decode cX7_addUp 72 = .ok (.getfield 9, 3) := by decide +kernel
theorem dX7_addUp_75 : decode cX7_addUp 75 = .ok (.iload_n 1, 1) := by decide +kernel
theorem dX7_addUp_76 : decode cX7_addUp 76 = .ok (.iload_n 2, 1) := by decide +kernel
theorem dX7_addUp_77 : decode cX7_addUp 77 = .ok (.iconst 5, 1) := by decide +kernel
theorem dX7_addUp_78 : decode cX7_addUp 78 = .ok (.invokestatic 77, 3) := by decide +kernel
theorem dX7_addUp_81 : decode cX7_addUp 81 = .ok (.invokevirtual 65, 3) := by decide +kernel
theorem dX7_addUp_84 : decode cX7_addUp 84 = .ok (.iadd, 1) := by decide +kernel
theorem dX7_addUp_85 : decode cX7_addUp 85 = .ok (.invokevirtual 74, 3) := by decide +kernel
theorem dX7_addUp_88 : decode cX7_addUp 88 = .ok (.iinc 2 1, 3) := by decide +kernel
theorem dX7_addUp_91 : decode cX7_addUp 91 = .ok (.goto (-73), 3) := by decide +kernel
theorem dX7_addUp_94 : decode cX7_addUp 94 = .ok (.return_, 1) := by decide +kernel
theorem kSX7_addUp : yX7_addUp.cls ≠ "java/lang/invoke/MethodHandle" ∧ yX7_addUp.cls ≠ "java/lang/invoke/VarHandle" ∧ (parseMethodDescriptor yX7_addUp.desc).map (fun d => d.parameters.length) = some 1 := by decide +kernel
theorem kVX7_addUp : yX7_addUp.cls = RX7 ∧ yX7_addUp.cls ≠ "java/lang/invoke/MethodHandle" ∧ yX7_addUp.cls ≠ "java/lang/invoke/VarHandle" ∧ (parseMethodDescriptor yX7_addUp.desc).map (fun d => d.parameters.length) = some 1 := ⟨rfl, kSX7_addUp⟩
theorem dX8_putOnScales_0 : decode cX8_putOnScales 0 = .ok (.aload_n 0, 1) := by decide +kernel
theorem dX8_putOnScales_1 : decode cX8_putOnScales 1 = .ok (.iload_n 1, 1) := by decide +kernel
theorem dX8_putOnScales_2 : decode cX8_putOnScales 2 = .ok (.invokevirtual 33, 3) := by decide +kernel
theorem dX8_putOnScales_5 : decode cX8_putOnScales 5 = .ok (.istore_n 3, 1) := by decide +kernel
theorem dX8_putOnScales_6 : decode cX8_putOnScales 6 = .ok (.iload_n 2, 1) := by decide +kernel
theorem dX8_putOnScales_7 : decode cX8_putOnScales 7 = .ok (.aload_n 0, 1) := by decide +kernel
theorem dX8_putOnScales_8 : decode cX8_putOnScales 8 = .ok (.getfield 9, 3) := by decide +kernel
theorem dX8_putOnScales_11 : decode cX8_putOnScales 11 = .ok (.iload_n 3, 1) := by decide +kernel
theorem dX8_putOnScales_12 : decode cX8_putOnScales 12 = .ok (.iconst 0, 1) := by decide +kernel
theorem dX8_putOnScales_13 : decode cX8_putOnScales 13 = .ok (.invokestatic 36, 3) := by decide +kernel
theorem dX8_putOnScales_16 : decode cX8_putOnScales 16 = .ok (.invokevirtual 17, 3) := by decide +kernel
theorem dX8_putOnScales_19 : decode cX8_putOnScales 19 = .ok (.if_icmp .lt 23, 3) := by decide +kernel
theorem dX8_putOnScales_22 : decode cX8_putOnScales 22 = .ok (.iload_n 2, 1) := by decide +kernel
theorem dX8_putOnScales_23 : decode cX8_putOnScales 23 = .ok (.aload_n 0, 1) := by decide +kernel
theorem dX8_putOnScales_24 : decode cX8_putOnScales 24 = .ok (.getfield 9, 3) := by decide +kernel
theorem dX8_putOnScales_27 : decode cX8_putOnScales 27 = .ok (.iload_n 3, 1) := by decide +kernel
theorem dX8_putOnScales_28 : decode cX8_putOnScales 28 = .ok (.iconst 1, 1) := by decide +kernel
theorem dX8_putOnScales_29 : decode cX8_putOnScales 29 = .ok (.invokestatic 36, 3) := by decide +kernel
theorem dX8_putOnScales_32 : decode cX8_putOnScales 32 = .ok (.invokevirtual 17, 3) := by decide +kernel
theorem dX8_putOnScales_35 : decode cX8_putOnScales 35 = .ok (.if_icmp .gt 7, 3) := by decide +kernel
theorem dX8_putOnScales_38 : decode cX8_putOnScales 38 = .ok (.iconst 1, 1) := by decide +kernel
theorem dX8_putOnScales_39 : decode cX8_putOnScales 39 = .ok (.goto 4, 3) := by decide +kernel
theorem dX8_putOnScales_42 : decode cX8_putOnScales 42 = .ok (.iconst 0, 1) := by decide +kernel
theorem dX8_putOnScales_43 : decode cX8_putOnScales 43 = .ok (.istore 4, 2) := by decide +kernel
theorem dX8_putOnScales_45 : decode cX8_putOnScales 45 = .ok (.aload_n 0, 1) := by decide +kernel
theorem dX8_putOnScales_46 : decode cX8_putOnScales 46 = .ok (.getfield 9, 3) := by decide +kernel
theorem dX8_putOnScales_49 : decode cX8_putOnScales 49 = .ok (.iload_n 1, 1) := by decide +kernel
theorem dX8_putOnScales_50 : decode cX8_putOnScales 50 = .ok (.iconst 2, 1) := by decide +kernel
theorem dX8_putOnScales_51 : decode cX8_putOnScales 51 = .ok (.invokestatic 25, 3) := by decide +kernel
theorem dX8_putOnScales_54 : decode cX8_putOnScales 54 = .ok (.iload_n 2, 1) := by decide +kernel
theorem dX8_putOnScales_55 : decode cX8_putOnScales 55 = .ok (.invokevirtual 29, 3) := by decide +kernel
theorem dX8_putOnScales_58 : decode cX8_putOnScales 58 = .ok (.aload_n 0, 1) := by decide +kernel
theorem dX8_putOnScales_59 : decode cX8_putOnScales 59 = .ok (.getfield 9, 3) := by decide +kernel
theorem dX8_putOnScales_62 : decode cX8_putOnScales 62 = .ok (.iload_n 1, 1) := by decide +kernel
theorem dX8_putOnScales_63 : decode cX8_putOnScales 63 = .ok (.iconst 3, 1) := by decide +kernel
theorem dX8_putOnScales_64 : decode cX8_putOnScales 64 = .ok (.invokestatic 25, 3) := by decide +kernel
theorem dX8_putOnScales_67 : decode cX8_putOnScales 67 = .ok (.iload 4, 2) := by decide +kernel
theorem dX8_putOnScales_69 : decode cX8_putOnScales 69 = .ok (.ifCond .eq 7, 3) := by decide +kernel
theorem dX8_putOnScales_72 : decode cX8_putOnScales 72 = .ok (.iconst 1, 1) := by decide +kernel
theorem dX8_putOnScales_73 : decode cX8_putOnScales 73 = .ok (.goto 4, 3) := by decide +kernel
theorem dX8_putOnScales_76 : decode cX8_putOnScales 76 = .ok (.iconst 2, 1) := by decide +kernel
theorem dX8_putOnScales_77 : decode cX8_putOnScales 77 = .ok (.invokevirtual 29, 3) := by decide +kernel
theorem dX8_putOnScales_80 : decode cX8_putOnScales 80 = .ok (.iload 4, 2) := by decide +kernel
theorem dX8_putOnScales_82 : decode cX8_putOnScales 82 = .ok (.ireturn, 1) := by decide +kernel
theorem kSX8_putOnScales : yX8_putOnScales.cls ≠ "java/lang/invoke/MethodHandle" ∧ yX8_putOnScales.cls ≠ "java/lang/invoke/VarHandle" ∧ (parseMethodDescriptor yX8_putOnScales.desc).map (fun d => d.parameters.length) = some 2 := by decide +kernel
theorem kVX8_putOnScales : yX8_putOnScales.cls = RX8 ∧ yX8_putOnScales.cls ≠ "java/lang/invoke/MethodHandle" ∧ yX8_putOnScales.cls ≠ "java/lang/invoke/VarHandle" ∧ (parseMethodDescriptor yX8_putOnScales.desc).map (fun d => d.parameters.length) = some 2 := ⟨rfl, kSX8_putOnScales⟩
theorem dX10_readWord_0 : decode cX10_readWord 0 = .ok (.aload_n 0, 1) := by decide +kernel
theorem dX10_readWord_1 : decode cX10_readWord 1 = .ok (.getfield 25, 3) := by decide +kernel
theorem dX10_readWord_4 : decode cX10_readWord 4 = .ok (.aload_n 0, 1) := by decide +kernel
theorem dX10_readWord_5 : decode cX10_readWord 5 = .ok (.getfield 18, 3) := by decide +kernel
theorem dX10_readWord_8 : decode cX10_readWord 8 = .ok (.if_icmp .ge 33, 3) := by decide +kernel
theorem dX10_readWord_11 : decode cX10_readWord 11 = .ok (.aload_n 0, 1) := by decide +kernel
theorem dX10_readWord_12 : decode cX10_readWord 12 = .ok (.getfield 14, 3) := by decide +kernel
theorem dX10_readWord_15 : decode cX10_readWord 15 = .ok (.aload_n 0, 1) := by decide +kernel
theorem dX10_readWord_16 : decode cX10_readWord 16 = .ok (.getfield 25, 3) := by decide +kernel
theorem dX10_readWord_19 : decode cX10_readWord 19 = .ok (.invokevirtual 28, 3) := by decide +kernel
theorem dX10_readWord_22 : decode cX10_readWord 22 = .ok (.invokestatic 42, 3) := by decide +kernel
theorem dX10_readWord_25 : decode cX10_readWord 25 = .ok (.ifCond .eq 16, 3) := by decide +kernel
theorem dX10_readWord_28 : decode cX10_readWord 28 = .ok (.aload_n 0, 1) := by decide +kernel
theorem dX10_readWord_29 : decode cX10_readWord 29 = .ok (.dup, 1) := by decide +kernel
theorem dX10_readWord_30 : decode cX10_readWord 30 = .ok (.getfield 25, 3) := by decide +kernel
theorem dX10_readWord_33 : decode cX10_readWord 33 = .ok (.iconst 1, 1) := by decide +kernel
theorem dX10_readWord_34 : decode cX10_readWord 34 = .ok (.iadd, 1) := by decide +kernel
theorem dX10_readWord_35 : decode cX10_readWord 35 = .ok (.putfield 25, 3) := by decide +kernel
theorem dX10_readWord_38 : decode cX10_readWord 38 = .ok (.goto (-38), 3) := by decide +kernel
theorem dX10_readWord_41 : decode cX10_readWord 41 = .ok (.aload_n 0, 1) := by decide +kernel
theorem dX10_readWord_42 : decode cX10_readWord 42 = .ok (.aload_n 0, 1) := by decide +kernel
theorem dX10_readWord_43 : decode cX10_readWord 43 = .ok (.getfield 25, 3) := by decide +kernel
theorem dX10_readWord_46 : decode cX10_readWord 46 = .ok (.aload_n 0, 1) := by decide +kernel
theorem dX10_readWord_47 : decode cX10_readWord 47 = .ok (.getfield 36, 3) := by decide +kernel
theorem dX10_readWord_50 : decode cX10_readWord 50 = .ok (.isub, 1) := by decide +kernel
theorem dX10_readWord_51 : decode cX10_readWord 51 = .ok (.bipush 10, 2) := by decide +kernel
theorem dX10_readWord_53 : decode cX10_readWord 53 = .ok (.if_icmp .le 7, 3) := by decide +kernel
theorem dX10_readWord_56 : decode cX10_readWord 56 = .ok (.iconst 1, 1) := by decide +kernel
theorem dX10_readWord_57 : decode cX10_readWord 57 = .ok (.goto 7, 3) := by decide +kernel
theorem dX10_readWord_60 : decode cX10_readWord 60 = .ok (.aload_n 0, 1) := by decide +kernel
theorem dX10_readWord_61 : decode cX10_readWord 61 = .ok (.invokevirtual 57, 3) := by decide +kernel
theorem dX10_readWord_64 : decode cX10_readWord 64 = .ok (.putfield 39, 3) := by decide +kernel
theorem dX10_readWord_67 : decode cX10_readWord 67 = .ok (.return_, 1) := by decide +kernel
theorem kSX10_readWord : yX10_readWord.cls ≠ "java/lang/invoke/MethodHandle" ∧ yX10_readWord.cls ≠ "java/lang/invoke/VarHandle" ∧ (parseMethodDescriptor yX10_readWord.desc).map (fun d => d.parameters.length) = some 0 := by decide +kernel
theorem kVX10_readWord : yX10_readWord.cls = RX10 ∧ yX10_readWord.cls ≠ "java/lang/invoke/MethodHandle" ∧ yX10_readWord.cls ≠ "java/lang/invoke/VarHandle" ∧ (parseMethodDescriptor yX10_readWord.desc).map (fun d => d.parameters.length) = some 0 := ⟨rfl, kSX10_readWord⟩
theorem dX10_markOf_0 : decode cX10_markOf 0 = .ok (.iload_n 1, 1) := by decide +kernel
theorem dX10_markOf_1 : decode cX10_markOf 1 = .ok (.tableswitch 197 33 62 #[183, 197, 197, 197, 197, 197, 197, 135, 138, 197, 144, 197, 147, 197, 197, 197, 197, 197, 197, 197, 197, 197, 197, 197, 197, 197, 141, 153, 150, 168], 135) := by decide +kernel
theorem dX10_markOf_136 : decode cX10_markOf 136 = .ok (.bipush 17, 2) := by decide +kernel
theorem dX10_markOf_138 : decode cX10_markOf 138 = .ok (.ireturn, 1) := by decide +kernel
theorem dX10_markOf_139 : decode cX10_markOf 139 = .ok (.bipush 18, 2) := by decide +kernel
theorem dX10_markOf_141 : decode cX10_markOf 141 = .ok (.ireturn, 1) := by decide +kernel
theorem dX10_markOf_142 : decode cX10_markOf 142 = .ok (.bipush 19, 2) := by decide +kernel
theorem dX10_markOf_144 : decode cX10_markOf 144 = .ok (.ireturn, 1) := by decide +kernel
theorem dX10_markOf_145 : decode cX10_markOf 145 = .ok (.bipush 20, 2) := by decide +kernel
theorem dX10_markOf_147 : decode cX10_markOf 147 = .ok (.ireturn, 1) := by decide +kernel
theorem dX10_markOf_148 : decode cX10_markOf 148 = .ok (.bipush 21, 2) := by decide +kernel
theorem dX10_markOf_150 : decode cX10_markOf 150 = .ok (.ireturn, 1) := by decide +kernel
theorem dX10_markOf_151 : decode cX10_markOf 151 = .ok (.bipush 26, 2) := by decide +kernel
theorem dX10_markOf_153 : decode cX10_markOf 153 = .ok (.ireturn, 1) := by decide +kernel
theorem dX10_markOf_154 : decode cX10_markOf 154 = .ok (.aload_n 0, 1) := by decide +kernel
theorem dX10_markOf_155 : decode cX10_markOf 155 = .ok (.invokevirtual 64, 3) := by decide +kernel
theorem dX10_markOf_158 : decode cX10_markOf 158 = .ok (.ifCond .eq 8, 3) := by decide +kernel
theorem dX10_markOf_161 : decode cX10_markOf 161 = .ok (.bipush 23, 2) := by decide +kernel
theorem dX10_markOf_163 : decode cX10_markOf 163 = .ok (.goto 5, 3) := by decide +kernel
theorem dX10_markOf_166 : decode cX10_markOf 166 = .ok (.bipush 22, 2) := by decide +kernel
theorem dX10_markOf_168 : decode cX10_markOf 168 = .ok (.ireturn, 1) := by decide +kernel
theorem dX10_markOf_169 : decode cX10_markOf 169 = .ok (.aload_n 0, 1) := by decide +kernel
theorem dX10_markOf_170 : decode cX10_markOf 170 = .ok (.invokevirtual 64, 3) := by decide +kernel
theorem dX10_markOf_173 : decode cX10_markOf 173 = .ok (.ifCond .eq 8, 3) := by decide +kernel
theorem dX10_markOf_176 : decode cX10_markOf 176 = .ok (.bipush 25, 2) := by decide +kernel
theorem dX10_markOf_178 : decode cX10_markOf 178 = .ok (.goto 5, 3) := by decide +kernel
theorem dX10_markOf_181 : decode cX10_markOf 181 = .ok (.bipush 24, 2) := by decide +kernel
theorem dX10_markOf_183 : decode cX10_markOf 183 = .ok (.ireturn, 1) := by decide +kernel
theorem dX10_markOf_184 : decode cX10_markOf 184 = .ok (.aload_n 0, 1) := by decide +kernel
theorem dX10_markOf_185 : decode cX10_markOf 185 = .ok (.invokevirtual 64, 3) := by decide +kernel
theorem dX10_markOf_188 : decode cX10_markOf 188 = .ok (.ifCond .eq 8, 3) := by decide +kernel
theorem dX10_markOf_191 : decode cX10_markOf 191 = .ok (.bipush 27, 2) := by decide +kernel
theorem dX10_markOf_193 : decode cX10_markOf 193 = .ok (.goto 4, 3) := by decide +kernel
theorem dX10_markOf_196 : decode cX10_markOf 196 = .ok (.iconst 1, 1) := by decide +kernel
theorem dX10_markOf_197 : decode cX10_markOf 197 = .ok (.ireturn, 1) := by decide +kernel
theorem dX10_markOf_198 : decode cX10_markOf 198 = .ok (.iconst 1, 1) := by decide +kernel
theorem dX10_markOf_199 : decode cX10_markOf 199 = .ok (.ireturn, 1) := by decide +kernel
theorem kSX10_markOf : yX10_markOf.cls ≠ "java/lang/invoke/MethodHandle" ∧ yX10_markOf.cls ≠ "java/lang/invoke/VarHandle" ∧ (parseMethodDescriptor yX10_markOf.desc).map (fun d => d.parameters.length) = some 1 := by decide +kernel
theorem kVX10_markOf : yX10_markOf.cls = RX10 ∧ yX10_markOf.cls ≠ "java/lang/invoke/MethodHandle" ∧ yX10_markOf.cls ≠ "java/lang/invoke/VarHandle" ∧ (parseMethodDescriptor yX10_markOf.desc).map (fun d => d.parameters.length) = some 1 := ⟨rfl, kSX10_markOf⟩
theorem dX10_wordKind_0 : decode cX10_wordKind 0 = .ok (.aload_n 0, 1) := by decide +kernel
theorem dX10_wordKind_1 : decode cX10_wordKind 1 = .ok (.ldc 68, 2) := by decide +kernel
theorem dX10_wordKind_3 : decode cX10_wordKind 3 = .ok (.invokevirtual 70, 3) := by decide +kernel
theorem dX10_wordKind_6 : decode cX10_wordKind 6 = .ok (.ifCond .eq 5, 3) := by decide +kernel
theorem dX10_wordKind_9 : decode cX10_wordKind 9 = .ok (.iconst 4, 1) := by decide +kernel
theorem dX10_wordKind_10 : decode cX10_wordKind 10 = .ok (.ireturn, 1) := by decide +kernel
theorem dX10_wordKind_11 : decode cX10_wordKind 11 = .ok (.aload_n 0, 1) := by decide +kernel
theorem dX10_wordKind_12 : decode cX10_wordKind 12 = .ok (.ldc 74, 2) := by decide +kernel
theorem dX10_wordKind_14 : decode cX10_wordKind 14 = .ok (.invokevirtual 70, 3) := by decide +kernel
theorem dX10_wordKind_17 : decode cX10_wordKind 17 = .ok (.ifCond .eq 5, 3) := by decide +kernel
theorem dX10_wordKind_20 : decode cX10_wordKind 20 = .ok (.iconst 5, 1) := by decide +kernel
theorem dX10_wordKind_21 : decode cX10_wordKind 21 = .ok (.ireturn, 1) := by decide +kernel
theorem dX10_wordKind_22 : decode cX10_wordKind 22 = .ok (.aload_n 0, 1) := by decide +kernel
theorem dX10_wordKind_23 : decode cX10_wordKind 23 = .ok (.ldc 76, 2) := by decide +kernel
theorem dX10_wordKind_25 : decode cX10_wordKind 25 = .ok (.invokevirtual 70, 3) := by decide +kernel
theorem dX10_wordKind_28 : decode cX10_wordKind 28 = .ok (.ifCond .eq 6, 3) := by decide +kernel
theorem dX10_wordKind_31 : decode cX10_wordKind 31 = .ok (.bipush 6, 2) := by decide +kernel
theorem dX10_wordKind_33 : decode cX10_wordKind 33 = .ok (.ireturn, 1) := by decide +kernel
theorem dX10_wordKind_34 : decode cX10_wordKind 34 = .ok (.aload_n 0, 1) := by decide +kernel
theorem dX10_wordKind_35 : decode cX10_wordKind 35 = .ok (.ldc 78, 2) := by decide +kernel
theorem dX10_wordKind_37 : decode cX10_wordKind 37 = .ok (.invokevirtual 70, 3) := by decide +kernel
theorem dX10_wordKind_40 : decode cX10_wordKind 40 = .ok (.ifCond .eq 6, 3) := by decide +kernel
theorem dX10_wordKind_43 : decode cX10_wordKind 43 = .ok (.bipush 7, 2) := by decide +kernel
theorem dX10_wordKind_45 : decode cX10_wordKind 45 = .ok (.ireturn, 1) := by decide +kernel
theorem dX10_wordKind_46 : decode cX10_wordKind 46 = .ok (.aload_n 0, 1) := by decide +kernel
theorem dX10_wordKind_47 : decode cX10_wordKind 47 = .ok (.ldc 80, 2) := by decide +kernel
theorem dX10_wordKind_49 : decode cX10_wordKind 49 = .ok (.invokevirtual 70, 3) := by decide +kernel
theorem dX10_wordKind_52 : decode cX10_wordKind 52 = .ok (.ifCond .eq 6, 3) := by decide +kernel
theorem dX10_wordKind_55 : decode cX10_wordKind 55 = .ok (.bipush 8, 2) := by decide +kernel
theorem dX10_wordKind_57 : decode cX10_wordKind 57 = .ok (.ireturn, 1) := by decide +kernel
theorem dX10_wordKind_58 : decode cX10_wordKind 58 = .ok (.aload_n 0, 1) := by decide +kernel
theorem dX10_wordKind_59 : decode cX10_wordKind 59 = .ok (.ldc 82, 2) := by decide +kernel
theorem dX10_wordKind_61 : decode cX10_wordKind 61 = .ok (.invokevirtual 70, 3) := by decide +kernel
theorem dX10_wordKind_64 : decode cX10_wordKind 64 = .ok (.ifCond .eq 6, 3) := by decide +kernel
theorem dX10_wordKind_67 : decode cX10_wordKind 67 = .ok (.bipush 9, 2) := by decide +kernel
theorem dX10_wordKind_69 : decode cX10_wordKind 69 = .ok (.ireturn, 1) := by decide +kernel
theorem dX10_wordKind_70 : decode cX10_wordKind 70 = .ok (.aload_n 0, 1) := by decide +kernel
theorem dX10_wordKind_71 : decode cX10_wordKind 71 = .ok (.ldc 84, 2) := by decide +kernel
theorem dX10_wordKind_73 : decode cX10_wordKind 73 = .ok (.invokevirtual 70, 3) := by decide +kernel
theorem dX10_wordKind_76 : decode cX10_wordKind 76 = .ok (.ifCond .eq 6, 3) := by decide +kernel
theorem dX10_wordKind_79 : decode cX10_wordKind 79 = .ok (.bipush 10, 2) := by decide +kernel
theorem dX10_wordKind_81 : decode cX10_wordKind 81 = .ok (.ireturn, 1) := by decide +kernel
theorem dX10_wordKind_82 : decode cX10_wordKind 82 = .ok (.aload_n 0, 1) := by decide +kernel
theorem dX10_wordKind_83 : decode cX10_wordKind 83 = .ok (.ldc 86, 2) := by decide +kernel
theorem dX10_wordKind_85 : decode cX10_wordKind 85 = .ok (.invokevirtual 70, 3) := by decide +kernel
theorem dX10_wordKind_88 : decode cX10_wordKind 88 = .ok (.ifCond .eq 6, 3) := by decide +kernel
theorem dX10_wordKind_91 : decode cX10_wordKind 91 = .ok (.bipush 11, 2) := by decide +kernel
theorem dX10_wordKind_93 : decode cX10_wordKind 93 = .ok (.ireturn, 1) := by decide +kernel
theorem dX10_wordKind_94 : decode cX10_wordKind 94 = .ok (.aload_n 0, 1) := by decide +kernel
theorem dX10_wordKind_95 : decode cX10_wordKind 95 = .ok (.ldc 88, 2) := by decide +kernel
theorem dX10_wordKind_97 : decode cX10_wordKind 97 = .ok (.invokevirtual 70, 3) := by decide +kernel
theorem dX10_wordKind_100 : decode cX10_wordKind 100 = .ok (.ifCond .eq 6, 3) := by decide +kernel
theorem dX10_wordKind_103 : decode cX10_wordKind 103 = .ok (.bipush 12, 2) := by decide +kernel
theorem dX10_wordKind_105 : decode cX10_wordKind 105 = .ok (.ireturn, 1) := by decide +kernel
theorem dX10_wordKind_106 : decode cX10_wordKind 106 = .ok (.aload_n 0, 1) := by decide +kernel
theorem dX10_wordKind_107 : decode cX10_wordKind 107 = .ok (.ldc 90, 2) := by decide +kernel
theorem dX10_wordKind_109 : decode cX10_wordKind 109 = .ok (.invokevirtual 70, 3) := by decide +kernel
theorem dX10_wordKind_112 : decode cX10_wordKind 112 = .ok (.ifCond .eq 6, 3) := by decide +kernel
theorem dX10_wordKind_115 : decode cX10_wordKind 115 = .ok (.bipush 13, 2) := by decide +kernel
theorem dX10_wordKind_117 : decode cX10_wordKind 117 = .ok (.ireturn, 1) := by decide +kernel
theorem dX10_wordKind_118 : decode cX10_wordKind 118 = .ok (.aload_n 0, 1) := by decide +kernel
theorem dX10_wordKind_119 : decode cX10_wordKind 119 = .ok (.ldc 92, 2) := by decide +kernel
theorem dX10_wordKind_121 : decode cX10_wordKind 121 = .ok (.invokevirtual 70, 3) := by decide +kernel
theorem dX10_wordKind_124 : decode cX10_wordKind 124 = .ok (.ifCond .eq 6, 3) := by decide +kernel
theorem dX10_wordKind_127 : decode cX10_wordKind 127 = .ok (.bipush 14, 2) := by decide +kernel
theorem dX10_wordKind_129 : decode cX10_wordKind 129 = .ok (.ireturn, 1) := by decide +kernel
theorem dX10_wordKind_130 : decode cX10_wordKind 130 = .ok (.aload_n 0, 1) := by decide +kernel
theorem dX10_wordKind_131 : decode cX10_wordKind 131 = .ok (.ldc 94, 2) := by decide +kernel
theorem dX10_wordKind_133 : decode cX10_wordKind 133 = .ok (.invokevirtual 70, 3) := by decide +kernel
theorem dX10_wordKind_136 : decode cX10_wordKind 136 = .ok (.ifCond .eq 6, 3) := by decide +kernel
theorem dX10_wordKind_139 : decode cX10_wordKind 139 = .ok (.bipush 15, 2) := by decide +kernel
theorem dX10_wordKind_141 : decode cX10_wordKind 141 = .ok (.ireturn, 1) := by decide +kernel
theorem dX10_wordKind_142 : decode cX10_wordKind 142 = .ok (.aload_n 0, 1) := by decide +kernel
theorem dX10_wordKind_143 : decode cX10_wordKind 143 = .ok (.ldc 96, 2) := by decide +kernel
theorem dX10_wordKind_145 : decode cX10_wordKind 145 = .ok (.invokevirtual 70, 3) := by decide +kernel
theorem dX10_wordKind_148 : decode cX10_wordKind 148 = .ok (.ifCond .eq 8, 3) := by decide +kernel
theorem dX10_wordKind_151 : decode cX10_wordKind 151 = .ok (.bipush 16, 2) := by decide +kernel
theorem dX10_wordKind_153 : decode cX10_wordKind 153 = .ok (.goto 4, 3) := by decide +kernel
theorem dX10_wordKind_156 : decode cX10_wordKind 156 = .ok (.iconst 2, 1) := by decide +kernel
theorem dX10_wordKind_157 : decode cX10_wordKind 157 = .ok (.ireturn, 1) := by decide +kernel
theorem kSX10_wordKind : yX10_wordKind.cls ≠ "java/lang/invoke/MethodHandle" ∧ yX10_wordKind.cls ≠ "java/lang/invoke/VarHandle" ∧ (parseMethodDescriptor yX10_wordKind.desc).map (fun d => d.parameters.length) = some 0 := by decide +kernel
theorem kVX10_wordKind : yX10_wordKind.cls = RX10 ∧ yX10_wordKind.cls ≠ "java/lang/invoke/MethodHandle" ∧ yX10_wordKind.cls ≠ "java/lang/invoke/VarHandle" ∧ (parseMethodDescriptor yX10_wordKind.desc).map (fun d => d.parameters.length) = some 0 := ⟨rfl, kSX10_wordKind⟩
theorem dX10_spells_0 : decode cX10_spells 0 = .ok (.aload_n 0, 1) := by decide +kernel
theorem dX10_spells_1 : decode cX10_spells 1 = .ok (.getfield 25, 3) := by decide +kernel
theorem dX10_spells_4 : decode cX10_spells 4 = .ok (.aload_n 0, 1) := by decide +kernel
theorem dX10_spells_5 : decode cX10_spells 5 = .ok (.getfield 36, 3) := by decide +kernel
theorem dX10_spells_8 : decode cX10_spells 8 = .ok (.isub, 1) := by decide +kernel
theorem dX10_spells_9 : decode cX10_spells 9 = .ok (.aload_n 1, 1) := by decide +kernel
theorem dX10_spells_10 : decode cX10_spells 10 = .ok (.invokevirtual 98, 3) := by decide +kernel
theorem dX10_spells_13 : decode cX10_spells 13 = .ok (.if_icmp .eq 5, 3) := by decide +kernel
theorem dX10_spells_16 : decode cX10_spells 16 = .ok (.iconst 0, 1) := by decide +kernel
theorem dX10_spells_17 : decode cX10_spells 17 = .ok (.ireturn, 1) := by decide +kernel
theorem dX10_spells_18 : decode cX10_spells 18 = .ok (.iconst 0, 1) := by decide +kernel
theorem dX10_spells_19 : decode cX10_spells 19 = .ok (.istore_n 2, 1) := by decide +kernel
theorem dX10_spells_20 : decode cX10_spells 20 = .ok (.iload_n 2, 1) := by decide +kernel
theorem dX10_spells_21 : decode cX10_spells 21 = .ok (.aload_n 1, 1) := by decide +kernel
theorem dX10_spells_22 : decode cX10_spells 22 = .ok (.invokevirtual 98, 3) := by decide +kernel
theorem dX10_spells_25 : decode cX10_spells 25 = .ok (.if_icmp .ge 32, 3) := by decide +kernel
theorem dX10_spells_28 : decode cX10_spells 28 = .ok (.aload_n 0, 1) := by decide +kernel
theorem dX10_spells_29 : decode cX10_spells 29 = .ok (.getfield 14, 3) := by decide +kernel
theorem dX10_spells_32 : decode cX10_spells 32 = .ok (.aload_n 0, 1) := by decide +kernel
theorem dX10_spells_33 : decode cX10_spells 33 = .ok (.getfield 36, 3) := by decide +kernel
theorem dX10_spells_36 : decode cX10_spells 36 = .ok (.iload_n 2, 1) := by decide +kernel
theorem dX10_spells_37 : decode cX10_spells 37 = .ok (.iadd, 1) := by decide +kernel
theorem dX10_spells_38 : decode cX10_spells 38 = .ok (.invokevirtual 28, 3) := by decide +kernel
theorem dX10_spells_41 : decode cX10_spells 41 = .ok (.aload_n 1, 1) := by decide +kernel
theorem dX10_spells_42 : decode cX10_spells 42 = .ok (.iload_n 2, 1) := by decide +kernel
theorem dX10_spells_43 : decode cX10_spells 43 = .ok (.invokevirtual 102, 3) := by decide +kernel
theorem dX10_spells_46 : decode cX10_spells 46 = .ok (.if_icmp .eq 5, 3) := by decide +kernel
theorem dX10_spells_49 : decode cX10_spells 49 = .ok (.iconst 0, 1) := by decide +kernel
theorem dX10_spells_50 : decode cX10_spells 50 = .ok (.ireturn, 1) := by decide +kernel
theorem dX10_spells_51 : decode cX10_spells 51 = .ok (.iinc 2 1, 3) := by decide +kernel
theorem dX10_spells_54 : decode cX10_spells 54 = .ok (.goto (-34), 3) := by decide +kernel
theorem dX10_spells_57 : decode cX10_spells 57 = .ok (.iconst 1, 1) := by decide +kernel
theorem dX10_spells_58 : decode cX10_spells 58 = .ok (.ireturn, 1) := by decide +kernel
theorem kSX10_spells : yX10_spells.cls ≠ "java/lang/invoke/MethodHandle" ∧ yX10_spells.cls ≠ "java/lang/invoke/VarHandle" ∧ (parseMethodDescriptor yX10_spells.desc).map (fun d => d.parameters.length) = some 1 := by decide +kernel
theorem kVX10_spells : yX10_spells.cls = RX10 ∧ yX10_spells.cls ≠ "java/lang/invoke/MethodHandle" ∧ yX10_spells.cls ≠ "java/lang/invoke/VarHandle" ∧ (parseMethodDescriptor yX10_spells.desc).map (fun d => d.parameters.length) = some 1 := ⟨rfl, kSX10_spells⟩
theorem dX11_keepLaws_0 : decode cX11_keepLaws 0 = .ok (.aload_n 0, 1) := by decide +kernel
theorem dX11_keepLaws_1 : decode cX11_keepLaws 1 = .ok (.getfield 10, 3) := by decide +kernel
theorem dX11_keepLaws_4 : decode cX11_keepLaws 4 = .ok (.iconst 3, 1) := by decide +kernel
theorem dX11_keepLaws_5 : decode cX11_keepLaws 5 = .ok (.invokevirtual 134, 3) := by decide +kernel
theorem dX11_keepLaws_8 : decode cX11_keepLaws 8 = .ok (.istore_n 2, 1) := by decide +kernel
theorem dX11_keepLaws_9 : decode cX11_keepLaws 9 = .ok (.iload_n 2, 1) := by decide +kernel
theorem dX11_keepLaws_10 : decode cX11_keepLaws 10 = .ok (.ifCond .lt 27, 3) := by decide +kernel
theorem dX11_keepLaws_13 : decode cX11_keepLaws 13 = .ok (.iload_n 2, 1) := by decide +kernel
theorem dX11_keepLaws_14 : decode cX11_keepLaws 14 = .ok (.aload_n 0, 1) := by decide +kernel
theorem dX11_keepLaws_15 : decode cX11_keepLaws 15 = .ok (.getfield 88, 3) := by decide +kernel
theorem dX11_keepLaws_18 : decode cX11_keepLaws 18 = .ok (.invokevirtual 138, 3) := by decide +kernel
theorem dX11_keepLaws_21 : decode cX11_keepLaws 21 = .ok (.if_icmp .ge 16, 3) := by decide +kernel
theorem dX11_keepLaws_24 : decode cX11_keepLaws 24 = .ok (.aload_n 0, 1) := by decide +kernel
theorem dX11_keepLaws_25 : decode cX11_keepLaws 25 = .ok (.getfield 88, 3) := by decide +kernel
theorem dX11_keepLaws_28 : decode cX11_keepLaws 28 = .ok (.iload_n 2, 1) := by decide +kernel
theorem dX11_keepLaws_29 : decode cX11_keepLaws 29 = .ok (.aload_n 1, 1) := by decide +kernel
theorem dX11_keepLaws_30 : decode cX11_keepLaws 30 = .ok (.invokevirtual 141, 3) := by decide +kernel
theorem dX11_keepLaws_33 : decode cX11_keepLaws 33 = .ok (.pop, 1) := by decide +kernel
theorem dX11_keepLaws_34 : decode cX11_keepLaws 34 = .ok (.goto 12, 3) := by decide +kernel
theorem dX11_keepLaws_37 : decode cX11_keepLaws 37 = .ok (.aload_n 0, 1) := by decide +kernel
theorem dX11_keepLaws_38 : decode cX11_keepLaws 38 = .ok (.getfield 88, 3) := by decide +kernel
theorem dX11_keepLaws_41 : decode cX11_keepLaws 41 = .ok (.aload_n 1, 1) := by decide +kernel
theorem dX11_keepLaws_42 : decode cX11_keepLaws 42 = .ok (.invokevirtual 145, 3) := by decide +kernel
theorem dX11_keepLaws_45 : decode cX11_keepLaws 45 = .ok (.pop, 1) := by decide +kernel
theorem dX11_keepLaws_46 : decode cX11_keepLaws 46 = .ok (.aload_n 0, 1) := by decide +kernel
theorem dX11_keepLaws_47 : decode cX11_keepLaws 47 = .ok (.getfield 10, 3) := by decide +kernel
theorem dX11_keepLaws_50 : decode cX11_keepLaws 50 = .ok (.iconst 3, 1) := by decide +kernel
theorem dX11_keepLaws_51 : decode cX11_keepLaws 51 = .ok (.iload_n 2, 1) := by decide +kernel
theorem dX11_keepLaws_52 : decode cX11_keepLaws 52 = .ok (.iconst 1, 1) := by decide +kernel
theorem dX11_keepLaws_53 : decode cX11_keepLaws 53 = .ok (.iadd, 1) := by decide +kernel
theorem dX11_keepLaws_54 : decode cX11_keepLaws 54 = .ok (.invokevirtual 149, 3) := by decide +kernel
theorem dX11_keepLaws_57 : decode cX11_keepLaws 57 = .ok (.return_, 1) := by decide +kernel
theorem kSX11_keepLaws : yX11_keepLaws.cls ≠ "java/lang/invoke/MethodHandle" ∧ yX11_keepLaws.cls ≠ "java/lang/invoke/VarHandle" ∧ (parseMethodDescriptor yX11_keepLaws.desc).map (fun d => d.parameters.length) = some 1 := by decide +kernel
theorem kVX11_keepLaws : yX11_keepLaws.cls = RX11 ∧ yX11_keepLaws.cls ≠ "java/lang/invoke/MethodHandle" ∧ yX11_keepLaws.cls ≠ "java/lang/invoke/VarHandle" ∧ (parseMethodDescriptor yX11_keepLaws.desc).map (fun d => d.parameters.length) = some 1 := ⟨rfl, kSX11_keepLaws⟩
end
section
theorem ngr_ne {a b : Nat} (h : a < b) (hb : b < 2 ^ 31) : ¬ nI b = nI a := fun e => by
  have h1 := congrArg Int32.toNatClampNeg e
  rw [nI_clamp hb, nI_clamp (by omega)] at h1
  omega
theorem ngr_min {a b : Nat} (h : a < b) (hb : b < 2 ^ 31) : (if nI b < nI a then nI b else nI a) = nI a := if_neg (fun z => by
  have := (nI_ltI hb (by omega)).mp z
  omega)
theorem ngr_max {a b : Nat} (ha : a < 2 ^ 31) (hb : b < 2 ^ 31) : (if nI a < nI b then nI b else nI a) = nI (max a b) := by
  by_cases h : a < b
  · rw [if_pos (nI_lt h hb), Nat.max_eq_right (by omega)]
  · rw [if_neg (fun z => h ((nI_ltI ha hb).mp z)), Nat.max_eq_left (by omega)]
theorem ngr_two (n : Nat) : (2 : Int32) * nI n = nI (2 * n) := by
  have h : (2 : Int32) = nI 2 := rfl
  rw [h]
  exact (Int32.ofNat_mul 2 n).symm
theorem ngr_one (n : Nat) : nI n + 1 = nI (n + 1) := nI_add n 1
def wo_c_copyOf : List Cond := [.arrayClass .int, .methodLink RJ7 304 Lib.Math.min.name, .static Lib.Math.min.name, .initialized RJ9, .code Lib.Math.min.name Lib.Math.min.code 2 (some .int), .methodLink RJ7 150 arraycopyName, .static arraycopyName, .native arraycopyName, .initialized RJ10]
def wq_c_copyOf : List Cond := .code yJ7_copyOf_59c91 cJ7_copyOf_59c91 3 (some (.array .int)) :: (wo_c_copyOf ++ [])
theorem gd_c_copyOf : ∀ w ∈ wq_c_copyOf, Gd w := List.forall_mem_cons.mpr ⟨Or.inl rfl, List.forall_mem_append.mpr ⟨gdl wo_c_copyOf (by decide +kernel), (fun _ h => absurd h List.not_mem_nil)⟩⟩
theorem in_c_copyOf : ∀ w ∈ wq_c_copyOf, w ∈ lw_tbl := List.forall_mem_cons.mpr ⟨List.mem_of_getElem? (i := 954) (by decide +kernel), List.forall_mem_append.mpr ⟨inT wo_c_copyOf [213, 935, 936, 157, 937, 938, 939, 940, 181] (by decide +kernel), (fun _ h => absurd h List.not_mem_nil)⟩⟩
set_option maxHeartbeats 4000000 in
set_option maxRecDepth 100000 in
theorem c_copyOf (l : Launch) (G : gG) (a0 n : Nat) (f : Nat → Int32) (k sz : Nat) (hn : n < k) (hk : k ≤ 16777216) : Met l yJ7_copyOf_59c91 wq_c_copyOf ({ frames := 1, cells := 1, slots := k, locals := 40 }) (va_Pc [.ref a0, .int (nI k)] (mP G [(a0, .inl (gI G, n, .inl f))] sz)) (va_Qr (fun _ : Unit => True) (fun (_ : Unit) (q : Nat) (t : State) => va_P (gD G) vwCl [(a0, .inl (gI G, n, .inl f)), (q, .inl (gI G, k, .inl (va_cpy f (fun _ => 0) 0 0 n)))] t.heap ∧ va_D (va_A [(a0, .inl (gI G, n, .inl f))] sz) [(a0, .inl (gI G, n, .inl f)), (q, .inl (gI G, k, .inl (va_cpy f (fun _ => 0) 0 0 n)))]) (va_A [(a0, .inl (gI G, n, .inl f))] sz)) 1 k (va_A [(a0, .inl (gI G, n, .inl f))] sz) := by
  refine Met.ofW (cc := cJ7_copyOf_59c91) (maxL := 3) (ret := (some (.array .int))) (by decide) rfl ?_
  intro p e s m args below meth c s₁ B hml hv
  obtain ⟨rfl, hsz, hP, hB, hD0⟩ := hv
  have hx := B.exec
  have hb := B.bytes
  have hr := B.returns
  have hts := atoms_spec (ws := wq_c_copyOf) B.pre
  have hown : s.vm.findClass RJ7 = some m.cls := findClass_of_methodNamed B.named
  have hlocks := B.notSynchronized
  have hK := hB.1
  subst hsz
  have hD := hD0.self (sz := s.heap.size)
  have hA : ∀ q : Nat, s.heap.size ≤ q → va_A [(a0, .inl (gI G, n, .inl f))] s.heap.size q := fun q h => Or.inr h
  generalize va_A [(a0, .inl (gI G, n, .inl f))] s.heap.size = A at hD hA ⊢
  have hS : va_S A s.heap s.heap [] := va_S.rf
  have hl := lv_entry ([.ref a0, .int (nI k)]) (n := 3) (Nat.le_of_ble_eq_true rfl)
  rw [lg_entry_eq]
  generalize (lg_sl ([.ref a0, .int (nI k)]) ++ List.replicate (3 - (lg_sl ([.ref a0, .int (nI k)])).length) Slot.unset).toArray = ls at hl ⊢
  have hl : lv_has ls 3 [(0, .ref a0), (1, .int (nI k))] := hl
  refine lv_iload_n hx hb dJ7_copyOf_59c91_0 rfl (lv_at hl 1 rfl) ?_
  refine lv_aload_n hx hb dJ7_copyOf_59c91_1 rfl (lv_at hl 0 rfl) ?_
  refine va_alen (D := gD G) (v := nI n) hx hb hK hP 0 0 rfl rfl rfl dJ7_copyOf_59c91_2 ?_
  refine lv_icmp_ne (tgt := 14) hx hb dJ7_copyOf_59c91_3 (by decide) (fun _ => ?_) (fun c9 => absurd c9 (ngr_ne hn (by omega)))
  refine lv_iload_n hx hb dJ7_copyOf_59c91_14 rfl (lv_at hl 1 rfl) ?_
  refine va_newa (atype := .int) (D := gD G) (ty := .int) (a0 := (k, .inl (fun _ => 0))) hx hb (hts (.arrayClass .int) (List.mem_cons_of_mem _ (List.mem_append_left _ (List.mem_of_getElem? (i := 0) rfl)))) rfl hK hP hD hS hA (fun _ => rfl) (nI_pos (by omega)) (nI_clamp (by omega)) (by show k * 4 ≤ 536870912; omega) (Nat.le_of_ble_eq_true rfl) (by show 0 + k ≤ k; omega) dJ7_copyOf_59c91_15 (fun q cA H hK9 hP hD hS => ?_)
  have e9 : cA = gI G := ky_I hK9
  subst e9
  refine lv_astore_n (lv' := [(2, .ref q), (0, .ref a0), (1, .int (nI k))]) hx hb dJ7_copyOf_59c91_17 rfl hl (by decide) rfl (fun ls hl => ?_)
  refine lv_aload_n hx hb dJ7_copyOf_59c91_18 rfl (lv_at hl 1 rfl) ?_
  refine lv_iconst (v := 0) hx hb dJ7_copyOf_59c91_19 (by decide) ?_
  refine lv_aload_n hx hb dJ7_copyOf_59c91_20 rfl (lv_at hl 0 rfl) ?_
  refine lv_iconst (v := 0) hx hb dJ7_copyOf_59c91_21 (by decide) ?_
  refine lv_aload_n hx hb dJ7_copyOf_59c91_22 rfl (lv_at hl 1 rfl) ?_
  refine va_alen (D := gD G) (v := nI n) hx hb hK hP 0 0 rfl rfl rfl dJ7_copyOf_59c91_23 ?_
  refine lv_iload_n hx hb dJ7_copyOf_59c91_24 rfl (lv_at hl 2 rfl) ?_
  refine va_mmin hx hb (hml.trans hl.1.symm) hown (hts _ (List.mem_cons_of_mem _ (List.mem_append_left _ (List.mem_of_getElem? (i := 1) rfl)))) (hts _ (List.mem_cons_of_mem _ (List.mem_append_left _ (List.mem_of_getElem? (i := 2) rfl)))) (hts _ (List.mem_cons_of_mem _ (List.mem_append_left _ (List.mem_of_getElem? (i := 3) rfl)))) (hts _ (List.mem_cons_of_mem _ (List.mem_append_left _ (List.mem_of_getElem? (i := 4) rfl)))) (Nat.le_of_ble_eq_true rfl) (Nat.le_of_ble_eq_true rfl) (Nat.le_of_ble_eq_true rfl) (by show 0 + k ≤ k; omega) dJ7_copyOf_59c91_25 ?_
  refine gx_ti (ngr_min hn (by omega)) ?_
  refine va_copyi (D := gD G) hx hb (hml.trans hl.1.symm) hown (hts _ (List.mem_cons_of_mem _ (List.mem_append_left _ (List.mem_of_getElem? (i := 5) rfl)))) (hts _ (List.mem_cons_of_mem _ (List.mem_append_left _ (List.mem_of_getElem? (i := 7) rfl)))) (hts _ (List.mem_cons_of_mem _ (List.mem_append_left _ (List.mem_of_getElem? (i := 6) rfl)))) (hts _ (List.mem_cons_of_mem _ (List.mem_append_left _ (List.mem_of_getElem? (i := 8) rfl)))) hK hP hD hS 0 1 0 0 (a0 := a0) (ty := .int) (f := f) (g := fun _ => 0) (n0 := n) (n1 := k) rfl rfl rfl rfl rfl (by decide) (by decide) (nI_pos (by omega)) (by rw [nI_clamp (by omega)]; show 0 + n ≤ n; omega) (by rw [nI_clamp (by omega)]; show 0 + n ≤ k; omega) (fun _ _ => rfl) (Nat.le_of_ble_eq_true rfl) (Nat.le_of_ble_eq_true rfl) dJ7_copyOf_59c91_28 (fun H locs hP hD hS => ?_)
  rw [nI_clamp (show n < 2 ^ 31 by omega)] at hP hD
  refine lv_aload_n hx hb dJ7_copyOf_59c91_31 rfl (lv_at hl 0 rfl) ?_
  refine W.widen (k := 1) (n := k) (Nat.le_of_ble_eq_true rfl) (by show 0 + k ≤ k; omega) ?_
  exact W.aret (v := .ref q) hx hb hr (Or.inr ⟨_, rfl⟩) (Or.inr ⟨_, rfl⟩) (fun t ht hW => ⟨⟨(), q, rfl, trivial, by rw [ht]; exact hP, hD⟩, hS.F ht⟩) hS.2.2 dJ7_copyOf_59c91_32
def wo_c_Row_roomx : List Cond := [.fieldLink RX9 15 "JudoHall$Row" "cells" "[I"]
def wq_c_Row_roomx : List Cond := .code yX9_makeRoomFor cX9_makeRoomFor 2 none :: (wo_c_Row_roomx ++ (wsX90 ++ []))
theorem gd_c_Row_roomx : ∀ w ∈ wq_c_Row_roomx, Gd w := List.forall_mem_cons.mpr ⟨Or.inl rfl, List.forall_mem_append.mpr ⟨gdl wo_c_Row_roomx (by decide +kernel), (List.forall_mem_append.mpr ⟨gd_wsX90, (fun _ h => absurd h List.not_mem_nil)⟩)⟩⟩
theorem in_c_Row_roomx : ∀ w ∈ wq_c_Row_roomx, w ∈ lw_tbl := List.forall_mem_cons.mpr ⟨List.mem_of_getElem? (i := 951) (by decide +kernel), List.forall_mem_append.mpr ⟨inT wo_c_Row_roomx [209] (by decide +kernel), (List.forall_mem_append.mpr ⟨in_wsX90, (fun _ h => absurd h List.not_mem_nil)⟩)⟩⟩
set_option maxHeartbeats 4000000 in
theorem c_Row_roomx (l : Launch) (G : gG) (h0 : Nat) (a0 : Nat) (n : Nat) (f : Nat → Int32) (x : Int32) (hn : n < 2 ^ 31) (hk : x < nI n) : Met l yX9_makeRoomFor wq_c_Row_roomx ({ frames := 0, cells := 0, slots := 0, locals := 0 }) (va_Pc [.ref h0, .int x] (pP G [(h0, .inr (10, [.ref a0])), (a0, .inl (gI G, n, .inl f))])) (va_Sv (fun _ => True)) 0 0 (fun _ => False) := by
  refine Met.ofW (cc := cX9_makeRoomFor) (maxL := 2) (ret := none) (by decide) rfl ?_
  intro p e s m args below meth c s₁ B hml hv
  obtain ⟨rfl, hP, hB⟩ := hv
  have hx := B.exec
  have hb := B.bytes
  have hr := B.returns
  have hts := atoms_spec (ws := wq_c_Row_roomx) B.pre
  have hown : s.vm.findClass RX9 = some m.cls := findClass_of_methodNamed B.named
  have hlocks := B.notSynchronized
  have hK := hB.1
  have hP : va_P (gD G) vwCl [(h0, .inr (10, [.ref a0])), (a0, .inl (gI G, n, .inl f))] s.heap := hP
  have hl := lv_entry ([.ref h0, .int x]) (n := 2) (Nat.le_of_ble_eq_true rfl)
  rw [lg_entry_eq]
  generalize (lg_sl ([.ref h0, .int x]) ++ List.replicate (2 - (lg_sl ([.ref h0, .int x])).length) Slot.unset).toArray = ls at hl ⊢
  have hl : lv_has ls 2 [(0, .ref h0), (1, .int x)] := hl
  refine lv_iload_n hx hb dX9_makeRoomFor_0 rfl (lv_at hl 1 rfl) ?_
  refine lv_aload_n hx hb dX9_makeRoomFor_1 rfl (lv_at hl 0 rfl) ?_
  refine va_get (D := gD G) (ci := 10) (v := .ref a0) (C := RX9) (T := TX9) (N := 1) hx hb hts (fun _ h9 => (List.mem_cons_of_mem _ (List.mem_append_right _ (List.mem_append_left _ h9)))) hown hK hP 0 rfl rfl 0 (by decide) (hts (.fieldLink RX9 15 "JudoHall$Row" "cells" "[I") (List.mem_cons_of_mem _ (List.mem_append_left _ (List.mem_of_getElem? (i := 0) rfl)))) (fun _ h9 => h9) rfl dX9_makeRoomFor_2 ?_
  refine va_alen (D := gD G) (v := (nI n)) hx hb hK hP 1 0 rfl rfl (rfl) dX9_makeRoomFor_5 ?_
  refine lv_icmp_lt (tgt := 33) hx hb dX9_makeRoomFor_6 (by decide) (fun _ => ?_) (fun c9 => absurd hk c9)
  exact W.vret hx hb hr (fun t ht hW => ⟨rfl, trivial, ht⟩) (fun q h => absurd h List.not_mem_nil) dX9_makeRoomFor_33
def wo_c_Row_grow : List Cond := [.fieldLink RX9 15 "JudoHall$Row" "cells" "[I", .methodLink RX9 9 Lib.Math.max.name, .static Lib.Math.max.name, .initialized RJ9, .code Lib.Math.max.name Lib.Math.max.code 2 (some .int), .methodLink RX9 27 yJ7_copyOf_59c91, .static yJ7_copyOf_59c91, .initialized RJ7]
def wq_c_Row_grow : List Cond := .code yX9_makeRoomFor cX9_makeRoomFor 2 none :: (wo_c_Row_grow ++ (wsX90 ++ (wq_c_copyOf ++ [])))
theorem gd_c_Row_grow : ∀ w ∈ wq_c_Row_grow, Gd w := List.forall_mem_cons.mpr ⟨Or.inl rfl, List.forall_mem_append.mpr ⟨gdl wo_c_Row_grow (by decide +kernel), (List.forall_mem_append.mpr ⟨gd_wsX90, (List.forall_mem_append.mpr ⟨gd_c_copyOf, (fun _ h => absurd h List.not_mem_nil)⟩)⟩)⟩⟩
theorem in_c_Row_grow : ∀ w ∈ wq_c_Row_grow, w ∈ lw_tbl := List.forall_mem_cons.mpr ⟨List.mem_of_getElem? (i := 951) (by decide +kernel), List.forall_mem_append.mpr ⟨inT wo_c_Row_grow [209, 203, 204, 157, 205, 952, 953, 158] (by decide +kernel), (List.forall_mem_append.mpr ⟨in_wsX90, (List.forall_mem_append.mpr ⟨in_c_copyOf, (fun _ h => absurd h List.not_mem_nil)⟩)⟩)⟩⟩
set_option maxHeartbeats 4000000 in
set_option maxRecDepth 100000 in
theorem c_Row_grow (l : Launch) (G : gG) (h0 a0 n : Nat) (f : Nat → Int32) (j k sz : Nat) (hj : n ≤ j) (hke : max (j + 1) (2 * n) = k) (hk : k ≤ 16777216) : Met l yX9_makeRoomFor wq_c_Row_grow ({ frames := 2, cells := 1, slots := k, locals := 64 }) (va_Pc [.ref h0, .int (nI j)] (mP G [(h0, .inr (10, [.ref a0])), (a0, .inl (gI G, n, .inl f))] sz)) (va_Qv (fun _ : Unit => True) (fun (_ : Unit) (t : State) => ∃ q : Nat, va_P (gD G) vwCl [(h0, .inr (10, [.ref q])), (q, .inl (gI G, k, .inl (va_cpy f (fun _ => 0) 0 0 n)))] t.heap ∧ va_D (va_A [(h0, .inr (10, [.ref a0])), (a0, .inl (gI G, n, .inl f))] sz) [(h0, .inr (10, [.ref q])), (q, .inl (gI G, k, .inl (va_cpy f (fun _ => 0) 0 0 n)))]) (va_A [(h0, .inr (10, [.ref a0])), (a0, .inl (gI G, n, .inl f))] sz)) 1 k (va_A [(h0, .inr (10, [.ref a0])), (a0, .inl (gI G, n, .inl f))] sz) := by
  have hjk : j + 1 ≤ k := by rw [← hke]; exact Nat.le_max_left _ _
  have hnk : 2 * n ≤ k := by rw [← hke]; exact Nat.le_max_right _ _
  refine Met.ofW (cc := cX9_makeRoomFor) (maxL := 2) (ret := none) (by decide) rfl ?_
  intro p e s m args below meth c s₁ B hml hv
  obtain ⟨rfl, hsz, hP, hB, hD0⟩ := hv
  have hx := B.exec
  have hb := B.bytes
  have hr := B.returns
  have hts := atoms_spec (ws := wq_c_Row_grow) B.pre
  have hown : s.vm.findClass RX9 = some m.cls := findClass_of_methodNamed B.named
  have hlocks := B.notSynchronized
  have hK := hB.1
  subst hsz
  have hD := hD0.self (sz := s.heap.size)
  have hA : ∀ q : Nat, s.heap.size ≤ q → va_A [(h0, .inr (10, [.ref a0])), (a0, .inl (gI G, n, .inl f))] s.heap.size q := fun q h => Or.inr h
  generalize va_A [(h0, .inr (10, [.ref a0])), (a0, .inl (gI G, n, .inl f))] s.heap.size = A at hD hA ⊢
  have hS : va_S A s.heap s.heap [] := va_S.rf
  have hl := lv_entry ([.ref h0, .int (nI j)]) (n := 2) (Nat.le_of_ble_eq_true rfl)
  rw [lg_entry_eq]
  generalize (lg_sl ([.ref h0, .int (nI j)]) ++ List.replicate (2 - (lg_sl ([.ref h0, .int (nI j)])).length) Slot.unset).toArray = ls at hl ⊢
  have hl : lv_has ls 2 [(0, .ref h0), (1, .int (nI j))] := hl
  refine lv_iload_n hx hb dX9_makeRoomFor_0 rfl (lv_at hl 1 rfl) ?_
  refine lv_aload_n hx hb dX9_makeRoomFor_1 rfl (lv_at hl 0 rfl) ?_
  refine va_get (D := gD G) (ci := 10) (v := .ref a0) (C := RX9) (T := TX9) (N := 1) hx hb hts (fun _ h9 => (List.mem_cons_of_mem _ (List.mem_append_right _ (List.mem_append_left _ h9)))) hown hK hP 0 rfl rfl 0 (by decide) (hts (.fieldLink RX9 15 "JudoHall$Row" "cells" "[I") (List.mem_cons_of_mem _ (List.mem_append_left _ (List.mem_of_getElem? (i := 0) rfl)))) (fun _ h9 => h9) rfl dX9_makeRoomFor_2 ?_
  refine va_alen (D := gD G) (v := (nI n)) hx hb hK hP 1 0 rfl rfl rfl dX9_makeRoomFor_5 ?_
  refine lv_icmp_lt (tgt := 33) hx hb dX9_makeRoomFor_6 (by decide) (fun c9 => absurd ((nI_ltI (by omega) (by omega)).mp c9) (by omega)) (fun _ => ?_)
  refine lv_aload_n hx hb dX9_makeRoomFor_9 rfl (lv_at hl 0 rfl) ?_
  refine lv_aload_n hx hb dX9_makeRoomFor_10 rfl (lv_at hl 0 rfl) ?_
  refine va_get (D := gD G) (ci := 10) (v := .ref a0) (C := RX9) (T := TX9) (N := 1) hx hb hts (fun _ h9 => (List.mem_cons_of_mem _ (List.mem_append_right _ (List.mem_append_left _ h9)))) hown hK hP 0 rfl rfl 0 (by decide) (hts (.fieldLink RX9 15 "JudoHall$Row" "cells" "[I") (List.mem_cons_of_mem _ (List.mem_append_left _ (List.mem_of_getElem? (i := 0) rfl)))) (fun _ h9 => h9) rfl dX9_makeRoomFor_11 ?_
  refine lv_iload_n hx hb dX9_makeRoomFor_14 rfl (lv_at hl 1 rfl) ?_
  refine lv_iconst (v := 1) hx hb dX9_makeRoomFor_15 (by decide) ?_
  refine lv_iadd hx hb dX9_makeRoomFor_16 ?_
  refine gx_ti (ngr_one j) ?_
  refine lv_iconst (v := 2) hx hb dX9_makeRoomFor_17 (by decide) ?_
  refine lv_aload_n hx hb dX9_makeRoomFor_18 rfl (lv_at hl 0 rfl) ?_
  refine va_get (D := gD G) (ci := 10) (v := .ref a0) (C := RX9) (T := TX9) (N := 1) hx hb hts (fun _ h9 => (List.mem_cons_of_mem _ (List.mem_append_right _ (List.mem_append_left _ h9)))) hown hK hP 0 rfl rfl 0 (by decide) (hts (.fieldLink RX9 15 "JudoHall$Row" "cells" "[I") (List.mem_cons_of_mem _ (List.mem_append_left _ (List.mem_of_getElem? (i := 0) rfl)))) (fun _ h9 => h9) rfl dX9_makeRoomFor_19 ?_
  refine va_alen (D := gD G) (v := (nI n)) hx hb hK hP 1 0 rfl rfl rfl dX9_makeRoomFor_22 ?_
  refine lv_imul hx hb dX9_makeRoomFor_23 ?_
  refine gx_ti (ngr_two n) ?_
  refine va_mmax hx hb (hml.trans hl.1.symm) hown (hts _ (List.mem_cons_of_mem _ (List.mem_append_left _ (List.mem_of_getElem? (i := 1) rfl)))) (hts _ (List.mem_cons_of_mem _ (List.mem_append_left _ (List.mem_of_getElem? (i := 2) rfl)))) (hts _ (List.mem_cons_of_mem _ (List.mem_append_left _ (List.mem_of_getElem? (i := 3) rfl)))) (hts _ (List.mem_cons_of_mem _ (List.mem_append_left _ (List.mem_of_getElem? (i := 4) rfl)))) (Nat.le_of_ble_eq_true rfl) (Nat.le_of_ble_eq_true rfl) (Nat.zero_le _) (Nat.zero_le _) dX9_makeRoomFor_24 ?_
  refine gx_ti (ngr_max (by omega) (by omega)) ?_
  rw [hke]
  have hPc := hP.sub (ws' := [(a0, .inl (gI G, n, .inl f))]) [1] rfl
  have hDc := hD.sub (ws' := [(a0, .inl (gI G, n, .inl f))]) [1] (by decide) rfl
  have hFc := va_free (wc := [(a0, .inl (gI G, n, .inl f))]) hD hS hA [1] rfl
  refine va_callr (va_runS (As := [.ref a0, .int (nI k)]) (rest := [.ref h0]) ⟨hx, hb, hml, hown, hts⟩ (c_copyOf l G a0 n f k s.heap.size (by omega) hk) (va_cwS 2 hts (gdS (List.mem_cons_of_mem _ (List.mem_append_left _ (List.mem_of_getElem? (i := 5) rfl))) (List.mem_cons_of_mem _ (List.mem_append_left _ (List.mem_of_getElem? (i := 6) rfl))) (List.mem_cons_of_mem _ (List.mem_append_left _ (List.mem_of_getElem? (i := 7) rfl))) (fun w9 h9 => ⟨(List.mem_cons_of_mem _ (List.mem_append_right _ (List.mem_append_right _ (List.mem_append_left _ h9)))), gd_c_copyOf w9 h9⟩)) rfl rfl rfl kSJ7_copyOf_59c91 ⟨Nat.le_of_ble_eq_true rfl, Nat.le_of_ble_eq_true rfl⟩) (preS_m (As := [.ref a0, .int (nI k)]) hPc hB hDc) rfl rfl hl.1 rfl (lv_room (Nat.le_of_ble_eq_true rfl)) dX9_makeRoomFor_27 ⟨Nat.le_refl _, by show 0 + k ≤ k; omega⟩) hS (fun q _ h => hFc q h) hFc (fun u q t H1 locs ht hvm hw hB1 hz1 hk1 hS => ?_)
  obtain ⟨hP1, hD1⟩ := hB1
  rw [ht] at hP1
  obtain ⟨hP, hD⟩ := va_join (wr := [(h0, .inr (10, [.ref a0]))]) (w1 := [(a0, .inl (gI G, n, .inl f)), (q, .inl (gI G, k, .inl (va_cpy f (fun _ => 0) 0 0 n)))]) hP hD [1] [0] rfl rfl (by decide) (by decide) hk1 hFc hP1 hD1
  refine W.eq (g2 := F0 m 30 ls [.ref q, .ref h0]) rfl ?_
  refine va_put (D := gD G) (ci := 10) (v := .ref q) (ty := tyX9 0) (C := RX9) (T := TX9) (N := 1) hx hb hts (fun _ h9 => (List.mem_cons_of_mem _ (List.mem_append_right _ (List.mem_append_left _ h9)))) tyX9 tyX9_ok nmX9 hown hK hP hD hS 0 rfl rfl 0 (by decide) (hts (.fieldLink RX9 15 "JudoHall$Row" "cells" "[I") (List.mem_cons_of_mem _ (List.mem_append_left _ (List.mem_of_getElem? (i := 0) rfl)))) (fun _ h9 => h9) rfl (tyX9_ok 0 (by decide)) rfl rfl (Nat.le_of_ble_eq_true rfl) dX9_makeRoomFor_30 (fun H locs hP hD hS => ?_)
  have hP9 := hP.sub (ws' := [(h0, .inr (10, [.ref q])), (q, .inl (gI G, k, .inl (va_cpy f (fun _ => 0) 0 0 n)))]) [0, 2] rfl
  have hD9 := hD.sub (ws' := [(h0, .inr (10, [.ref q])), (q, .inl (gI G, k, .inl (va_cpy f (fun _ => 0) 0 0 n)))]) [0, 2] (by decide) rfl
  refine W.widen (k := 1) (n := k) (Nat.le_refl _) (by show 0 + k ≤ k; omega) ?_
  exact W.vret hx hb hr (fun t ht hW => ⟨⟨(), rfl, trivial, q, by rw [ht]; exact hP9, hD9⟩, hS.F ht⟩) hS.2.2 dX9_makeRoomFor_33
end
section
theorem dJx4a65c_elementData_915e3_0 : decode cJx4a65c_elementData_915e3 0 = .ok (.aload_n 0, 1) := by decide +kernel
theorem dJx4a65c_elementData_915e3_1 : decode cJx4a65c_elementData_915e3 1 = .ok (.getfield 9, 3) := by decide +kernel
theorem dJx4a65c_elementData_915e3_4 : decode cJx4a65c_elementData_915e3 4 = .ok (.iload_n 1, 1) := by decide +kernel
theorem dJx4a65c_elementData_915e3_5 : decode cJx4a65c_elementData_915e3 5 = .ok (.aaload, 1) := by decide +kernel
theorem dJx4a65c_elementData_915e3_6 : decode cJx4a65c_elementData_915e3 6 = .ok (.areturn, 1) := by decide +kernel
theorem kSJx4a65c_elementData_915e3 : yJx4a65c_elementData_915e3.cls ≠ "java/lang/invoke/MethodHandle" ∧ yJx4a65c_elementData_915e3.cls ≠ "java/lang/invoke/VarHandle" ∧ (parseMethodDescriptor yJx4a65c_elementData_915e3.desc).map (fun d => d.parameters.length) = some 1 := by decide +kernel
theorem kVJx4a65c_elementData_915e3 : yJx4a65c_elementData_915e3.cls = RJx4a65c ∧ yJx4a65c_elementData_915e3.cls ≠ "java/lang/invoke/MethodHandle" ∧ yJx4a65c_elementData_915e3.cls ≠ "java/lang/invoke/VarHandle" ∧ (parseMethodDescriptor yJx4a65c_elementData_915e3.desc).map (fun d => d.parameters.length) = some 1 := ⟨rfl, kSJx4a65c_elementData_915e3⟩
theorem dJ15_checkIndex_7cf53_0 : decode cJ15_checkIndex_7cf53 0 = .ok (.iload_n 0, 1) := by decide +kernel
theorem dJ15_checkIndex_7cf53_1 : decode cJ15_checkIndex_7cf53 1 = .ok (.iload_n 1, 1) := by decide +kernel
theorem dJ15_checkIndex_7cf53_2 : decode cJ15_checkIndex_7cf53 2 = .ok (.aconst_null, 1) := by decide +kernel
theorem dJ15_checkIndex_7cf53_3 : decode cJ15_checkIndex_7cf53 3 = .ok (.invokestatic 105, 3) := by decide +kernel
theorem dJ15_checkIndex_7cf53_6 : decode cJ15_checkIndex_7cf53 6 = .ok (.ireturn, 1) := by decide +kernel
theorem kSJ15_checkIndex_7cf53 : yJ15_checkIndex_7cf53.cls ≠ "java/lang/invoke/MethodHandle" ∧ yJ15_checkIndex_7cf53.cls ≠ "java/lang/invoke/VarHandle" ∧ (parseMethodDescriptor yJ15_checkIndex_7cf53.desc).map (fun d => d.parameters.length) = some 2 := by decide +kernel
theorem dJx4a65c_get_915e3_0 : decode cJx4a65c_get_915e3 0 = .ok (.iload_n 1, 1) := by decide +kernel
theorem dJx4a65c_get_915e3_1 : decode cJx4a65c_get_915e3 1 = .ok (.aload_n 0, 1) := by decide +kernel
theorem dJx4a65c_get_915e3_2 : decode cJx4a65c_get_915e3 2 = .ok (.getfield 48, 3) := by decide +kernel
theorem dJx4a65c_get_915e3_5 : decode cJx4a65c_get_915e3 5 = .ok (.invokestatic 118, 3) := by decide +kernel
theorem dJx4a65c_get_915e3_8 : decode cJx4a65c_get_915e3 8 = .ok (.pop, 1) := by decide +kernel
theorem dJx4a65c_get_915e3_9 : decode cJx4a65c_get_915e3 9 = .ok (.aload_n 0, 1) := by decide +kernel
theorem dJx4a65c_get_915e3_10 : decode cJx4a65c_get_915e3 10 = .ok (.iload_n 1, 1) := by decide +kernel
theorem dJx4a65c_get_915e3_11 : decode cJx4a65c_get_915e3 11 = .ok (.invokevirtual 123, 3) := by decide +kernel
theorem dJx4a65c_get_915e3_14 : decode cJx4a65c_get_915e3 14 = .ok (.areturn, 1) := by decide +kernel
theorem kSJx4a65c_get_915e3 : yJx4a65c_get_915e3.cls ≠ "java/lang/invoke/MethodHandle" ∧ yJx4a65c_get_915e3.cls ≠ "java/lang/invoke/VarHandle" ∧ (parseMethodDescriptor yJx4a65c_get_915e3.desc).map (fun d => d.parameters.length) = some 1 := by decide +kernel
theorem kVJx4a65c_get_915e3 : yJx4a65c_get_915e3.cls = RJx4a65c ∧ yJx4a65c_get_915e3.cls ≠ "java/lang/invoke/MethodHandle" ∧ yJx4a65c_get_915e3.cls ≠ "java/lang/invoke/VarHandle" ∧ (parseMethodDescriptor yJx4a65c_get_915e3.desc).map (fun d => d.parameters.length) = some 1 := ⟨rfl, kSJx4a65c_get_915e3⟩
def wLa : List Cond := [.fieldLink RJx4a65c 48 "java/util/ArrayList" "size" "I", .fieldLink RJx4a65c 9 "java/util/ArrayList" "elementData" "[Ljava/lang/Object;", .methodLink RJx4a65c 118 yJ15_checkIndex_7cf53, .static yJ15_checkIndex_7cf53, .initialized RJ15, .code yJ15_checkIndex_7cf53 cJ15_checkIndex_7cf53 2 (some .int), .methodLink RJ15 105 yJ3_checkIndex_8e157, .static yJ3_checkIndex_8e157, .initialized RJ3, .methodLink RJx4a65c 123 yJx4a65c_elementData_915e3, .instanceMethod yJx4a65c_elementData_915e3, .selects RJx4a65c yJx4a65c_elementData_915e3 yJx4a65c_elementData_915e3, .code yJx4a65c_elementData_915e3 cJx4a65c_elementData_915e3 2 (some (.object "java/lang/Object")), .initialized RJx4a65c, .instanceMethod yJx4a65c_size_8abf5, .selects RJx4a65c yJx4a65c_size_8abf5 yJx4a65c_size_8abf5, .code yJx4a65c_size_8abf5 cJx4a65c_size_8abf5 1 (some .int), .instanceMethod yJx4a65c_get_915e3, .selects RJx4a65c yJx4a65c_get_915e3 yJx4a65c_get_915e3, .code yJx4a65c_get_915e3 cJx4a65c_get_915e3 2 (some (.object "java/lang/Object"))]
def wL : List Cond := wLa ++ (wsJx4a65c0 ++ wJ)
theorem gd_wL : ∀ w ∈ wL, Gd w := List.forall_mem_append.mpr ⟨gdl wLa (by decide +kernel), List.forall_mem_append.mpr ⟨gd_wsJx4a65c0, gd_wJ⟩⟩
theorem in_wL : ∀ w ∈ wL, w ∈ lw_tbl := List.forall_mem_append.mpr ⟨inT wLa [544, 543, 875, 876, 179, 877, 878, 692, 177, 879, 880, 881, 882, 170, 868, 869, 870, 967, 968, 969] (by decide +kernel), List.forall_mem_append.mpr ⟨in_wsJx4a65c0, in_wJ⟩⟩
theorem wLin : ∀ w ∈ wsJx4a65c0, w ∈ wL := fun _ h => List.mem_append_right _ (List.mem_append_left _ h)
theorem wJL : ∀ w ∈ wJ, w ∈ wL := fun _ h => List.mem_append_right _ (List.mem_append_right _ h)
theorem wl0 : Cond.fieldLink RJx4a65c 48 "java/util/ArrayList" "size" "I" ∈ wL := List.mem_append_left _ (List.mem_of_getElem? (i := 0) rfl)
theorem wl1 : Cond.fieldLink RJx4a65c 9 "java/util/ArrayList" "elementData" "[Ljava/lang/Object;" ∈ wL := List.mem_append_left _ (List.mem_of_getElem? (i := 1) rfl)
theorem wl2 : Cond.methodLink RJx4a65c 118 yJ15_checkIndex_7cf53 ∈ wL := List.mem_append_left _ (List.mem_of_getElem? (i := 2) rfl)
theorem wl3 : Cond.static yJ15_checkIndex_7cf53 ∈ wL := List.mem_append_left _ (List.mem_of_getElem? (i := 3) rfl)
theorem wl4 : Cond.initialized RJ15 ∈ wL := List.mem_append_left _ (List.mem_of_getElem? (i := 4) rfl)
theorem wl5 : Cond.code yJ15_checkIndex_7cf53 cJ15_checkIndex_7cf53 2 (some .int) ∈ wL := List.mem_append_left _ (List.mem_of_getElem? (i := 5) rfl)
theorem wl6 : Cond.methodLink RJ15 105 yJ3_checkIndex_8e157 ∈ wL := List.mem_append_left _ (List.mem_of_getElem? (i := 6) rfl)
theorem wl7 : Cond.static yJ3_checkIndex_8e157 ∈ wL := List.mem_append_left _ (List.mem_of_getElem? (i := 7) rfl)
theorem wl8 : Cond.initialized RJ3 ∈ wL := List.mem_append_left _ (List.mem_of_getElem? (i := 8) rfl)
theorem wl9 : Cond.methodLink RJx4a65c 123 yJx4a65c_elementData_915e3 ∈ wL := List.mem_append_left _ (List.mem_of_getElem? (i := 9) rfl)
theorem wl10 : Cond.instanceMethod yJx4a65c_elementData_915e3 ∈ wL := List.mem_append_left _ (List.mem_of_getElem? (i := 10) rfl)
theorem wl11 : Cond.selects RJx4a65c yJx4a65c_elementData_915e3 yJx4a65c_elementData_915e3 ∈ wL := List.mem_append_left _ (List.mem_of_getElem? (i := 11) rfl)
theorem wl12 : Cond.code yJx4a65c_elementData_915e3 cJx4a65c_elementData_915e3 2 (some (.object "java/lang/Object")) ∈ wL := List.mem_append_left _ (List.mem_of_getElem? (i := 12) rfl)
theorem wl13 : Cond.initialized RJx4a65c ∈ wL := List.mem_append_left _ (List.mem_of_getElem? (i := 13) rfl)
theorem wl14 : Cond.instanceMethod yJx4a65c_size_8abf5 ∈ wL := List.mem_append_left _ (List.mem_of_getElem? (i := 14) rfl)
theorem wl15 : Cond.selects RJx4a65c yJx4a65c_size_8abf5 yJx4a65c_size_8abf5 ∈ wL := List.mem_append_left _ (List.mem_of_getElem? (i := 15) rfl)
theorem wl16 : Cond.code yJx4a65c_size_8abf5 cJx4a65c_size_8abf5 1 (some .int) ∈ wL := List.mem_append_left _ (List.mem_of_getElem? (i := 16) rfl)
theorem wl17 : Cond.instanceMethod yJx4a65c_get_915e3 ∈ wL := List.mem_append_left _ (List.mem_of_getElem? (i := 17) rfl)
theorem wl18 : Cond.selects RJx4a65c yJx4a65c_get_915e3 yJx4a65c_get_915e3 ∈ wL := List.mem_append_left _ (List.mem_of_getElem? (i := 18) rfl)
theorem wl19 : Cond.code yJx4a65c_get_915e3 cJx4a65c_get_915e3 2 (some (.object "java/lang/Object")) ∈ wL := List.mem_append_left _ (List.mem_of_getElem? (i := 19) rfl)
/-- the class of Object[] -/
def kO (g : ClassId) (U : State) : Prop := ArrOfT U g (.object "java/lang/Object") ∧ va_RA U g (.object "java/lang/Object")
theorem kO.moved {g : ClassId} {u U : State} (hvm : u.vm.Alike U.vm) (h : kO g u) : kO g U := ⟨arrOfT_moved hvm h.1, h.2.moved hvm⟩
theorem kO.K {G : gG} {g : ClassId} {U : State} (hB : KB G U) (h : kO g U) : va_K (gD G) vwCl [(g, .object "java/lang/Object")] U := ⟨hB.1.1, fun k q hk => match k, hk with | 0, hk => by cases Option.some.inj hk; exact h⟩
def aP (G : gG) (Z : gM) (g : ClassId) (A : Nat → Prop) (ws : va_W) (U : State) : Prop := va_P (gD G) vwCl ws U.heap ∧ KB G U ∧ sE Z A U U.heap ∧ kO g U
theorem aP.blind {G : gG} {Z : gM} {g : ClassId} {A : Nat → Prop} {ws : va_W} {av : List Value} : FrameBlind (va_Pc av (aP G Z g A ws)) := fun _ U f mk q => ⟨q.1, q.2.1, q.2.2.1.calling f mk _, q.2.2.2.1.calling f mk _, kO.moved (u := U) (Vm.Alike.refl U.vm) q.2.2.2.2⟩
theorem alL (y : MethodName) (b : ByteArray) (n : Nat) (r : Option FieldType) (h : Cond.code y b n r ∈ wL) : ∀ w ∈ (Cond.code y b n r :: wL), w ∈ wL ∧ Gd w := List.forall_mem_cons.mpr ⟨⟨h, gd_wL _ h⟩, fun w hw => ⟨hw, gd_wL _ hw⟩⟩
theorem a_size (l : Launch) (G : gG) (Z : gM) (g : ClassId) (A : Nat → Prop) (h0 : Nat) (mc : Int32) (ta : Value) (n : Int32) : Met l yJx4a65c_size_8abf5 (Cond.code yJx4a65c_size_8abf5 cJx4a65c_size_8abf5 1 (some .int) :: wL) { frames := 0, cells := 0, slots := 0, locals := 0 } (va_Pc [.ref h0] (aP G Z g A [(h0, .inr (0, [.int mc, ta, .int n]))])) (vp_Si (fun x : Int32 => x = n)) 0 0 (fun _ => False) := by
  refine Met.ofW (cc := cJx4a65c_size_8abf5) (maxL := 1) (ret := (some .int)) (by decide) rfl ?_
  intro p e s m args below meth c s₁ B hml hv
  obtain ⟨rfl, hP, hB, hE, hO⟩ := hv
  have hx := B.exec
  have hb := B.bytes
  have hr := B.returns
  have hlocks := B.notSynchronized
  have hts0 := atoms_spec (ws := Cond.code yJx4a65c_size_8abf5 cJx4a65c_size_8abf5 1 (some .int) :: wL) B.pre
  have hts : ∀ w ∈ wL, w.before _ s = true := fun w h => hts0 w (List.mem_cons_of_mem _ h)
  have hown : s.vm.findClass RJx4a65c = some m.cls := findClass_of_methodNamed B.named
  have hK := hB.1
  have hl := lv_entry ([.ref h0]) (n := 1) (Nat.le_of_ble_eq_true rfl)
  rw [lg_entry_eq]
  generalize (lg_sl ([.ref h0]) ++ List.replicate (1 - (lg_sl ([.ref h0])).length) Slot.unset).toArray = ls at hl ⊢
  have hl : lv_has ls 1 [(0, .ref h0)] := hl
  refine lv_aload_n hx hb dJx4a65c_size_8abf5_0 rfl (lv_at hl 0 rfl) ?_
  refine va_get (D := gD G) (ci := 0) (v := .int n) (C := RJx4a65c) (T := TJx4a65c) (N := 3) hx hb hts wLin hown hK hP 0 rfl rfl 2 (by decide) (hts _ (wl0)) (fun _ h9 => h9) rfl dJx4a65c_size_8abf5_1 ?_
  exact W.iret (v := n) hx hb hr (fun t ht hW => ⟨_, rfl, rfl, ht⟩) (fun q h => absurd h List.not_mem_nil) dJx4a65c_size_8abf5_4
theorem a_elem (l : Launch) (G : gG) (Z : gM) (g : ClassId) (A : Nat → Prop) (h0 ta cap a : Nat) (mc n i : Int32) (f : Nat → Option Nat) (hi : vp_in i cap) (hf : f i.toNatClampNeg = some a) : Met l yJx4a65c_elementData_915e3 (Cond.code yJx4a65c_elementData_915e3 cJx4a65c_elementData_915e3 2 (some (.object "java/lang/Object")) :: wL) { frames := 0, cells := 0, slots := 0, locals := 0 } (va_Pc [.ref h0, .int i] (aP G Z g A [(h0, .inr (0, [.int mc, .ref ta, .int n])), (ta, .inl (g, cap, .inr (.inr (.inr (.inr f)))))])) (va_Sr (fun _ => True) (fun _ => .ref a)) 0 0 (fun _ => False) := by
  refine Met.ofW (cc := cJx4a65c_elementData_915e3) (maxL := 2) (ret := (some (.object "java/lang/Object"))) (by decide) rfl ?_
  intro p e s m args below meth c s₁ B hml hv
  obtain ⟨rfl, hP, hB, hE, hO⟩ := hv
  have hx := B.exec
  have hb := B.bytes
  have hr := B.returns
  have hlocks := B.notSynchronized
  have hts0 := atoms_spec (ws := Cond.code yJx4a65c_elementData_915e3 cJx4a65c_elementData_915e3 2 (some (.object "java/lang/Object")) :: wL) B.pre
  have hts : ∀ w ∈ wL, w.before _ s = true := fun w h => hts0 w (List.mem_cons_of_mem _ h)
  have hown : s.vm.findClass RJx4a65c = some m.cls := findClass_of_methodNamed B.named
  have hK := hB.1
  have hl := lv_entry ([.ref h0, .int i]) (n := 2) (Nat.le_of_ble_eq_true rfl)
  rw [lg_entry_eq]
  generalize (lg_sl ([.ref h0, .int i]) ++ List.replicate (2 - (lg_sl ([.ref h0, .int i])).length) Slot.unset).toArray = ls at hl ⊢
  have hl : lv_has ls 2 [(0, .ref h0), (1, .int i)] := hl
  refine lv_aload_n hx hb dJx4a65c_elementData_915e3_0 rfl (lv_at hl 0 rfl) ?_
  refine va_get (D := gD G) (ci := 0) (v := .ref ta) (C := RJx4a65c) (T := TJx4a65c) (N := 3) hx hb hts wLin hown hK hP 0 rfl rfl 1 (by decide) (hts _ (wl1)) (fun _ h9 => h9) rfl dJx4a65c_elementData_915e3_1 ?_
  refine lv_iload_n hx hb dJx4a65c_elementData_915e3_4 rfl (lv_at hl 1 rfl) ?_
  refine va_aldq (D := gD G) hx hb (hO.K hB) hP 1 0 rfl rfl hi dJx4a65c_elementData_915e3_5 ?_
  rw [hf]
  exact W.aret (v := .ref a) hx hb hr (Or.inl ⟨_, rfl⟩) (Or.inr ⟨_, rfl⟩) (fun t ht hW => ⟨0, rfl, trivial, ht⟩) (fun q h => absurd h List.not_mem_nil) dJx4a65c_elementData_915e3_6
theorem a_chk (l : Launch) (G : gG) (Z : gM) (g : ClassId) (A : Nat → Prop) (i n : Int32) (h0 : ¬ i < 0) (h1 : i < n) : Met l yJ15_checkIndex_7cf53 (Cond.code yJ15_checkIndex_7cf53 cJ15_checkIndex_7cf53 2 (some .int) :: wL) { frames := 1, cells := 0, slots := 0, locals := 22 } (va_Pc [.int i, .int n] (aP G Z g A [])) (vp_Si (fun x : Int32 => x = i)) 0 0 (fun _ => False) := by
  refine Met.ofW (cc := cJ15_checkIndex_7cf53) (maxL := 2) (ret := (some .int)) (by decide) rfl ?_
  intro p e s m args below meth c s₁ B hml hv
  obtain ⟨rfl, hP, hB, hE, hO⟩ := hv
  have hx := B.exec
  have hb := B.bytes
  have hr := B.returns
  have hlocks := B.notSynchronized
  have hts0 := atoms_spec (ws := Cond.code yJ15_checkIndex_7cf53 cJ15_checkIndex_7cf53 2 (some .int) :: wL) B.pre
  have hts : ∀ w ∈ wL, w.before _ s = true := fun w h => hts0 w (List.mem_cons_of_mem _ h)
  have hown : s.vm.findClass RJ15 = some m.cls := findClass_of_methodNamed B.named
  have hK := hB.1
  have hl := lv_entry ([.int i, .int n]) (n := 2) (Nat.le_of_ble_eq_true rfl)
  rw [lg_entry_eq]
  generalize (lg_sl ([.int i, .int n]) ++ List.replicate (2 - (lg_sl ([.int i, .int n])).length) Slot.unset).toArray = ls at hl ⊢
  have hl : lv_has ls 2 [(0, .int i), (1, .int n)] := hl
  refine lv_iload_n hx hb dJ15_checkIndex_7cf53_0 rfl (lv_at hl 0 rfl) ?_
  refine lv_iload_n hx hb dJ15_checkIndex_7cf53_1 rfl (lv_at hl 1 rfl) ?_
  refine lv_null hx hb dJ15_checkIndex_7cf53_2 ?_
  refine vp_callSi (va_Run.run (jcallS (As := [.int i, .int n, .null]) (rest := []) ⟨hx, hb, hml, hown, hts⟩ hE va_S.rf (j_chk3N l Z A i n i (by unfold fj_chk3; rw [if_neg h0, if_pos h1])) (gdS (wl6) (wl7) (wl8) (fun w hw => ⟨wJL _ (jgood wj9 w hw).1, (jgood wj9 w hw).2⟩)) kSJ3_checkIndex_8e157 ⟨Nat.le_of_ble_eq_true rfl, Nat.le_of_ble_eq_true rfl⟩ rfl hl.1 rfl (Nat.le_of_ble_eq_true rfl) dJ15_checkIndex_7cf53_3 ⟨Nat.zero_le _, Nat.zero_le _⟩)) (fun x hx9 => ?_)
  rw [hx9]
  exact W.iret (v := i) hx hb hr (fun t ht hW => ⟨_, rfl, rfl, ht⟩) (fun q h => absurd h List.not_mem_nil) dJ15_checkIndex_7cf53_6
theorem a_get (l : Launch) (G : gG) (Z : gM) (g : ClassId) (A : Nat → Prop) (h0 ta cap a : Nat) (mc n i : Int32) (f : Nat → Option Nat) (h0i : ¬ i < 0) (h1i : i < n) (hi : vp_in i cap) (hf : f i.toNatClampNeg = some a) : Met l yJx4a65c_get_915e3 (Cond.code yJx4a65c_get_915e3 cJx4a65c_get_915e3 2 (some (.object "java/lang/Object")) :: wL) { frames := 2, cells := 0, slots := 0, locals := 43 } (va_Pc [.ref h0, .int i] (aP G Z g A [(h0, .inr (0, [.int mc, .ref ta, .int n])), (ta, .inl (g, cap, .inr (.inr (.inr (.inr f)))))])) (va_Sr (fun _ => True) (fun _ => .ref a)) 0 0 (fun _ => False) := by
  refine Met.ofW (cc := cJx4a65c_get_915e3) (maxL := 2) (ret := (some (.object "java/lang/Object"))) (by decide) rfl ?_
  intro p e s m args below meth c s₁ B hml hv
  obtain ⟨rfl, hP, hB, hE, hO⟩ := hv
  have hx := B.exec
  have hb := B.bytes
  have hr := B.returns
  have hlocks := B.notSynchronized
  have hts0 := atoms_spec (ws := Cond.code yJx4a65c_get_915e3 cJx4a65c_get_915e3 2 (some (.object "java/lang/Object")) :: wL) B.pre
  have hts : ∀ w ∈ wL, w.before _ s = true := fun w h => hts0 w (List.mem_cons_of_mem _ h)
  have hown : s.vm.findClass RJx4a65c = some m.cls := findClass_of_methodNamed B.named
  have hK := hB.1
  have hl := lv_entry ([.ref h0, .int i]) (n := 2) (Nat.le_of_ble_eq_true rfl)
  rw [lg_entry_eq]
  generalize (lg_sl ([.ref h0, .int i]) ++ List.replicate (2 - (lg_sl ([.ref h0, .int i])).length) Slot.unset).toArray = ls at hl ⊢
  have hl : lv_has ls 2 [(0, .ref h0), (1, .int i)] := hl
  refine lv_iload_n hx hb dJx4a65c_get_915e3_0 rfl (lv_at hl 1 rfl) ?_
  refine lv_aload_n hx hb dJx4a65c_get_915e3_1 rfl (lv_at hl 0 rfl) ?_
  refine va_get (D := gD G) (ci := 0) (v := .int n) (C := RJx4a65c) (T := TJx4a65c) (N := 3) hx hb hts wLin hown hK hP 0 rfl rfl 2 (by decide) (hts _ (wl0)) (fun _ h9 => h9) rfl dJx4a65c_get_915e3_2 ?_
  refine vp_callSi (va_Run.run (va_runS (As := [.int i, .int n]) (rest := []) ⟨hx, hb, hml, hown, hts⟩ (a_chk l G Z g A i n h0i h1i) (va_cwS 2 hts (gdS (wl2) (wl3) (wl4) (alL _ _ _ _ (wl5))) rfl rfl rfl kSJ15_checkIndex_7cf53 ⟨Nat.le_of_ble_eq_true rfl, Nat.le_of_ble_eq_true rfl⟩) ⟨aP.blind, fun U hU hW => ⟨rfl, (fun k q hk => by cases hk), hB.moved hW, by rw [hU]; exact hE.moved hW, hO.moved hW.alike⟩⟩ rfl rfl hl.1 rfl (lv_room (Nat.le_of_ble_eq_true rfl)) dJx4a65c_get_915e3_5 ⟨Nat.zero_le _, Nat.zero_le _⟩)) (fun x hx9 => ?_)
  refine lv_pop hx hb dJx4a65c_get_915e3_8 rfl ?_
  refine lv_aload_n hx hb dJx4a65c_get_915e3_9 rfl (lv_at hl 0 rfl) ?_
  refine lv_iload_n hx hb dJx4a65c_get_915e3_10 rfl (lv_at hl 1 rfl) ?_
  refine va_csr (va_Run.run (va_runV (As := [.int i]) (rest := []) (C := RJx4a65c) ⟨hx, hb, hml, hown, hts⟩ (a_elem l G Z g A h0 ta cap a mc n i f hi hf) (cwV 1 hts (gdV (wl9) (wl10) (wl11) (wl13) (alL _ _ _ _ (wl12))) rfl rfl rfl kVJx4a65c_elementData_915e3 ⟨Nat.le_of_ble_eq_true rfl, Nat.le_of_ble_eq_true rfl⟩) ⟨aP.blind, va_recv hB.1 hP (ci := 0) (q0 := 0) rfl rfl, fun U hU hW => ⟨rfl, by rw [hU]; exact hP, hB.moved hW, by rw [hU]; exact hE.moved hW, hO.moved hW.alike⟩⟩ rfl rfl hl.1 rfl (lv_room (Nat.le_of_ble_eq_true rfl)) dJx4a65c_get_915e3_11 ⟨Nat.zero_le _, Nat.zero_le _⟩)) (fun _ _ => ?_)
  exact W.aret (v := .ref a) hx hb hr (Or.inl ⟨_, rfl⟩) (Or.inr ⟨_, rfl⟩) (fun t ht hW => ⟨0, rfl, trivial, ht⟩) (fun q h => absurd h List.not_mem_nil) dJx4a65c_get_915e3_14
end
