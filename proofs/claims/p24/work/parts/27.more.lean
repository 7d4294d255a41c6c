theorem dX5_emitBinders_0 : decode cX5_emitBinders 0 = .ok (.iload_n 1, 1) := by decide +kernel
theorem dX5_emitBinders_1 : decode cX5_emitBinders 1 = .ok (.bipush 9, 2) := by decide +kernel
theorem dX5_emitBinders_3 : decode cX5_emitBinders 3 = .ok (.if_icmp .ne 8, 3) := by decide +kernel
theorem dX5_emitBinders_6 : decode cX5_emitBinders 6 = .ok (.bipush 9, 2) := by decide +kernel
theorem dX5_emitBinders_8 : decode cX5_emitBinders 8 = .ok (.goto 5, 3) := by decide +kernel
theorem dX5_emitBinders_11 : decode cX5_emitBinders 11 = .ok (.bipush 10, 2) := by decide +kernel
theorem dX5_emitBinders_13 : decode cX5_emitBinders 13 = .ok (.istore_n 2, 1) := by decide +kernel
theorem dX5_emitBinders_14 : decode cX5_emitBinders 14 = .ok (.aload_n 0, 1) := by decide +kernel
theorem dX5_emitBinders_15 : decode cX5_emitBinders 15 = .ok (.getfield 55, 3) := by decide +kernel
theorem dX5_emitBinders_18 : decode cX5_emitBinders 18 = .ok (.ifCond .le 70, 3) := by decide +kernel
theorem dX5_emitBinders_21 : decode cX5_emitBinders 21 = .ok (.aload_n 0, 1) := by decide +kernel
theorem dX5_emitBinders_22 : decode cX5_emitBinders 22 = .ok (.getfield 29, 3) := by decide +kernel
theorem dX5_emitBinders_25 : decode cX5_emitBinders 25 = .ok (.aload_n 0, 1) := by decide +kernel
theorem dX5_emitBinders_26 : decode cX5_emitBinders 26 = .ok (.getfield 55, 3) := by decide +kernel
theorem dX5_emitBinders_29 : decode cX5_emitBinders 29 = .ok (.iconst 1, 1) := by decide +kernel
theorem dX5_emitBinders_30 : decode cX5_emitBinders 30 = .ok (.isub, 1) := by decide +kernel
theorem dX5_emitBinders_31 : decode cX5_emitBinders 31 = .ok (.invokevirtual 152, 3) := by decide +kernel
theorem dX5_emitBinders_34 : decode cX5_emitBinders 34 = .ok (.bipush 10, 2) := by decide +kernel
theorem dX5_emitBinders_36 : decode cX5_emitBinders 36 = .ok (.if_icmp .eq 20, 3) := by decide +kernel
theorem dX5_emitBinders_39 : decode cX5_emitBinders 39 = .ok (.aload_n 0, 1) := by decide +kernel
theorem dX5_emitBinders_40 : decode cX5_emitBinders 40 = .ok (.getfield 29, 3) := by decide +kernel
theorem dX5_emitBinders_43 : decode cX5_emitBinders 43 = .ok (.aload_n 0, 1) := by decide +kernel
theorem dX5_emitBinders_44 : decode cX5_emitBinders 44 = .ok (.getfield 55, 3) := by decide +kernel
theorem dX5_emitBinders_47 : decode cX5_emitBinders 47 = .ok (.iconst 1, 1) := by decide +kernel
theorem dX5_emitBinders_48 : decode cX5_emitBinders 48 = .ok (.isub, 1) := by decide +kernel
theorem dX5_emitBinders_49 : decode cX5_emitBinders 49 = .ok (.invokevirtual 152, 3) := by decide +kernel
theorem dX5_emitBinders_52 : decode cX5_emitBinders 52 = .ok (.iload_n 2, 1) := by decide +kernel
theorem dX5_emitBinders_53 : decode cX5_emitBinders 53 = .ok (.if_icmp .ne 35, 3) := by decide +kernel
theorem dX5_emitBinders_56 : decode cX5_emitBinders 56 = .ok (.aload_n 0, 1) := by decide +kernel
theorem dX5_emitBinders_57 : decode cX5_emitBinders 57 = .ok (.dup, 1) := by decide +kernel
theorem dX5_emitBinders_58 : decode cX5_emitBinders 58 = .ok (.getfield 55, 3) := by decide +kernel
theorem dX5_emitBinders_61 : decode cX5_emitBinders 61 = .ok (.iconst 1, 1) := by decide +kernel
theorem dX5_emitBinders_62 : decode cX5_emitBinders 62 = .ok (.isub, 1) := by decide +kernel
theorem dX5_emitBinders_63 : decode cX5_emitBinders 63 = .ok (.putfield 55, 3) := by decide +kernel
theorem dX5_emitBinders_66 : decode cX5_emitBinders 66 = .ok (.aload_n 0, 1) := by decide +kernel
theorem dX5_emitBinders_67 : decode cX5_emitBinders 67 = .ok (.getfield 33, 3) := by decide +kernel
theorem dX5_emitBinders_70 : decode cX5_emitBinders 70 = .ok (.aload_n 0, 1) := by decide +kernel
theorem dX5_emitBinders_71 : decode cX5_emitBinders 71 = .ok (.getfield 29, 3) := by decide +kernel
theorem dX5_emitBinders_74 : decode cX5_emitBinders 74 = .ok (.aload_n 0, 1) := by decide +kernel
theorem dX5_emitBinders_75 : decode cX5_emitBinders 75 = .ok (.getfield 55, 3) := by decide +kernel
theorem dX5_emitBinders_78 : decode cX5_emitBinders 78 = .ok (.invokevirtual 152, 3) := by decide +kernel
theorem dX5_emitBinders_81 : decode cX5_emitBinders 81 = .ok (.iconst 0, 1) := by decide +kernel
theorem dX5_emitBinders_82 : decode cX5_emitBinders 82 = .ok (.invokevirtual 169, 3) := by decide +kernel
theorem dX5_emitBinders_85 : decode cX5_emitBinders 85 = .ok (.goto (-71), 3) := by decide +kernel
theorem dX5_emitBinders_88 : decode cX5_emitBinders 88 = .ok (.return_, 1) := by decide +kernel
theorem kSX5_emitBinders : yX5_emitBinders.cls ≠ "java/lang/invoke/MethodHandle" ∧ yX5_emitBinders.cls ≠ "java/lang/invoke/VarHandle" ∧ (parseMethodDescriptor yX5_emitBinders.desc).map (fun d => d.parameters.length) = some 1 := by decide +kernel
theorem kVX5_emitBinders : yX5_emitBinders.cls = RX5 ∧ yX5_emitBinders.cls ≠ "java/lang/invoke/MethodHandle" ∧ yX5_emitBinders.cls ≠ "java/lang/invoke/VarHandle" ∧ (parseMethodDescriptor yX5_emitBinders.desc).map (fun d => d.parameters.length) = some 1 := ⟨rfl, kSX5_emitBinders⟩
theorem dX5_closeNots_0 : decode cX5_closeNots 0 = .ok (.aload_n 0, 1) := by decide +kernel
theorem dX5_closeNots_1 : decode cX5_closeNots 1 = .ok (.getfield 55, 3) := by decide +kernel
theorem dX5_closeNots_4 : decode cX5_closeNots 4 = .ok (.ifCond .le 54, 3) := by decide +kernel
theorem dX5_closeNots_7 : decode cX5_closeNots 7 = .ok (.aload_n 0, 1) := by decide +kernel
theorem dX5_closeNots_8 : decode cX5_closeNots 8 = .ok (.getfield 29, 3) := by decide +kernel
theorem dX5_closeNots_11 : decode cX5_closeNots 11 = .ok (.aload_n 0, 1) := by decide +kernel
theorem dX5_closeNots_12 : decode cX5_closeNots 12 = .ok (.getfield 55, 3) := by decide +kernel
theorem dX5_closeNots_15 : decode cX5_closeNots 15 = .ok (.iconst 1, 1) := by decide +kernel
theorem dX5_closeNots_16 : decode cX5_closeNots 16 = .ok (.isub, 1) := by decide +kernel
theorem dX5_closeNots_17 : decode cX5_closeNots 17 = .ok (.invokevirtual 152, 3) := by decide +kernel
theorem dX5_closeNots_20 : decode cX5_closeNots 20 = .ok (.bipush 11, 2) := by decide +kernel
theorem dX5_closeNots_22 : decode cX5_closeNots 22 = .ok (.if_icmp .ne 36, 3) := by decide +kernel
theorem dX5_closeNots_25 : decode cX5_closeNots 25 = .ok (.aload_n 0, 1) := by decide +kernel
theorem dX5_closeNots_26 : decode cX5_closeNots 26 = .ok (.dup, 1) := by decide +kernel
theorem dX5_closeNots_27 : decode cX5_closeNots 27 = .ok (.getfield 55, 3) := by decide +kernel
theorem dX5_closeNots_30 : decode cX5_closeNots 30 = .ok (.iconst 1, 1) := by decide +kernel
theorem dX5_closeNots_31 : decode cX5_closeNots 31 = .ok (.isub, 1) := by decide +kernel
theorem dX5_closeNots_32 : decode cX5_closeNots 32 = .ok (.putfield 55, 3) := by decide +kernel
theorem dX5_closeNots_35 : decode cX5_closeNots 35 = .ok (.aload_n 0, 1) := by decide +kernel
theorem dX5_closeNots_36 : decode cX5_closeNots 36 = .ok (.dup, 1) := by decide +kernel
theorem dX5_closeNots_37 : decode cX5_closeNots 37 = .ok (.getfield 58, 3) := by decide +kernel
theorem dX5_closeNots_40 : decode cX5_closeNots 40 = .ok (.iconst 1, 1) := by decide +kernel
theorem dX5_closeNots_41 : decode cX5_closeNots 41 = .ok (.isub, 1) := by decide +kernel
theorem dX5_closeNots_42 : decode cX5_closeNots 42 = .ok (.putfield 58, 3) := by decide +kernel
theorem dX5_closeNots_45 : decode cX5_closeNots 45 = .ok (.aload_n 0, 1) := by decide +kernel
theorem dX5_closeNots_46 : decode cX5_closeNots 46 = .ok (.getfield 33, 3) := by decide +kernel
theorem dX5_closeNots_49 : decode cX5_closeNots 49 = .ok (.bipush 11, 2) := by decide +kernel
theorem dX5_closeNots_51 : decode cX5_closeNots 51 = .ok (.iconst 0, 1) := by decide +kernel
theorem dX5_closeNots_52 : decode cX5_closeNots 52 = .ok (.invokevirtual 169, 3) := by decide +kernel
theorem dX5_closeNots_55 : decode cX5_closeNots 55 = .ok (.goto (-55), 3) := by decide +kernel
theorem dX5_closeNots_58 : decode cX5_closeNots 58 = .ok (.return_, 1) := by decide +kernel
theorem kSX5_closeNots : yX5_closeNots.cls ≠ "java/lang/invoke/MethodHandle" ∧ yX5_closeNots.cls ≠ "java/lang/invoke/VarHandle" ∧ (parseMethodDescriptor yX5_closeNots.desc).map (fun d => d.parameters.length) = some 0 := by decide +kernel
theorem kVX5_closeNots : yX5_closeNots.cls = RX5 ∧ yX5_closeNots.cls ≠ "java/lang/invoke/MethodHandle" ∧ yX5_closeNots.cls ≠ "java/lang/invoke/VarHandle" ∧ (parseMethodDescriptor yX5_closeNots.desc).map (fun d => d.parameters.length) = some 0 := ⟨rfl, kSX5_closeNots⟩
theorem dX5_closeBracket_0 : decode cX5_closeBracket 0 = .ok (.aload_n 0, 1) := by decide +kernel
theorem dX5_closeBracket_1 : decode cX5_closeBracket 1 = .ok (.bipush 9, 2) := by decide +kernel
theorem dX5_closeBracket_3 : decode cX5_closeBracket 3 = .ok (.invokevirtual 187, 3) := by decide +kernel
theorem dX5_closeBracket_6 : decode cX5_closeBracket 6 = .ok (.aload_n 0, 1) := by decide +kernel
theorem dX5_closeBracket_7 : decode cX5_closeBracket 7 = .ok (.dup, 1) := by decide +kernel
theorem dX5_closeBracket_8 : decode cX5_closeBracket 8 = .ok (.getfield 55, 3) := by decide +kernel
theorem dX5_closeBracket_11 : decode cX5_closeBracket 11 = .ok (.iconst 1, 1) := by decide +kernel
theorem dX5_closeBracket_12 : decode cX5_closeBracket 12 = .ok (.isub, 1) := by decide +kernel
theorem dX5_closeBracket_13 : decode cX5_closeBracket 13 = .ok (.putfield 55, 3) := by decide +kernel
theorem dX5_closeBracket_16 : decode cX5_closeBracket 16 = .ok (.aload_n 0, 1) := by decide +kernel
theorem dX5_closeBracket_17 : decode cX5_closeBracket 17 = .ok (.dup, 1) := by decide +kernel
theorem dX5_closeBracket_18 : decode cX5_closeBracket 18 = .ok (.getfield 58, 3) := by decide +kernel
theorem dX5_closeBracket_21 : decode cX5_closeBracket 21 = .ok (.iconst 1, 1) := by decide +kernel
theorem dX5_closeBracket_22 : decode cX5_closeBracket 22 = .ok (.isub, 1) := by decide +kernel
theorem dX5_closeBracket_23 : decode cX5_closeBracket 23 = .ok (.putfield 58, 3) := by decide +kernel
theorem dX5_closeBracket_26 : decode cX5_closeBracket 26 = .ok (.aload_n 0, 1) := by decide +kernel
theorem dX5_closeBracket_27 : decode cX5_closeBracket 27 = .ok (.dup, 1) := by decide +kernel
theorem dX5_closeBracket_28 : decode cX5_closeBracket 28 = .ok (.getfield 61, 3) := by decide +kernel
theorem dX5_closeBracket_31 : decode cX5_closeBracket 31 = .ok (.iconst 1, 1) := by decide +kernel
theorem dX5_closeBracket_32 : decode cX5_closeBracket 32 = .ok (.isub, 1) := by decide +kernel
theorem dX5_closeBracket_33 : decode cX5_closeBracket 33 = .ok (.putfield 61, 3) := by decide +kernel
theorem dX5_closeBracket_36 : decode cX5_closeBracket 36 = .ok (.aload_n 0, 1) := by decide +kernel
theorem dX5_closeBracket_37 : decode cX5_closeBracket 37 = .ok (.invokevirtual 172, 3) := by decide +kernel
theorem dX5_closeBracket_40 : decode cX5_closeBracket 40 = .ok (.return_, 1) := by decide +kernel
theorem kSX5_closeBracket : yX5_closeBracket.cls ≠ "java/lang/invoke/MethodHandle" ∧ yX5_closeBracket.cls ≠ "java/lang/invoke/VarHandle" ∧ (parseMethodDescriptor yX5_closeBracket.desc).map (fun d => d.parameters.length) = some 0 := by decide +kernel
theorem kVX5_closeBracket : yX5_closeBracket.cls = RX5 ∧ yX5_closeBracket.cls ≠ "java/lang/invoke/MethodHandle" ∧ yX5_closeBracket.cls ≠ "java/lang/invoke/VarHandle" ∧ (parseMethodDescriptor yX5_closeBracket.desc).map (fun d => d.parameters.length) = some 0 := ⟨rfl, kSX5_closeBracket⟩
theorem dX5_endComparison_0 : decode cX5_endComparison 0 = .ok (.aload_n 0, 1) := by decide +kernel
theorem dX5_endComparison_1 : decode cX5_endComparison 1 = .ok (.getfield 33, 3) := by decide +kernel
theorem dX5_endComparison_4 : decode cX5_endComparison 4 = .ok (.aload_n 0, 1) := by decide +kernel
theorem dX5_endComparison_5 : decode cX5_endComparison 5 = .ok (.getfield 84, 3) := by decide +kernel
theorem dX5_endComparison_8 : decode cX5_endComparison 8 = .ok (.iconst 0, 1) := by decide +kernel
theorem dX5_endComparison_9 : decode cX5_endComparison 9 = .ok (.invokevirtual 169, 3) := by decide +kernel
theorem dX5_endComparison_12 : decode cX5_endComparison 12 = .ok (.aload_n 0, 1) := by decide +kernel
theorem dX5_endComparison_13 : decode cX5_endComparison 13 = .ok (.invokevirtual 172, 3) := by decide +kernel
theorem dX5_endComparison_16 : decode cX5_endComparison 16 = .ok (.aload_n 0, 1) := by decide +kernel
theorem dX5_endComparison_17 : decode cX5_endComparison 17 = .ok (.bipush 16, 2) := by decide +kernel
theorem dX5_endComparison_19 : decode cX5_endComparison 19 = .ok (.putfield 52, 3) := by decide +kernel
theorem dX5_endComparison_22 : decode cX5_endComparison 22 = .ok (.return_, 1) := by decide +kernel
theorem kSX5_endComparison : yX5_endComparison.cls ≠ "java/lang/invoke/MethodHandle" ∧ yX5_endComparison.cls ≠ "java/lang/invoke/VarHandle" ∧ (parseMethodDescriptor yX5_endComparison.desc).map (fun d => d.parameters.length) = some 0 := by decide +kernel
theorem kVX5_endComparison : yX5_endComparison.cls = RX5 ∧ yX5_endComparison.cls ≠ "java/lang/invoke/MethodHandle" ∧ yX5_endComparison.cls ≠ "java/lang/invoke/VarHandle" ∧ (parseMethodDescriptor yX5_endComparison.desc).map (fun d => d.parameters.length) = some 0 := ⟨rfl, kSX5_endComparison⟩

