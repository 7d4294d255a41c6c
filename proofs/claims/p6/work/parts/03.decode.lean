theorem dX0_init_0 : decode cX0_init 0 = .ok (.aload_n 0, 1) := by decide +kernel
theorem dX0_init_1 : decode cX0_init 1 = .ok (.invokespecial 5, 3) := by decide +kernel
theorem dX0_init_4 : decode cX0_init 4 = .ok (.aload_n 0, 1) := by decide +kernel
theorem dX0_init_5 : decode cX0_init 5 = .ok (.aload_n 1, 1) := by decide +kernel
theorem dX0_init_6 : decode cX0_init 6 = .ok (.putfield 11, 3) := by decide +kernel
theorem dX0_init_9 : decode cX0_init 9 = .ok (.aload_n 0, 1) := by decide +kernel
theorem dX0_init_10 : decode cX0_init 10 = .ok (.new 15, 3) := by decide +kernel
theorem dX0_init_13 : decode cX0_init 13 = .ok (.dup, 1) := by decide +kernel
theorem dX0_init_14 : decode cX0_init 14 = .ok (.sipush 148, 3) := by decide +kernel
theorem dX0_init_17 : decode cX0_init 17 = .ok (.iconst (-1), 1) := by decide +kernel
theorem dX0_init_18 : decode cX0_init 18 = .ok (.invokespecial 17, 3) := by decide +kernel
theorem dX0_init_21 : decode cX0_init 21 = .ok (.putfield 20, 3) := by decide +kernel
theorem dX0_init_24 : decode cX0_init 24 = .ok (.aload_n 0, 1) := by decide +kernel
theorem dX0_init_25 : decode cX0_init 25 = .ok (.new 15, 3) := by decide +kernel
theorem dX0_init_28 : decode cX0_init 28 = .ok (.dup, 1) := by decide +kernel
theorem dX0_init_29 : decode cX0_init 29 = .ok (.sipush 148, 3) := by decide +kernel
theorem dX0_init_32 : decode cX0_init 32 = .ok (.iconst (-1), 1) := by decide +kernel
theorem dX0_init_33 : decode cX0_init 33 = .ok (.invokespecial 17, 3) := by decide +kernel
theorem dX0_init_36 : decode cX0_init 36 = .ok (.putfield 24, 3) := by decide +kernel
theorem dX0_init_39 : decode cX0_init 39 = .ok (.aload_n 0, 1) := by decide +kernel
theorem dX0_init_40 : decode cX0_init 40 = .ok (.new 15, 3) := by decide +kernel
theorem dX0_init_43 : decode cX0_init 43 = .ok (.dup, 1) := by decide +kernel
theorem dX0_init_44 : decode cX0_init 44 = .ok (.sipush 148, 3) := by decide +kernel
theorem dX0_init_47 : decode cX0_init 47 = .ok (.iconst (-1), 1) := by decide +kernel
theorem dX0_init_48 : decode cX0_init 48 = .ok (.invokespecial 17, 3) := by decide +kernel
theorem dX0_init_51 : decode cX0_init 51 = .ok (.putfield 27, 3) := by decide +kernel
theorem dX0_init_54 : decode cX0_init 54 = .ok (.aload_n 0, 1) := by decide +kernel
theorem dX0_init_55 : decode cX0_init 55 = .ok (.new 15, 3) := by decide +kernel
theorem dX0_init_58 : decode cX0_init 58 = .ok (.dup, 1) := by decide +kernel
theorem dX0_init_59 : decode cX0_init 59 = .ok (.sipush 148, 3) := by decide +kernel
theorem dX0_init_62 : decode cX0_init 62 = .ok (.iconst 0, 1) := by decide +kernel
theorem dX0_init_63 : decode cX0_init 63 = .ok (.invokespecial 17, 3) := by decide +kernel
theorem dX0_init_66 : decode cX0_init 66 = .ok (.putfield 30, 3) := by decide +kernel
theorem dX0_init_69 : decode cX0_init 69 = .ok (.aload_n 0, 1) := by decide +kernel
theorem dX0_init_70 : decode cX0_init 70 = .ok (.new 15, 3) := by decide +kernel
theorem dX0_init_73 : decode cX0_init 73 = .ok (.dup, 1) := by decide +kernel
theorem dX0_init_74 : decode cX0_init 74 = .ok (.iconst 4, 1) := by decide +kernel
theorem dX0_init_75 : decode cX0_init 75 = .ok (.iconst (-1), 1) := by decide +kernel
theorem dX0_init_76 : decode cX0_init 76 = .ok (.invokespecial 17, 3) := by decide +kernel
theorem dX0_init_79 : decode cX0_init 79 = .ok (.putfield 33, 3) := by decide +kernel
theorem dX0_init_82 : decode cX0_init 82 = .ok (.return_, 1) := by decide +kernel
theorem dX0_slot_0 : decode cX0_slot 0 = .ok (.iload_n 0, 1) := by decide +kernel
theorem dX0_slot_1 : decode cX0_slot 1 = .ok (.bipush 37, 2) := by decide +kernel
theorem dX0_slot_3 : decode cX0_slot 3 = .ok (.imul, 1) := by decide +kernel
theorem dX0_slot_4 : decode cX0_slot 4 = .ok (.iload_n 1, 1) := by decide +kernel
theorem dX0_slot_5 : decode cX0_slot 5 = .ok (.iadd, 1) := by decide +kernel
theorem dX0_slot_6 : decode cX0_slot 6 = .ok (.ireturn, 1) := by decide +kernel
theorem dX0_kindOf_0 : decode cX0_kindOf 0 = .ok (.aload_n 0, 1) := by decide +kernel
theorem dX0_kindOf_1 : decode cX0_kindOf 1 = .ok (.getfield 11, 3) := by decide +kernel
theorem dX0_kindOf_4 : decode cX0_kindOf 4 = .ok (.iload_n 1, 1) := by decide +kernel
theorem dX0_kindOf_5 : decode cX0_kindOf 5 = .ok (.iconst 2, 1) := by decide +kernel
theorem dX0_kindOf_6 : decode cX0_kindOf 6 = .ok (.invokestatic 38, 3) := by decide +kernel
theorem dX0_kindOf_9 : decode cX0_kindOf 9 = .ok (.invokevirtual 42, 3) := by decide +kernel
theorem dX0_kindOf_12 : decode cX0_kindOf 12 = .ok (.ireturn, 1) := by decide +kernel
theorem dX0_sizeOf_0 : decode cX0_sizeOf 0 = .ok (.aload_n 0, 1) := by decide +kernel
theorem dX0_sizeOf_1 : decode cX0_sizeOf 1 = .ok (.getfield 11, 3) := by decide +kernel
theorem dX0_sizeOf_4 : decode cX0_sizeOf 4 = .ok (.iload_n 1, 1) := by decide +kernel
theorem dX0_sizeOf_5 : decode cX0_sizeOf 5 = .ok (.iconst 3, 1) := by decide +kernel
theorem dX0_sizeOf_6 : decode cX0_sizeOf 6 = .ok (.invokestatic 38, 3) := by decide +kernel
theorem dX0_sizeOf_9 : decode cX0_sizeOf 9 = .ok (.invokevirtual 42, 3) := by decide +kernel
theorem dX0_sizeOf_12 : decode cX0_sizeOf 12 = .ok (.ireturn, 1) := by decide +kernel
theorem dX0_isDrawn_0 : decode cX0_isDrawn 0 = .ok (.aload_n 0, 1) := by decide +kernel
theorem dX0_isDrawn_1 : decode cX0_isDrawn 1 = .ok (.iload_n 1, 1) := by decide +kernel
theorem dX0_isDrawn_2 : decode cX0_isDrawn 2 = .ok (.invokevirtual 46, 3) := by decide +kernel
theorem dX0_isDrawn_5 : decode cX0_isDrawn 5 = .ok (.ifCond .eq 7, 3) := by decide +kernel
theorem dX0_isDrawn_8 : decode cX0_isDrawn 8 = .ok (.iconst 1, 1) := by decide +kernel
theorem dX0_isDrawn_9 : decode cX0_isDrawn 9 = .ok (.goto 4, 3) := by decide +kernel
theorem dX0_isDrawn_12 : decode cX0_isDrawn 12 = .ok (.iconst 0, 1) := by decide +kernel
theorem dX0_isDrawn_13 : decode cX0_isDrawn 13 = .ok (.ireturn, 1) := by decide +kernel
theorem dX0_onPlace_0 : decode cX0_onPlace 0 = .ok (.aload_n 0, 1) := by decide +kernel
theorem dX0_onPlace_1 : decode cX0_onPlace 1 = .ok (.iload_n 1, 1) := by decide +kernel
theorem dX0_onPlace_2 : decode cX0_onPlace 2 = .ok (.invokevirtual 46, 3) := by decide +kernel
theorem dX0_onPlace_5 : decode cX0_onPlace 5 = .ok (.iconst 2, 1) := by decide +kernel
theorem dX0_onPlace_6 : decode cX0_onPlace 6 = .ok (.if_icmp .ne 20, 3) := by decide +kernel
theorem dX0_onPlace_9 : decode cX0_onPlace 9 = .ok (.iload_n 2, 1) := by decide +kernel
theorem dX0_onPlace_10 : decode cX0_onPlace 10 = .ok (.ifCond .lt 16, 3) := by decide +kernel
theorem dX0_onPlace_13 : decode cX0_onPlace 13 = .ok (.iload_n 2, 1) := by decide +kernel
theorem dX0_onPlace_14 : decode cX0_onPlace 14 = .ok (.aload_n 0, 1) := by decide +kernel
theorem dX0_onPlace_15 : decode cX0_onPlace 15 = .ok (.iload_n 1, 1) := by decide +kernel
theorem dX0_onPlace_16 : decode cX0_onPlace 16 = .ok (.invokevirtual 49, 3) := by decide +kernel
theorem dX0_onPlace_19 : decode cX0_onPlace 19 = .ok (.if_icmp .ge 7, 3) := by decide +kernel
theorem dX0_onPlace_22 : decode cX0_onPlace 22 = .ok (.iconst 1, 1) := by decide +kernel
theorem dX0_onPlace_23 : decode cX0_onPlace 23 = .ok (.goto 4, 3) := by decide +kernel
theorem dX0_onPlace_26 : decode cX0_onPlace 26 = .ok (.iconst 0, 1) := by decide +kernel
theorem dX0_onPlace_27 : decode cX0_onPlace 27 = .ok (.istore_n 3, 1) := by decide +kernel
theorem dX0_onPlace_28 : decode cX0_onPlace 28 = .ok (.iload_n 3, 1) := by decide +kernel
theorem dX0_onPlace_29 : decode cX0_onPlace 29 = .ok (.ifCond .eq 20, 3) := by decide +kernel
theorem dX0_onPlace_32 : decode cX0_onPlace 32 = .ok (.aload_n 0, 1) := by decide +kernel
theorem dX0_onPlace_33 : decode cX0_onPlace 33 = .ok (.getfield 11, 3) := by decide +kernel
theorem dX0_onPlace_36 : decode cX0_onPlace 36 = .ok (.iload_n 1, 1) := by decide +kernel
theorem dX0_onPlace_37 : decode cX0_onPlace 37 = .ok (.iconst 4, 1) := by decide +kernel
theorem dX0_onPlace_38 : decode cX0_onPlace 38 = .ok (.iload_n 2, 1) := by decide +kernel
theorem dX0_onPlace_39 : decode cX0_onPlace 39 = .ok (.iadd, 1) := by decide +kernel
theorem dX0_onPlace_40 : decode cX0_onPlace 40 = .ok (.invokestatic 38, 3) := by decide +kernel
theorem dX0_onPlace_43 : decode cX0_onPlace 43 = .ok (.invokevirtual 42, 3) := by decide +kernel
theorem dX0_onPlace_46 : decode cX0_onPlace 46 = .ok (.goto 4, 3) := by decide +kernel
theorem dX0_onPlace_49 : decode cX0_onPlace 49 = .ok (.iconst (-1), 1) := by decide +kernel
theorem dX0_onPlace_50 : decode cX0_onPlace 50 = .ok (.ireturn, 1) := by decide +kernel
theorem dX0_fightsOf_0 : decode cX0_fightsOf 0 = .ok (.aload_n 0, 1) := by decide +kernel
theorem dX0_fightsOf_1 : decode cX0_fightsOf 1 = .ok (.iload_n 1, 1) := by decide +kernel
theorem dX0_fightsOf_2 : decode cX0_fightsOf 2 = .ok (.invokevirtual 49, 3) := by decide +kernel
theorem dX0_fightsOf_5 : decode cX0_fightsOf 5 = .ok (.istore_n 2, 1) := by decide +kernel
theorem dX0_fightsOf_6 : decode cX0_fightsOf 6 = .ok (.aload_n 0, 1) := by decide +kernel
theorem dX0_fightsOf_7 : decode cX0_fightsOf 7 = .ok (.iload_n 1, 1) := by decide +kernel
theorem dX0_fightsOf_8 : decode cX0_fightsOf 8 = .ok (.invokevirtual 46, 3) := by decide +kernel
theorem dX0_fightsOf_11 : decode cX0_fightsOf 11 = .ok (.lookupswitch 44 #[(1, 25), (2, 33)], 25) := by decide +kernel
theorem dX0_fightsOf_36 : decode cX0_fightsOf 36 = .ok (.iload_n 2, 1) := by decide +kernel
theorem dX0_fightsOf_37 : decode cX0_fightsOf 37 = .ok (.iload_n 2, 1) := by decide +kernel
theorem dX0_fightsOf_38 : decode cX0_fightsOf 38 = .ok (.iconst 1, 1) := by decide +kernel
theorem dX0_fightsOf_39 : decode cX0_fightsOf 39 = .ok (.isub, 1) := by decide +kernel
theorem dX0_fightsOf_40 : decode cX0_fightsOf 40 = .ok (.imul, 1) := by decide +kernel
theorem dX0_fightsOf_41 : decode cX0_fightsOf 41 = .ok (.iconst 2, 1) := by decide +kernel
theorem dX0_fightsOf_42 : decode cX0_fightsOf 42 = .ok (.idiv, 1) := by decide +kernel
theorem dX0_fightsOf_43 : decode cX0_fightsOf 43 = .ok (.ireturn, 1) := by decide +kernel
theorem dX0_fightsOf_44 : decode cX0_fightsOf 44 = .ok (.iload_n 2, 1) := by decide +kernel
theorem dX0_fightsOf_45 : decode cX0_fightsOf 45 = .ok (.iconst 1, 1) := by decide +kernel
theorem dX0_fightsOf_46 : decode cX0_fightsOf 46 = .ok (.isub, 1) := by decide +kernel
theorem dX0_fightsOf_47 : decode cX0_fightsOf 47 = .ok (.iconst 2, 1) := by decide +kernel
theorem dX0_fightsOf_48 : decode cX0_fightsOf 48 = .ok (.iload_n 2, 1) := by decide +kernel
theorem dX0_fightsOf_49 : decode cX0_fightsOf 49 = .ok (.invokestatic 52, 3) := by decide +kernel
theorem dX0_fightsOf_52 : decode cX0_fightsOf 52 = .ok (.imul, 1) := by decide +kernel
theorem dX0_fightsOf_53 : decode cX0_fightsOf 53 = .ok (.iadd, 1) := by decide +kernel
theorem dX0_fightsOf_54 : decode cX0_fightsOf 54 = .ok (.ireturn, 1) := by decide +kernel
theorem dX0_fightsOf_55 : decode cX0_fightsOf 55 = .ok (.iconst 0, 1) := by decide +kernel
theorem dX0_fightsOf_56 : decode cX0_fightsOf 56 = .ok (.ireturn, 1) := by decide +kernel
theorem dX0_stepsOf_0 : decode cX0_stepsOf 0 = .ok (.iload_n 0, 1) := by decide +kernel
theorem dX0_stepsOf_1 : decode cX0_stepsOf 1 = .ok (.bipush 8, 2) := by decide +kernel
theorem dX0_stepsOf_3 : decode cX0_stepsOf 3 = .ok (.if_icmp .gt 5, 3) := by decide +kernel
theorem dX0_stepsOf_6 : decode cX0_stepsOf 6 = .ok (.iconst 1, 1) := by decide +kernel
theorem dX0_stepsOf_7 : decode cX0_stepsOf 7 = .ok (.ireturn, 1) := by decide +kernel
theorem dX0_stepsOf_8 : decode cX0_stepsOf 8 = .ok (.iload_n 0, 1) := by decide +kernel
theorem dX0_stepsOf_9 : decode cX0_stepsOf 9 = .ok (.bipush 16, 2) := by decide +kernel
theorem dX0_stepsOf_11 : decode cX0_stepsOf 11 = .ok (.if_icmp .gt 7, 3) := by decide +kernel
theorem dX0_stepsOf_14 : decode cX0_stepsOf 14 = .ok (.iconst 2, 1) := by decide +kernel
theorem dX0_stepsOf_15 : decode cX0_stepsOf 15 = .ok (.goto 4, 3) := by decide +kernel
theorem dX0_stepsOf_18 : decode cX0_stepsOf 18 = .ok (.iconst 3, 1) := by decide +kernel
theorem dX0_stepsOf_19 : decode cX0_stepsOf 19 = .ok (.ireturn, 1) := by decide +kernel
theorem dX0_has_0 : decode cX0_has 0 = .ok (.iload_n 1, 1) := by decide +kernel
theorem dX0_has_1 : decode cX0_has 1 = .ok (.invokestatic 55, 3) := by decide +kernel
theorem dX0_has_4 : decode cX0_has 4 = .ok (.ifCond .eq 20, 3) := by decide +kernel
theorem dX0_has_7 : decode cX0_has 7 = .ok (.iload_n 2, 1) := by decide +kernel
theorem dX0_has_8 : decode cX0_has 8 = .ok (.ifCond .lt 16, 3) := by decide +kernel
theorem dX0_has_11 : decode cX0_has 11 = .ok (.iload_n 2, 1) := by decide +kernel
theorem dX0_has_12 : decode cX0_has 12 = .ok (.aload_n 0, 1) := by decide +kernel
theorem dX0_has_13 : decode cX0_has 13 = .ok (.iload_n 1, 1) := by decide +kernel
theorem dX0_has_14 : decode cX0_has 14 = .ok (.invokevirtual 59, 3) := by decide +kernel
theorem dX0_has_17 : decode cX0_has 17 = .ok (.if_icmp .ge 7, 3) := by decide +kernel
theorem dX0_has_20 : decode cX0_has 20 = .ok (.iconst 1, 1) := by decide +kernel
theorem dX0_has_21 : decode cX0_has 21 = .ok (.goto 4, 3) := by decide +kernel
theorem dX0_has_24 : decode cX0_has 24 = .ok (.iconst 0, 1) := by decide +kernel
theorem dX0_has_25 : decode cX0_has 25 = .ok (.ireturn, 1) := by decide +kernel
theorem dX0_whiteOf_0 : decode cX0_whiteOf 0 = .ok (.aload_n 0, 1) := by decide +kernel
theorem dX0_whiteOf_1 : decode cX0_whiteOf 1 = .ok (.getfield 20, 3) := by decide +kernel
theorem dX0_whiteOf_4 : decode cX0_whiteOf 4 = .ok (.iload_n 1, 1) := by decide +kernel
theorem dX0_whiteOf_5 : decode cX0_whiteOf 5 = .ok (.iload_n 2, 1) := by decide +kernel
theorem dX0_whiteOf_6 : decode cX0_whiteOf 6 = .ok (.invokestatic 62, 3) := by decide +kernel
theorem dX0_whiteOf_9 : decode cX0_whiteOf 9 = .ok (.invokevirtual 65, 3) := by decide +kernel
theorem dX0_whiteOf_12 : decode cX0_whiteOf 12 = .ok (.ireturn, 1) := by decide +kernel
theorem dX0_blueOf_0 : decode cX0_blueOf 0 = .ok (.aload_n 0, 1) := by decide +kernel
theorem dX0_blueOf_1 : decode cX0_blueOf 1 = .ok (.getfield 24, 3) := by decide +kernel
theorem dX0_blueOf_4 : decode cX0_blueOf 4 = .ok (.iload_n 1, 1) := by decide +kernel
theorem dX0_blueOf_5 : decode cX0_blueOf 5 = .ok (.iload_n 2, 1) := by decide +kernel
theorem dX0_blueOf_6 : decode cX0_blueOf 6 = .ok (.invokestatic 62, 3) := by decide +kernel
theorem dX0_blueOf_9 : decode cX0_blueOf 9 = .ok (.invokevirtual 65, 3) := by decide +kernel
theorem dX0_blueOf_12 : decode cX0_blueOf 12 = .ok (.ireturn, 1) := by decide +kernel
theorem dX0_winnerOf_0 : decode cX0_winnerOf 0 = .ok (.aload_n 0, 1) := by decide +kernel
theorem dX0_winnerOf_1 : decode cX0_winnerOf 1 = .ok (.getfield 27, 3) := by decide +kernel
theorem dX0_winnerOf_4 : decode cX0_winnerOf 4 = .ok (.iload_n 1, 1) := by decide +kernel
theorem dX0_winnerOf_5 : decode cX0_winnerOf 5 = .ok (.iload_n 2, 1) := by decide +kernel
theorem dX0_winnerOf_6 : decode cX0_winnerOf 6 = .ok (.invokestatic 62, 3) := by decide +kernel
theorem dX0_winnerOf_9 : decode cX0_winnerOf 9 = .ok (.invokevirtual 65, 3) := by decide +kernel
theorem dX0_winnerOf_12 : decode cX0_winnerOf 12 = .ok (.ireturn, 1) := by decide +kernel
theorem dX0_stateOf_0 : decode cX0_stateOf 0 = .ok (.aload_n 0, 1) := by decide +kernel
theorem dX0_stateOf_1 : decode cX0_stateOf 1 = .ok (.getfield 30, 3) := by decide +kernel
theorem dX0_stateOf_4 : decode cX0_stateOf 4 = .ok (.iload_n 1, 1) := by decide +kernel
theorem dX0_stateOf_5 : decode cX0_stateOf 5 = .ok (.iload_n 2, 1) := by decide +kernel
theorem dX0_stateOf_6 : decode cX0_stateOf 6 = .ok (.invokestatic 62, 3) := by decide +kernel
theorem dX0_stateOf_9 : decode cX0_stateOf 9 = .ok (.invokevirtual 65, 3) := by decide +kernel
theorem dX0_stateOf_12 : decode cX0_stateOf 12 = .ok (.ireturn, 1) := by decide +kernel
theorem dX0_loserOf_0 : decode cX0_loserOf 0 = .ok (.aload_n 0, 1) := by decide +kernel
theorem dX0_loserOf_1 : decode cX0_loserOf 1 = .ok (.iload_n 1, 1) := by decide +kernel
theorem dX0_loserOf_2 : decode cX0_loserOf 2 = .ok (.iload_n 2, 1) := by decide +kernel
theorem dX0_loserOf_3 : decode cX0_loserOf 3 = .ok (.invokevirtual 68, 3) := by decide +kernel
theorem dX0_loserOf_6 : decode cX0_loserOf 6 = .ok (.istore_n 3, 1) := by decide +kernel
theorem dX0_loserOf_7 : decode cX0_loserOf 7 = .ok (.iload_n 3, 1) := by decide +kernel
theorem dX0_loserOf_8 : decode cX0_loserOf 8 = .ok (.iconst (-1), 1) := by decide +kernel
theorem dX0_loserOf_9 : decode cX0_loserOf 9 = .ok (.if_icmp .ne 5, 3) := by decide +kernel
theorem dX0_loserOf_12 : decode cX0_loserOf 12 = .ok (.iconst (-1), 1) := by decide +kernel
theorem dX0_loserOf_13 : decode cX0_loserOf 13 = .ok (.ireturn, 1) := by decide +kernel
theorem dX0_loserOf_14 : decode cX0_loserOf 14 = .ok (.aload_n 0, 1) := by decide +kernel
theorem dX0_loserOf_15 : decode cX0_loserOf 15 = .ok (.iload_n 1, 1) := by decide +kernel
theorem dX0_loserOf_16 : decode cX0_loserOf 16 = .ok (.iload_n 2, 1) := by decide +kernel
theorem dX0_loserOf_17 : decode cX0_loserOf 17 = .ok (.invokevirtual 71, 3) := by decide +kernel
theorem dX0_loserOf_20 : decode cX0_loserOf 20 = .ok (.iload_n 3, 1) := by decide +kernel
theorem dX0_loserOf_21 : decode cX0_loserOf 21 = .ok (.if_icmp .ne 12, 3) := by decide +kernel
theorem dX0_loserOf_24 : decode cX0_loserOf 24 = .ok (.aload_n 0, 1) := by decide +kernel
theorem dX0_loserOf_25 : decode cX0_loserOf 25 = .ok (.iload_n 1, 1) := by decide +kernel
theorem dX0_loserOf_26 : decode cX0_loserOf 26 = .ok (.iload_n 2, 1) := by decide +kernel
theorem dX0_loserOf_27 : decode cX0_loserOf 27 = .ok (.invokevirtual 74, 3) := by decide +kernel
theorem dX0_loserOf_30 : decode cX0_loserOf 30 = .ok (.goto 9, 3) := by decide +kernel
theorem dX0_loserOf_33 : decode cX0_loserOf 33 = .ok (.aload_n 0, 1) := by decide +kernel
theorem dX0_loserOf_34 : decode cX0_loserOf 34 = .ok (.iload_n 1, 1) := by decide +kernel
theorem dX0_loserOf_35 : decode cX0_loserOf 35 = .ok (.iload_n 2, 1) := by decide +kernel
theorem dX0_loserOf_36 : decode cX0_loserOf 36 = .ok (.invokevirtual 71, 3) := by decide +kernel
theorem dX0_loserOf_39 : decode cX0_loserOf 39 = .ok (.ireturn, 1) := by decide +kernel
theorem dX0_howMany_0 : decode cX0_howMany 0 = .ok (.iconst 0, 1) := by decide +kernel
theorem dX0_howMany_1 : decode cX0_howMany 1 = .ok (.istore_n 3, 1) := by decide +kernel
theorem dX0_howMany_2 : decode cX0_howMany 2 = .ok (.iconst 0, 1) := by decide +kernel
theorem dX0_howMany_3 : decode cX0_howMany 3 = .ok (.istore 4, 2) := by decide +kernel
theorem dX0_howMany_5 : decode cX0_howMany 5 = .ok (.iload 4, 2) := by decide +kernel
theorem dX0_howMany_7 : decode cX0_howMany 7 = .ok (.aload_n 0, 1) := by decide +kernel
theorem dX0_howMany_8 : decode cX0_howMany 8 = .ok (.iload_n 1, 1) := by decide +kernel
theorem dX0_howMany_9 : decode cX0_howMany 9 = .ok (.invokevirtual 59, 3) := by decide +kernel
theorem dX0_howMany_12 : decode cX0_howMany 12 = .ok (.if_icmp .ge 28, 3) := by decide +kernel
theorem dX0_howMany_15 : decode cX0_howMany 15 = .ok (.iload_n 3, 1) := by decide +kernel
theorem dX0_howMany_16 : decode cX0_howMany 16 = .ok (.aload_n 0, 1) := by decide +kernel
theorem dX0_howMany_17 : decode cX0_howMany 17 = .ok (.iload_n 1, 1) := by decide +kernel
theorem dX0_howMany_18 : decode cX0_howMany 18 = .ok (.iload 4, 2) := by decide +kernel
theorem dX0_howMany_20 : decode cX0_howMany 20 = .ok (.invokevirtual 77, 3) := by decide +kernel
theorem dX0_howMany_23 : decode cX0_howMany 23 = .ok (.iload_n 2, 1) := by decide +kernel
theorem dX0_howMany_24 : decode cX0_howMany 24 = .ok (.if_icmp .ne 7, 3) := by decide +kernel
theorem dX0_howMany_27 : decode cX0_howMany 27 = .ok (.iconst 1, 1) := by decide +kernel
theorem dX0_howMany_28 : decode cX0_howMany 28 = .ok (.goto 4, 3) := by decide +kernel
theorem dX0_howMany_31 : decode cX0_howMany 31 = .ok (.iconst 0, 1) := by decide +kernel
theorem dX0_howMany_32 : decode cX0_howMany 32 = .ok (.iadd, 1) := by decide +kernel
theorem dX0_howMany_33 : decode cX0_howMany 33 = .ok (.istore_n 3, 1) := by decide +kernel
theorem dX0_howMany_34 : decode cX0_howMany 34 = .ok (.iinc 4 1, 3) := by decide +kernel
theorem dX0_howMany_37 : decode cX0_howMany 37 = .ok (.goto (-32), 3) := by decide +kernel
theorem dX0_howMany_40 : decode cX0_howMany 40 = .ok (.iload_n 3, 1) := by decide +kernel
theorem dX0_howMany_41 : decode cX0_howMany 41 = .ok (.ireturn, 1) := by decide +kernel
theorem dX1_init_0 : decode cX1_init 0 = .ok (.aload_n 0, 1) := by decide +kernel
theorem dX1_init_1 : decode cX1_init 1 = .ok (.invokespecial 7, 3) := by decide +kernel
theorem dX1_init_4 : decode cX1_init 4 = .ok (.aload_n 0, 1) := by decide +kernel
theorem dX1_init_5 : decode cX1_init 5 = .ok (.sipush 2088, 3) := by decide +kernel
theorem dX1_init_8 : decode cX1_init 8 = .ok (.newarray .int, 2) := by decide +kernel
theorem dX1_init_10 : decode cX1_init 10 = .ok (.putfield 13, 3) := by decide +kernel
theorem dX1_init_13 : decode cX1_init 13 = .ok (.aload_n 0, 1) := by decide +kernel
theorem dX1_init_14 : decode cX1_init 14 = .ok (.new 17, 3) := by decide +kernel
theorem dX1_init_17 : decode cX1_init 17 = .ok (.dup, 1) := by decide +kernel
theorem dX1_init_18 : decode cX1_init 18 = .ok (.sipush 512, 3) := by decide +kernel
theorem dX1_init_21 : decode cX1_init 21 = .ok (.iconst 0, 1) := by decide +kernel
theorem dX1_init_22 : decode cX1_init 22 = .ok (.invokespecial 19, 3) := by decide +kernel
theorem dX1_init_25 : decode cX1_init 25 = .ok (.putfield 22, 3) := by decide +kernel
theorem dX1_init_28 : decode cX1_init 28 = .ok (.aload_n 0, 1) := by decide +kernel
theorem dX1_init_29 : decode cX1_init 29 = .ok (.new 17, 3) := by decide +kernel
theorem dX1_init_32 : decode cX1_init 32 = .ok (.dup, 1) := by decide +kernel
theorem dX1_init_33 : decode cX1_init 33 = .ok (.sipush 512, 3) := by decide +kernel
theorem dX1_init_36 : decode cX1_init 36 = .ok (.iconst 0, 1) := by decide +kernel
theorem dX1_init_37 : decode cX1_init 37 = .ok (.invokespecial 19, 3) := by decide +kernel
theorem dX1_init_40 : decode cX1_init 40 = .ok (.putfield 26, 3) := by decide +kernel
theorem dX1_init_43 : decode cX1_init 43 = .ok (.aload_n 0, 1) := by decide +kernel
theorem dX1_init_44 : decode cX1_init 44 = .ok (.new 17, 3) := by decide +kernel
theorem dX1_init_47 : decode cX1_init 47 = .ok (.dup, 1) := by decide +kernel
theorem dX1_init_48 : decode cX1_init 48 = .ok (.sipush 500, 3) := by decide +kernel
theorem dX1_init_51 : decode cX1_init 51 = .ok (.iconst 0, 1) := by decide +kernel
theorem dX1_init_52 : decode cX1_init 52 = .ok (.invokespecial 19, 3) := by decide +kernel
theorem dX1_init_55 : decode cX1_init 55 = .ok (.putfield 29, 3) := by decide +kernel
theorem dX1_init_58 : decode cX1_init 58 = .ok (.aload_n 0, 1) := by decide +kernel
theorem dX1_init_59 : decode cX1_init 59 = .ok (.iconst 1, 1) := by decide +kernel
theorem dX1_init_60 : decode cX1_init 60 = .ok (.bipush 10, 2) := by decide +kernel
theorem dX1_init_62 : decode cX1_init 62 = .ok (.invokevirtual 32, 3) := by decide +kernel
theorem dX1_init_65 : decode cX1_init 65 = .ok (.iconst 0, 1) := by decide +kernel
theorem dX1_init_66 : decode cX1_init 66 = .ok (.istore_n 1, 1) := by decide +kernel
theorem dX1_init_67 : decode cX1_init 67 = .ok (.iload_n 1, 1) := by decide +kernel
theorem dX1_init_68 : decode cX1_init 68 = .ok (.iconst 4, 1) := by decide +kernel
theorem dX1_init_69 : decode cX1_init 69 = .ok (.if_icmp .ge 20, 3) := by decide +kernel
theorem dX1_init_72 : decode cX1_init 72 = .ok (.aload_n 0, 1) := by decide +kernel
theorem dX1_init_73 : decode cX1_init 73 = .ok (.iload_n 1, 1) := by decide +kernel
theorem dX1_init_74 : decode cX1_init 74 = .ok (.iconst 1, 1) := by decide +kernel
theorem dX1_init_75 : decode cX1_init 75 = .ok (.invokestatic 35, 3) := by decide +kernel
theorem dX1_init_78 : decode cX1_init 78 = .ok (.ldc 39, 2) := by decide +kernel
theorem dX1_init_80 : decode cX1_init 80 = .ok (.invokevirtual 32, 3) := by decide +kernel
theorem dX1_init_83 : decode cX1_init 83 = .ok (.iinc 1 1, 3) := by decide +kernel
theorem dX1_init_86 : decode cX1_init 86 = .ok (.goto (-19), 3) := by decide +kernel
theorem dX1_init_89 : decode cX1_init 89 = .ok (.iconst 0, 1) := by decide +kernel
theorem dX1_init_90 : decode cX1_init 90 = .ok (.istore_n 1, 1) := by decide +kernel
theorem dX1_init_91 : decode cX1_init 91 = .ok (.iload_n 1, 1) := by decide +kernel
theorem dX1_init_92 : decode cX1_init 92 = .ok (.iconst 4, 1) := by decide +kernel
theorem dX1_init_93 : decode cX1_init 93 = .ok (.if_icmp .ge 19, 3) := by decide +kernel
theorem dX1_init_96 : decode cX1_init 96 = .ok (.aload_n 0, 1) := by decide +kernel
theorem dX1_init_97 : decode cX1_init 97 = .ok (.iload_n 1, 1) := by decide +kernel
theorem dX1_init_98 : decode cX1_init 98 = .ok (.iconst 1, 1) := by decide +kernel
theorem dX1_init_99 : decode cX1_init 99 = .ok (.invokestatic 40, 3) := by decide +kernel
theorem dX1_init_102 : decode cX1_init 102 = .ok (.iconst (-1), 1) := by decide +kernel
theorem dX1_init_103 : decode cX1_init 103 = .ok (.invokevirtual 32, 3) := by decide +kernel
theorem dX1_init_106 : decode cX1_init 106 = .ok (.iinc 1 1, 3) := by decide +kernel
theorem dX1_init_109 : decode cX1_init 109 = .ok (.goto (-18), 3) := by decide +kernel
theorem dX1_init_112 : decode cX1_init 112 = .ok (.return_, 1) := by decide +kernel
theorem dX1_ofClass_0 : decode cX1_ofClass 0 = .ok (.iconst 4, 1) := by decide +kernel
theorem dX1_ofClass_1 : decode cX1_ofClass 1 = .ok (.iload_n 0, 1) := by decide +kernel
theorem dX1_ofClass_2 : decode cX1_ofClass 2 = .ok (.bipush 36, 2) := by decide +kernel
theorem dX1_ofClass_4 : decode cX1_ofClass 4 = .ok (.imul, 1) := by decide +kernel
theorem dX1_ofClass_5 : decode cX1_ofClass 5 = .ok (.iadd, 1) := by decide +kernel
theorem dX1_ofClass_6 : decode cX1_ofClass 6 = .ok (.iload_n 1, 1) := by decide +kernel
theorem dX1_ofClass_7 : decode cX1_ofClass 7 = .ok (.iadd, 1) := by decide +kernel
theorem dX1_ofClass_8 : decode cX1_ofClass 8 = .ok (.ireturn, 1) := by decide +kernel
theorem dX1_ofFighter_0 : decode cX1_ofFighter 0 = .ok (.sipush 148, 3) := by decide +kernel
theorem dX1_ofFighter_3 : decode cX1_ofFighter 3 = .ok (.iload_n 0, 1) := by decide +kernel
theorem dX1_ofFighter_4 : decode cX1_ofFighter 4 = .ok (.bipush 7, 2) := by decide +kernel
theorem dX1_ofFighter_6 : decode cX1_ofFighter 6 = .ok (.imul, 1) := by decide +kernel
theorem dX1_ofFighter_7 : decode cX1_ofFighter 7 = .ok (.iadd, 1) := by decide +kernel
theorem dX1_ofFighter_8 : decode cX1_ofFighter 8 = .ok (.iload_n 1, 1) := by decide +kernel
theorem dX1_ofFighter_9 : decode cX1_ofFighter 9 = .ok (.iadd, 1) := by decide +kernel
theorem dX1_ofFighter_10 : decode cX1_ofFighter 10 = .ok (.ireturn, 1) := by decide +kernel
theorem dX1_ofFight_0 : decode cX1_ofFight 0 = .ok (.sipush 820, 3) := by decide +kernel
theorem dX1_ofFight_3 : decode cX1_ofFight 3 = .ok (.iload_n 0, 1) := by decide +kernel
theorem dX1_ofFight_4 : decode cX1_ofFight 4 = .ok (.iload_n 1, 1) := by decide +kernel
theorem dX1_ofFight_5 : decode cX1_ofFight 5 = .ok (.invokestatic 43, 3) := by decide +kernel
theorem dX1_ofFight_8 : decode cX1_ofFight 8 = .ok (.bipush 8, 2) := by decide +kernel
theorem dX1_ofFight_10 : decode cX1_ofFight 10 = .ok (.imul, 1) := by decide +kernel
theorem dX1_ofFight_11 : decode cX1_ofFight 11 = .ok (.iadd, 1) := by decide +kernel
theorem dX1_ofFight_12 : decode cX1_ofFight 12 = .ok (.iload_n 2, 1) := by decide +kernel
theorem dX1_ofFight_13 : decode cX1_ofFight 13 = .ok (.iadd, 1) := by decide +kernel
theorem dX1_ofFight_14 : decode cX1_ofFight 14 = .ok (.ireturn, 1) := by decide +kernel
theorem dX1_ofMat_0 : decode cX1_ofMat 0 = .ok (.sipush 2004, 3) := by decide +kernel
theorem dX1_ofMat_3 : decode cX1_ofMat 3 = .ok (.iload_n 0, 1) := by decide +kernel
theorem dX1_ofMat_4 : decode cX1_ofMat 4 = .ok (.bipush 21, 2) := by decide +kernel
theorem dX1_ofMat_6 : decode cX1_ofMat 6 = .ok (.imul, 1) := by decide +kernel
theorem dX1_ofMat_7 : decode cX1_ofMat 7 = .ok (.iadd, 1) := by decide +kernel
theorem dX1_ofMat_8 : decode cX1_ofMat 8 = .ok (.iload_n 1, 1) := by decide +kernel
theorem dX1_ofMat_9 : decode cX1_ofMat 9 = .ok (.iadd, 1) := by decide +kernel
theorem dX1_ofMat_10 : decode cX1_ofMat 10 = .ok (.ireturn, 1) := by decide +kernel
theorem dX1_at_0 : decode cX1_at 0 = .ok (.iload_n 1, 1) := by decide +kernel
theorem dX1_at_1 : decode cX1_at 1 = .ok (.ifCond .lt 21, 3) := by decide +kernel
theorem dX1_at_4 : decode cX1_at 4 = .ok (.iload_n 1, 1) := by decide +kernel
theorem dX1_at_5 : decode cX1_at 5 = .ok (.aload_n 0, 1) := by decide +kernel
theorem dX1_at_6 : decode cX1_at 6 = .ok (.getfield 13, 3) := by decide +kernel
theorem dX1_at_9 : decode cX1_at 9 = .ok (.arraylength, 1) := by decide +kernel
theorem dX1_at_10 : decode cX1_at 10 = .ok (.if_icmp .ge 12, 3) := by decide +kernel
theorem dX1_at_13 : decode cX1_at 13 = .ok (.aload_n 0, 1) := by decide +kernel
theorem dX1_at_14 : decode cX1_at 14 = .ok (.getfield 13, 3) := by decide +kernel
theorem dX1_at_17 : decode cX1_at 17 = .ok (.iload_n 1, 1) := by decide +kernel
theorem dX1_at_18 : decode cX1_at 18 = .ok (.iaload, 1) := by decide +kernel
theorem dX1_at_19 : decode cX1_at 19 = .ok (.goto 4, 3) := by decide +kernel
theorem dX1_at_22 : decode cX1_at 22 = .ok (.iconst (-1), 1) := by decide +kernel
theorem dX1_at_23 : decode cX1_at 23 = .ok (.ireturn, 1) := by decide +kernel
theorem dX1_lay_0 : decode cX1_lay 0 = .ok (.iload_n 1, 1) := by decide +kernel
theorem dX1_lay_1 : decode cX1_lay 1 = .ok (.ifCond .lt 19, 3) := by decide +kernel
theorem dX1_lay_4 : decode cX1_lay 4 = .ok (.iload_n 1, 1) := by decide +kernel
theorem dX1_lay_5 : decode cX1_lay 5 = .ok (.aload_n 0, 1) := by decide +kernel
theorem dX1_lay_6 : decode cX1_lay 6 = .ok (.getfield 13, 3) := by decide +kernel
theorem dX1_lay_9 : decode cX1_lay 9 = .ok (.arraylength, 1) := by decide +kernel
theorem dX1_lay_10 : decode cX1_lay 10 = .ok (.if_icmp .ge 10, 3) := by decide +kernel
theorem dX1_lay_13 : decode cX1_lay 13 = .ok (.aload_n 0, 1) := by decide +kernel
theorem dX1_lay_14 : decode cX1_lay 14 = .ok (.getfield 13, 3) := by decide +kernel
theorem dX1_lay_17 : decode cX1_lay 17 = .ok (.iload_n 1, 1) := by decide +kernel
theorem dX1_lay_18 : decode cX1_lay 18 = .ok (.iload_n 2, 1) := by decide +kernel
theorem dX1_lay_19 : decode cX1_lay 19 = .ok (.iastore, 1) := by decide +kernel
theorem dX1_lay_20 : decode cX1_lay 20 = .ok (.return_, 1) := by decide +kernel
theorem dX1_put_0 : decode cX1_put 0 = .ok (.aload_n 0, 1) := by decide +kernel
theorem dX1_put_1 : decode cX1_put 1 = .ok (.iload_n 1, 1) := by decide +kernel
theorem dX1_put_2 : decode cX1_put 2 = .ok (.invokevirtual 46, 3) := by decide +kernel
theorem dX1_put_5 : decode cX1_put 5 = .ok (.istore_n 3, 1) := by decide +kernel
theorem dX1_put_6 : decode cX1_put 6 = .ok (.iload_n 3, 1) := by decide +kernel
theorem dX1_put_7 : decode cX1_put 7 = .ok (.iload_n 2, 1) := by decide +kernel
theorem dX1_put_8 : decode cX1_put 8 = .ok (.if_icmp .ne 4, 3) := by decide +kernel
theorem dX1_put_11 : decode cX1_put 11 = .ok (.return_, 1) := by decide +kernel
theorem dX1_put_12 : decode cX1_put 12 = .ok (.aload_n 0, 1) := by decide +kernel
theorem dX1_put_13 : decode cX1_put 13 = .ok (.getfield 22, 3) := by decide +kernel
theorem dX1_put_16 : decode cX1_put 16 = .ok (.aload_n 0, 1) := by decide +kernel
theorem dX1_put_17 : decode cX1_put 17 = .ok (.getfield 50, 3) := by decide +kernel
theorem dX1_put_20 : decode cX1_put 20 = .ok (.invokevirtual 54, 3) := by decide +kernel
theorem dX1_put_23 : decode cX1_put 23 = .ok (.aload_n 0, 1) := by decide +kernel
theorem dX1_put_24 : decode cX1_put 24 = .ok (.getfield 26, 3) := by decide +kernel
theorem dX1_put_27 : decode cX1_put 27 = .ok (.aload_n 0, 1) := by decide +kernel
theorem dX1_put_28 : decode cX1_put 28 = .ok (.getfield 50, 3) := by decide +kernel
theorem dX1_put_31 : decode cX1_put 31 = .ok (.invokevirtual 54, 3) := by decide +kernel
theorem dX1_put_34 : decode cX1_put 34 = .ok (.aload_n 0, 1) := by decide +kernel
theorem dX1_put_35 : decode cX1_put 35 = .ok (.getfield 22, 3) := by decide +kernel
theorem dX1_put_38 : decode cX1_put 38 = .ok (.aload_n 0, 1) := by decide +kernel
theorem dX1_put_39 : decode cX1_put 39 = .ok (.getfield 50, 3) := by decide +kernel
theorem dX1_put_42 : decode cX1_put 42 = .ok (.iload_n 1, 1) := by decide +kernel
theorem dX1_put_43 : decode cX1_put 43 = .ok (.invokevirtual 58, 3) := by decide +kernel
theorem dX1_put_46 : decode cX1_put 46 = .ok (.aload_n 0, 1) := by decide +kernel
theorem dX1_put_47 : decode cX1_put 47 = .ok (.getfield 26, 3) := by decide +kernel
theorem dX1_put_50 : decode cX1_put 50 = .ok (.aload_n 0, 1) := by decide +kernel
theorem dX1_put_51 : decode cX1_put 51 = .ok (.getfield 50, 3) := by decide +kernel
theorem dX1_put_54 : decode cX1_put 54 = .ok (.iload_n 3, 1) := by decide +kernel
theorem dX1_put_55 : decode cX1_put 55 = .ok (.invokevirtual 58, 3) := by decide +kernel
theorem dX1_put_58 : decode cX1_put 58 = .ok (.aload_n 0, 1) := by decide +kernel
theorem dX1_put_59 : decode cX1_put 59 = .ok (.dup, 1) := by decide +kernel
theorem dX1_put_60 : decode cX1_put 60 = .ok (.getfield 50, 3) := by decide +kernel
theorem dX1_put_63 : decode cX1_put 63 = .ok (.iconst 1, 1) := by decide +kernel
theorem dX1_put_64 : decode cX1_put 64 = .ok (.iadd, 1) := by decide +kernel
theorem dX1_put_65 : decode cX1_put 65 = .ok (.putfield 50, 3) := by decide +kernel
theorem dX1_put_68 : decode cX1_put 68 = .ok (.aload_n 0, 1) := by decide +kernel
theorem dX1_put_69 : decode cX1_put 69 = .ok (.iload_n 1, 1) := by decide +kernel
theorem dX1_put_70 : decode cX1_put 70 = .ok (.iload_n 2, 1) := by decide +kernel
theorem dX1_put_71 : decode cX1_put 71 = .ok (.invokevirtual 32, 3) := by decide +kernel
theorem dX1_put_74 : decode cX1_put 74 = .ok (.return_, 1) := by decide +kernel
theorem dX1_isFull_0 : decode cX1_isFull 0 = .ok (.aload_n 0, 1) := by decide +kernel
theorem dX1_isFull_1 : decode cX1_isFull 1 = .ok (.getfield 61, 3) := by decide +kernel
theorem dX1_isFull_4 : decode cX1_isFull 4 = .ok (.sipush 500, 3) := by decide +kernel
theorem dX1_isFull_7 : decode cX1_isFull 7 = .ok (.if_icmp .lt 7, 3) := by decide +kernel
theorem dX1_isFull_10 : decode cX1_isFull 10 = .ok (.iconst 1, 1) := by decide +kernel
theorem dX1_isFull_11 : decode cX1_isFull 11 = .ok (.goto 4, 3) := by decide +kernel
theorem dX1_isFull_14 : decode cX1_isFull 14 = .ok (.iconst 0, 1) := by decide +kernel
theorem dX1_isFull_15 : decode cX1_isFull 15 = .ok (.ireturn, 1) := by decide +kernel
theorem dX1_openEntry_0 : decode cX1_openEntry 0 = .ok (.aload_n 0, 1) := by decide +kernel
theorem dX1_openEntry_1 : decode cX1_openEntry 1 = .ok (.getfield 29, 3) := by decide +kernel
theorem dX1_openEntry_4 : decode cX1_openEntry 4 = .ok (.aload_n 0, 1) := by decide +kernel
theorem dX1_openEntry_5 : decode cX1_openEntry 5 = .ok (.getfield 61, 3) := by decide +kernel
theorem dX1_openEntry_8 : decode cX1_openEntry 8 = .ok (.aload_n 0, 1) := by decide +kernel
theorem dX1_openEntry_9 : decode cX1_openEntry 9 = .ok (.getfield 50, 3) := by decide +kernel
theorem dX1_openEntry_12 : decode cX1_openEntry 12 = .ok (.invokevirtual 58, 3) := by decide +kernel
theorem dX1_openEntry_15 : decode cX1_openEntry 15 = .ok (.aload_n 0, 1) := by decide +kernel
theorem dX1_openEntry_16 : decode cX1_openEntry 16 = .ok (.dup, 1) := by decide +kernel
theorem dX1_openEntry_17 : decode cX1_openEntry 17 = .ok (.getfield 61, 3) := by decide +kernel
theorem dX1_openEntry_20 : decode cX1_openEntry 20 = .ok (.iconst 1, 1) := by decide +kernel
theorem dX1_openEntry_21 : decode cX1_openEntry 21 = .ok (.iadd, 1) := by decide +kernel
theorem dX1_openEntry_22 : decode cX1_openEntry 22 = .ok (.putfield 61, 3) := by decide +kernel
theorem dX1_openEntry_25 : decode cX1_openEntry 25 = .ok (.return_, 1) := by decide +kernel
theorem dX2_init_0 : decode cX2_init 0 = .ok (.aload_n 0, 1) := by decide +kernel
theorem dX2_init_1 : decode cX2_init 1 = .ok (.invokespecial 3, 3) := by decide +kernel
theorem dX2_init_4 : decode cX2_init 4 = .ok (.aload_n 0, 1) := by decide +kernel
theorem dX2_init_5 : decode cX2_init 5 = .ok (.aload_n 1, 1) := by decide +kernel
theorem dX2_init_6 : decode cX2_init 6 = .ok (.putfield 9, 3) := by decide +kernel
theorem dX2_init_9 : decode cX2_init 9 = .ok (.aload_n 0, 1) := by decide +kernel
theorem dX2_init_10 : decode cX2_init 10 = .ok (.new 15, 3) := by decide +kernel
theorem dX2_init_13 : decode cX2_init 13 = .ok (.dup, 1) := by decide +kernel
theorem dX2_init_14 : decode cX2_init 14 = .ok (.bipush 32, 2) := by decide +kernel
theorem dX2_init_16 : decode cX2_init 16 = .ok (.iconst 0, 1) := by decide +kernel
theorem dX2_init_17 : decode cX2_init 17 = .ok (.invokespecial 17, 3) := by decide +kernel
theorem dX2_init_20 : decode cX2_init 20 = .ok (.putfield 20, 3) := by decide +kernel
theorem dX2_init_23 : decode cX2_init 23 = .ok (.aload_n 0, 1) := by decide +kernel
theorem dX2_init_24 : decode cX2_init 24 = .ok (.new 15, 3) := by decide +kernel
theorem dX2_init_27 : decode cX2_init 27 = .ok (.dup, 1) := by decide +kernel
theorem dX2_init_28 : decode cX2_init 28 = .ok (.bipush 16, 2) := by decide +kernel
theorem dX2_init_30 : decode cX2_init 30 = .ok (.iconst 0, 1) := by decide +kernel
theorem dX2_init_31 : decode cX2_init 31 = .ok (.invokespecial 17, 3) := by decide +kernel
theorem dX2_init_34 : decode cX2_init 34 = .ok (.putfield 24, 3) := by decide +kernel
theorem dX2_init_37 : decode cX2_init 37 = .ok (.return_, 1) := by decide +kernel
theorem dX3_init_0 : decode cX3_init 0 = .ok (.aload_n 0, 1) := by decide +kernel
theorem dX3_init_1 : decode cX3_init 1 = .ok (.invokespecial 3, 3) := by decide +kernel
theorem dX3_init_4 : decode cX3_init 4 = .ok (.aload_n 0, 1) := by decide +kernel
theorem dX3_init_5 : decode cX3_init 5 = .ok (.aload_n 1, 1) := by decide +kernel
theorem dX3_init_6 : decode cX3_init 6 = .ok (.putfield 9, 3) := by decide +kernel
theorem dX3_init_9 : decode cX3_init 9 = .ok (.aload_n 0, 1) := by decide +kernel
theorem dX3_init_10 : decode cX3_init 10 = .ok (.aload_n 2, 1) := by decide +kernel
theorem dX3_init_11 : decode cX3_init 11 = .ok (.putfield 15, 3) := by decide +kernel
theorem dX3_init_14 : decode cX3_init 14 = .ok (.aload_n 0, 1) := by decide +kernel
theorem dX3_init_15 : decode cX3_init 15 = .ok (.new 19, 3) := by decide +kernel
theorem dX3_init_18 : decode cX3_init 18 = .ok (.dup, 1) := by decide +kernel
theorem dX3_init_19 : decode cX3_init 19 = .ok (.bipush 64, 2) := by decide +kernel
theorem dX3_init_21 : decode cX3_init 21 = .ok (.iconst 0, 1) := by decide +kernel
theorem dX3_init_22 : decode cX3_init 22 = .ok (.invokespecial 21, 3) := by decide +kernel
theorem dX3_init_25 : decode cX3_init 25 = .ok (.putfield 24, 3) := by decide +kernel
theorem dX3_init_28 : decode cX3_init 28 = .ok (.return_, 1) := by decide +kernel
theorem dX3_on_0 : decode cX3_on 0 = .ok (.aload_n 0, 1) := by decide +kernel
theorem dX3_on_1 : decode cX3_on 1 = .ok (.getfield 9, 3) := by decide +kernel
theorem dX3_on_4 : decode cX3_on 4 = .ok (.iload_n 1, 1) := by decide +kernel
theorem dX3_on_5 : decode cX3_on 5 = .ok (.iload_n 2, 1) := by decide +kernel
theorem dX3_on_6 : decode cX3_on 6 = .ok (.invokestatic 28, 3) := by decide +kernel
theorem dX3_on_9 : decode cX3_on 9 = .ok (.invokevirtual 34, 3) := by decide +kernel
theorem dX3_on_12 : decode cX3_on 12 = .ok (.ireturn, 1) := by decide +kernel
theorem dX3_isFree_0 : decode cX3_isFree 0 = .ok (.aload_n 0, 1) := by decide +kernel
theorem dX3_isFree_1 : decode cX3_isFree 1 = .ok (.iload_n 1, 1) := by decide +kernel
theorem dX3_isFree_2 : decode cX3_isFree 2 = .ok (.iconst 1, 1) := by decide +kernel
theorem dX3_isFree_3 : decode cX3_isFree 3 = .ok (.invokevirtual 38, 3) := by decide +kernel
theorem dX3_isFree_6 : decode cX3_isFree 6 = .ok (.iconst (-1), 1) := by decide +kernel
theorem dX3_isFree_7 : decode cX3_isFree 7 = .ok (.if_icmp .ne 7, 3) := by decide +kernel
theorem dX3_isFree_10 : decode cX3_isFree 10 = .ok (.iconst 1, 1) := by decide +kernel
theorem dX3_isFree_11 : decode cX3_isFree 11 = .ok (.goto 4, 3) := by decide +kernel
theorem dX3_isFree_14 : decode cX3_isFree 14 = .ok (.iconst 0, 1) := by decide +kernel
theorem dX3_isFree_15 : decode cX3_isFree 15 = .ok (.ireturn, 1) := by decide +kernel
theorem dX3_classOn_0 : decode cX3_classOn 0 = .ok (.aload_n 0, 1) := by decide +kernel
theorem dX3_classOn_1 : decode cX3_classOn 1 = .ok (.iload_n 1, 1) := by decide +kernel
theorem dX3_classOn_2 : decode cX3_classOn 2 = .ok (.iconst 0, 1) := by decide +kernel
theorem dX3_classOn_3 : decode cX3_classOn 3 = .ok (.invokevirtual 38, 3) := by decide +kernel
theorem dX3_classOn_6 : decode cX3_classOn 6 = .ok (.ireturn, 1) := by decide +kernel
theorem dX3_waits_0 : decode cX3_waits 0 = .ok (.aload_n 0, 1) := by decide +kernel
theorem dX3_waits_1 : decode cX3_waits 1 = .ok (.iload_n 1, 1) := by decide +kernel
theorem dX3_waits_2 : decode cX3_waits 2 = .ok (.invokevirtual 41, 3) := by decide +kernel
theorem dX3_waits_5 : decode cX3_waits 5 = .ok (.ifCond .ne 17, 3) := by decide +kernel
theorem dX3_waits_8 : decode cX3_waits 8 = .ok (.aload_n 0, 1) := by decide +kernel
theorem dX3_waits_9 : decode cX3_waits 9 = .ok (.iload_n 1, 1) := by decide +kernel
theorem dX3_waits_10 : decode cX3_waits 10 = .ok (.iconst 4, 1) := by decide +kernel
theorem dX3_waits_11 : decode cX3_waits 11 = .ok (.invokevirtual 38, 3) := by decide +kernel
theorem dX3_waits_14 : decode cX3_waits 14 = .ok (.iconst 1, 1) := by decide +kernel
theorem dX3_waits_15 : decode cX3_waits 15 = .ok (.if_icmp .ne 7, 3) := by decide +kernel
theorem dX3_waits_18 : decode cX3_waits 18 = .ok (.iconst 1, 1) := by decide +kernel
theorem dX3_waits_19 : decode cX3_waits 19 = .ok (.goto 4, 3) := by decide +kernel
theorem dX3_waits_22 : decode cX3_waits 22 = .ok (.iconst 0, 1) := by decide +kernel
theorem dX3_waits_23 : decode cX3_waits 23 = .ok (.ireturn, 1) := by decide +kernel
theorem dX3_goesOn_0 : decode cX3_goesOn 0 = .ok (.aload_n 0, 1) := by decide +kernel
theorem dX3_goesOn_1 : decode cX3_goesOn 1 = .ok (.iload_n 1, 1) := by decide +kernel
theorem dX3_goesOn_2 : decode cX3_goesOn 2 = .ok (.invokevirtual 41, 3) := by decide +kernel
theorem dX3_goesOn_5 : decode cX3_goesOn 5 = .ok (.ifCond .ne 16, 3) := by decide +kernel
theorem dX3_goesOn_8 : decode cX3_goesOn 8 = .ok (.aload_n 0, 1) := by decide +kernel
theorem dX3_goesOn_9 : decode cX3_goesOn 9 = .ok (.iload_n 1, 1) := by decide +kernel
theorem dX3_goesOn_10 : decode cX3_goesOn 10 = .ok (.iconst 4, 1) := by decide +kernel
theorem dX3_goesOn_11 : decode cX3_goesOn 11 = .ok (.invokevirtual 38, 3) := by decide +kernel
theorem dX3_goesOn_14 : decode cX3_goesOn 14 = .ok (.ifCond .ne 7, 3) := by decide +kernel
theorem dX3_goesOn_17 : decode cX3_goesOn 17 = .ok (.iconst 1, 1) := by decide +kernel
theorem dX3_goesOn_18 : decode cX3_goesOn 18 = .ok (.goto 4, 3) := by decide +kernel
theorem dX3_goesOn_21 : decode cX3_goesOn 21 = .ok (.iconst 0, 1) := by decide +kernel
theorem dX3_goesOn_22 : decode cX3_goesOn 22 = .ok (.ireturn, 1) := by decide +kernel
theorem dX3_signsOf_0 : decode cX3_signsOf 0 = .ok (.aload_n 0, 1) := by decide +kernel
theorem dX3_signsOf_1 : decode cX3_signsOf 1 = .ok (.iload_n 1, 1) := by decide +kernel
theorem dX3_signsOf_2 : decode cX3_signsOf 2 = .ok (.iconst 5, 1) := by decide +kernel
theorem dX3_signsOf_3 : decode cX3_signsOf 3 = .ok (.iload_n 2, 1) := by decide +kernel
theorem dX3_signsOf_4 : decode cX3_signsOf 4 = .ok (.bipush 8, 2) := by decide +kernel
theorem dX3_signsOf_6 : decode cX3_signsOf 6 = .ok (.imul, 1) := by decide +kernel
theorem dX3_signsOf_7 : decode cX3_signsOf 7 = .ok (.iadd, 1) := by decide +kernel
theorem dX3_signsOf_8 : decode cX3_signsOf 8 = .ok (.iload_n 3, 1) := by decide +kernel
theorem dX3_signsOf_9 : decode cX3_signsOf 9 = .ok (.iadd, 1) := by decide +kernel
theorem dX3_signsOf_10 : decode cX3_signsOf 10 = .ok (.invokevirtual 38, 3) := by decide +kernel
theorem dX3_signsOf_13 : decode cX3_signsOf 13 = .ok (.ireturn, 1) := by decide +kernel
theorem dX3_openFights_0 : decode cX3_openFights 0 = .ok (.iconst 0, 1) := by decide +kernel
theorem dX3_openFights_1 : decode cX3_openFights 1 = .ok (.istore_n 1, 1) := by decide +kernel
theorem dX3_openFights_2 : decode cX3_openFights 2 = .ok (.iconst 0, 1) := by decide +kernel
theorem dX3_openFights_3 : decode cX3_openFights 3 = .ok (.istore_n 2, 1) := by decide +kernel
theorem dX3_openFights_4 : decode cX3_openFights 4 = .ok (.iload_n 2, 1) := by decide +kernel
theorem dX3_openFights_5 : decode cX3_openFights 5 = .ok (.iconst 4, 1) := by decide +kernel
theorem dX3_openFights_6 : decode cX3_openFights 6 = .ok (.if_icmp .ge 25, 3) := by decide +kernel
theorem dX3_openFights_9 : decode cX3_openFights 9 = .ok (.iload_n 1, 1) := by decide +kernel
theorem dX3_openFights_10 : decode cX3_openFights 10 = .ok (.aload_n 0, 1) := by decide +kernel
theorem dX3_openFights_11 : decode cX3_openFights 11 = .ok (.iload_n 2, 1) := by decide +kernel
theorem dX3_openFights_12 : decode cX3_openFights 12 = .ok (.invokevirtual 41, 3) := by decide +kernel
theorem dX3_openFights_15 : decode cX3_openFights 15 = .ok (.ifCond .eq 7, 3) := by decide +kernel
theorem dX3_openFights_18 : decode cX3_openFights 18 = .ok (.iconst 0, 1) := by decide +kernel
theorem dX3_openFights_19 : decode cX3_openFights 19 = .ok (.goto 4, 3) := by decide +kernel
theorem dX3_openFights_22 : decode cX3_openFights 22 = .ok (.iconst 1, 1) := by decide +kernel
theorem dX3_openFights_23 : decode cX3_openFights 23 = .ok (.iadd, 1) := by decide +kernel
theorem dX3_openFights_24 : decode cX3_openFights 24 = .ok (.istore_n 1, 1) := by decide +kernel
theorem dX3_openFights_25 : decode cX3_openFights 25 = .ok (.iinc 2 1, 3) := by decide +kernel
theorem dX3_openFights_28 : decode cX3_openFights 28 = .ok (.goto (-24), 3) := by decide +kernel
theorem dX3_openFights_31 : decode cX3_openFights 31 = .ok (.iload_n 1, 1) := by decide +kernel
theorem dX3_openFights_32 : decode cX3_openFights 32 = .ok (.ireturn, 1) := by decide +kernel
theorem dX4_init_0 : decode cX4_init 0 = .ok (.aload_n 0, 1) := by decide +kernel
theorem dX4_init_1 : decode cX4_init 1 = .ok (.invokespecial 1, 3) := by decide +kernel
theorem dX4_init_4 : decode cX4_init 4 = .ok (.aload_n 0, 1) := by decide +kernel
theorem dX4_init_5 : decode cX4_init 5 = .ok (.new 7, 3) := by decide +kernel
theorem dX4_init_8 : decode cX4_init 8 = .ok (.dup, 1) := by decide +kernel
theorem dX4_init_9 : decode cX4_init 9 = .ok (.sipush 300, 3) := by decide +kernel
theorem dX4_init_12 : decode cX4_init 12 = .ok (.iconst 0, 1) := by decide +kernel
theorem dX4_init_13 : decode cX4_init 13 = .ok (.invokespecial 11, 3) := by decide +kernel
theorem dX4_init_16 : decode cX4_init 16 = .ok (.putfield 14, 3) := by decide +kernel
theorem dX4_init_19 : decode cX4_init 19 = .ok (.aload_n 0, 1) := by decide +kernel
theorem dX4_init_20 : decode cX4_init 20 = .ok (.new 7, 3) := by decide +kernel
theorem dX4_init_23 : decode cX4_init 23 = .ok (.dup, 1) := by decide +kernel
theorem dX4_init_24 : decode cX4_init 24 = .ok (.bipush 20, 2) := by decide +kernel
theorem dX4_init_26 : decode cX4_init 26 = .ok (.iconst 0, 1) := by decide +kernel
theorem dX4_init_27 : decode cX4_init 27 = .ok (.invokespecial 11, 3) := by decide +kernel
theorem dX4_init_30 : decode cX4_init 30 = .ok (.putfield 18, 3) := by decide +kernel
theorem dX4_init_33 : decode cX4_init 33 = .ok (.aload_n 0, 1) := by decide +kernel
theorem dX4_init_34 : decode cX4_init 34 = .ok (.new 7, 3) := by decide +kernel
theorem dX4_init_37 : decode cX4_init 37 = .ok (.dup, 1) := by decide +kernel
theorem dX4_init_38 : decode cX4_init 38 = .ok (.bipush 20, 2) := by decide +kernel
theorem dX4_init_40 : decode cX4_init 40 = .ok (.iconst 0, 1) := by decide +kernel
theorem dX4_init_41 : decode cX4_init 41 = .ok (.invokespecial 11, 3) := by decide +kernel
theorem dX4_init_44 : decode cX4_init 44 = .ok (.putfield 21, 3) := by decide +kernel
theorem dX4_init_47 : decode cX4_init 47 = .ok (.return_, 1) := by decide +kernel
theorem dX4_clear_0 : decode cX4_clear 0 = .ok (.aload_n 0, 1) := by decide +kernel
theorem dX4_clear_1 : decode cX4_clear 1 = .ok (.iconst 0, 1) := by decide +kernel
theorem dX4_clear_2 : decode cX4_clear 2 = .ok (.putfield 24, 3) := by decide +kernel
theorem dX4_clear_5 : decode cX4_clear 5 = .ok (.aload_n 0, 1) := by decide +kernel
theorem dX4_clear_6 : decode cX4_clear 6 = .ok (.iconst 0, 1) := by decide +kernel
theorem dX4_clear_7 : decode cX4_clear 7 = .ok (.putfield 28, 3) := by decide +kernel
theorem dX4_clear_10 : decode cX4_clear 10 = .ok (.aload_n 0, 1) := by decide +kernel
theorem dX4_clear_11 : decode cX4_clear 11 = .ok (.iconst 0, 1) := by decide +kernel
theorem dX4_clear_12 : decode cX4_clear 12 = .ok (.putfield 31, 3) := by decide +kernel
theorem dX4_clear_15 : decode cX4_clear 15 = .ok (.aload_n 0, 1) := by decide +kernel
theorem dX4_clear_16 : decode cX4_clear 16 = .ok (.iconst 0, 1) := by decide +kernel
theorem dX4_clear_17 : decode cX4_clear 17 = .ok (.putfield 34, 3) := by decide +kernel
theorem dX4_clear_20 : decode cX4_clear 20 = .ok (.aload_n 0, 1) := by decide +kernel
theorem dX4_clear_21 : decode cX4_clear 21 = .ok (.iconst 0, 1) := by decide +kernel
theorem dX4_clear_22 : decode cX4_clear 22 = .ok (.putfield 37, 3) := by decide +kernel
theorem dX4_clear_25 : decode cX4_clear 25 = .ok (.aload_n 0, 1) := by decide +kernel
theorem dX4_clear_26 : decode cX4_clear 26 = .ok (.iconst 0, 1) := by decide +kernel
theorem dX4_clear_27 : decode cX4_clear 27 = .ok (.putfield 40, 3) := by decide +kernel
theorem dX4_clear_30 : decode cX4_clear 30 = .ok (.return_, 1) := by decide +kernel
theorem dX5_init_0 : decode cX5_init 0 = .ok (.aload_n 0, 1) := by decide +kernel
theorem dX5_init_1 : decode cX5_init 1 = .ok (.invokespecial 3, 3) := by decide +kernel
theorem dX5_init_4 : decode cX5_init 4 = .ok (.aload_n 0, 1) := by decide +kernel
theorem dX5_init_5 : decode cX5_init 5 = .ok (.aload_n 1, 1) := by decide +kernel
theorem dX5_init_6 : decode cX5_init 6 = .ok (.putfield 9, 3) := by decide +kernel
theorem dX5_init_9 : decode cX5_init 9 = .ok (.aload_n 0, 1) := by decide +kernel
theorem dX5_init_10 : decode cX5_init 10 = .ok (.new 15, 3) := by decide +kernel
theorem dX5_init_13 : decode cX5_init 13 = .ok (.dup, 1) := by decide +kernel
theorem dX5_init_14 : decode cX5_init 14 = .ok (.bipush 8, 2) := by decide +kernel
theorem dX5_init_16 : decode cX5_init 16 = .ok (.iconst 0, 1) := by decide +kernel
theorem dX5_init_17 : decode cX5_init 17 = .ok (.invokespecial 19, 3) := by decide +kernel
theorem dX5_init_20 : decode cX5_init 20 = .ok (.putfield 22, 3) := by decide +kernel
theorem dX5_init_23 : decode cX5_init 23 = .ok (.aload_n 0, 1) := by decide +kernel
theorem dX5_init_24 : decode cX5_init 24 = .ok (.new 15, 3) := by decide +kernel
theorem dX5_init_27 : decode cX5_init 27 = .ok (.dup, 1) := by decide +kernel
theorem dX5_init_28 : decode cX5_init 28 = .ok (.bipush 8, 2) := by decide +kernel
theorem dX5_init_30 : decode cX5_init 30 = .ok (.iconst 0, 1) := by decide +kernel
theorem dX5_init_31 : decode cX5_init 31 = .ok (.invokespecial 19, 3) := by decide +kernel
theorem dX5_init_34 : decode cX5_init 34 = .ok (.putfield 26, 3) := by decide +kernel
theorem dX5_init_37 : decode cX5_init 37 = .ok (.aload_n 0, 1) := by decide +kernel
theorem dX5_init_38 : decode cX5_init 38 = .ok (.new 15, 3) := by decide +kernel
theorem dX5_init_41 : decode cX5_init 41 = .ok (.dup, 1) := by decide +kernel
theorem dX5_init_42 : decode cX5_init 42 = .ok (.bipush 64, 2) := by decide +kernel
theorem dX5_init_44 : decode cX5_init 44 = .ok (.iconst 0, 1) := by decide +kernel
theorem dX5_init_45 : decode cX5_init 45 = .ok (.invokespecial 19, 3) := by decide +kernel
theorem dX5_init_48 : decode cX5_init 48 = .ok (.putfield 29, 3) := by decide +kernel
theorem dX5_init_51 : decode cX5_init 51 = .ok (.aload_n 0, 1) := by decide +kernel
theorem dX5_init_52 : decode cX5_init 52 = .ok (.new 17, 3) := by decide +kernel
theorem dX5_init_55 : decode cX5_init 55 = .ok (.dup, 1) := by decide +kernel
theorem dX5_init_56 : decode cX5_init 56 = .ok (.invokespecial 32, 3) := by decide +kernel
theorem dX5_init_59 : decode cX5_init 59 = .ok (.putfield 33, 3) := by decide +kernel
theorem dX5_init_62 : decode cX5_init 62 = .ok (.aload_n 0, 1) := by decide +kernel
theorem dX5_init_63 : decode cX5_init 63 = .ok (.iconst (-1), 1) := by decide +kernel
theorem dX5_init_64 : decode cX5_init 64 = .ok (.putfield 37, 3) := by decide +kernel
theorem dX5_init_67 : decode cX5_init 67 = .ok (.return_, 1) := by decide +kernel
theorem dX5_readLaws_0 : decode cX5_readLaws 0 = .ok (.aload_n 0, 1) := by decide +kernel
theorem dX5_readLaws_1 : decode cX5_readLaws 1 = .ok (.getfield 33, 3) := by decide +kernel
theorem dX5_readLaws_4 : decode cX5_readLaws 4 = .ok (.invokevirtual 41, 3) := by decide +kernel
theorem dX5_readLaws_7 : decode cX5_readLaws 7 = .ok (.aload_n 0, 1) := by decide +kernel
theorem dX5_readLaws_8 : decode cX5_readLaws 8 = .ok (.getfield 9, 3) := by decide +kernel
theorem dX5_readLaws_11 : decode cX5_readLaws 11 = .ok (.invokevirtual 44, 3) := by decide +kernel
theorem dX5_readLaws_14 : decode cX5_readLaws 14 = .ok (.aload_n 0, 1) := by decide +kernel
theorem dX5_readLaws_15 : decode cX5_readLaws 15 = .ok (.iconst 0, 1) := by decide +kernel
theorem dX5_readLaws_16 : decode cX5_readLaws 16 = .ok (.putfield 49, 3) := by decide +kernel
theorem dX5_readLaws_19 : decode cX5_readLaws 19 = .ok (.aload_n 0, 1) := by decide +kernel
theorem dX5_readLaws_20 : decode cX5_readLaws 20 = .ok (.iconst (-1), 1) := by decide +kernel
theorem dX5_readLaws_21 : decode cX5_readLaws 21 = .ok (.putfield 37, 3) := by decide +kernel
theorem dX5_readLaws_24 : decode cX5_readLaws 24 = .ok (.aload_n 0, 1) := by decide +kernel
theorem dX5_readLaws_25 : decode cX5_readLaws 25 = .ok (.iconst 0, 1) := by decide +kernel
theorem dX5_readLaws_26 : decode cX5_readLaws 26 = .ok (.putfield 52, 3) := by decide +kernel
theorem dX5_readLaws_29 : decode cX5_readLaws 29 = .ok (.aload_n 0, 1) := by decide +kernel
theorem dX5_readLaws_30 : decode cX5_readLaws 30 = .ok (.iconst 0, 1) := by decide +kernel
theorem dX5_readLaws_31 : decode cX5_readLaws 31 = .ok (.putfield 55, 3) := by decide +kernel
theorem dX5_readLaws_34 : decode cX5_readLaws 34 = .ok (.aload_n 0, 1) := by decide +kernel
theorem dX5_readLaws_35 : decode cX5_readLaws 35 = .ok (.iconst 0, 1) := by decide +kernel
theorem dX5_readLaws_36 : decode cX5_readLaws 36 = .ok (.putfield 58, 3) := by decide +kernel
theorem dX5_readLaws_39 : decode cX5_readLaws 39 = .ok (.aload_n 0, 1) := by decide +kernel
theorem dX5_readLaws_40 : decode cX5_readLaws 40 = .ok (.iconst 0, 1) := by decide +kernel
theorem dX5_readLaws_41 : decode cX5_readLaws 41 = .ok (.putfield 61, 3) := by decide +kernel
theorem dX5_readLaws_44 : decode cX5_readLaws 44 = .ok (.iconst 0, 1) := by decide +kernel
theorem dX5_readLaws_45 : decode cX5_readLaws 45 = .ok (.istore_n 1, 1) := by decide +kernel
theorem dX5_readLaws_46 : decode cX5_readLaws 46 = .ok (.iload_n 1, 1) := by decide +kernel
theorem dX5_readLaws_47 : decode cX5_readLaws 47 = .ok (.sipush 3000, 3) := by decide +kernel
theorem dX5_readLaws_50 : decode cX5_readLaws 50 = .ok (.if_icmp .gt 43, 3) := by decide +kernel
theorem dX5_readLaws_53 : decode cX5_readLaws 53 = .ok (.aload_n 0, 1) := by decide +kernel
theorem dX5_readLaws_54 : decode cX5_readLaws 54 = .ok (.getfield 49, 3) := by decide +kernel
theorem dX5_readLaws_57 : decode cX5_readLaws 57 = .ok (.ifCond .ne 36, 3) := by decide +kernel
theorem dX5_readLaws_60 : decode cX5_readLaws 60 = .ok (.aload_n 0, 1) := by decide +kernel
theorem dX5_readLaws_61 : decode cX5_readLaws 61 = .ok (.getfield 52, 3) := by decide +kernel
theorem dX5_readLaws_64 : decode cX5_readLaws 64 = .ok (.bipush 17, 2) := by decide +kernel
theorem dX5_readLaws_66 : decode cX5_readLaws 66 = .ok (.if_icmp .eq 27, 3) := by decide +kernel
theorem dX5_readLaws_69 : decode cX5_readLaws 69 = .ok (.aload_n 0, 1) := by decide +kernel
theorem dX5_readLaws_70 : decode cX5_readLaws 70 = .ok (.getfield 9, 3) := by decide +kernel
theorem dX5_readLaws_73 : decode cX5_readLaws 73 = .ok (.invokevirtual 64, 3) := by decide +kernel
theorem dX5_readLaws_76 : decode cX5_readLaws 76 = .ok (.aload_n 0, 1) := by decide +kernel
theorem dX5_readLaws_77 : decode cX5_readLaws 77 = .ok (.aload_n 0, 1) := by decide +kernel
theorem dX5_readLaws_78 : decode cX5_readLaws 78 = .ok (.getfield 9, 3) := by decide +kernel
theorem dX5_readLaws_81 : decode cX5_readLaws 81 = .ok (.getfield 67, 3) := by decide +kernel
theorem dX5_readLaws_84 : decode cX5_readLaws 84 = .ok (.invokevirtual 70, 3) := by decide +kernel
theorem dX5_readLaws_87 : decode cX5_readLaws 87 = .ok (.iinc 1 1, 3) := by decide +kernel
theorem dX5_readLaws_90 : decode cX5_readLaws 90 = .ok (.goto (-44), 3) := by decide +kernel
theorem dX5_readLaws_93 : decode cX5_readLaws 93 = .ok (.aload_n 0, 1) := by decide +kernel
theorem dX5_readLaws_94 : decode cX5_readLaws 94 = .ok (.getfield 49, 3) := by decide +kernel
theorem dX5_readLaws_97 : decode cX5_readLaws 97 = .ok (.ifCond .ne 7, 3) := by decide +kernel
theorem dX5_readLaws_100 : decode cX5_readLaws 100 = .ok (.iconst 1, 1) := by decide +kernel
theorem dX5_readLaws_101 : decode cX5_readLaws 101 = .ok (.goto 4, 3) := by decide +kernel
theorem dX5_readLaws_104 : decode cX5_readLaws 104 = .ok (.iconst 0, 1) := by decide +kernel
theorem dX5_readLaws_105 : decode cX5_readLaws 105 = .ok (.ireturn, 1) := by decide +kernel
theorem dX5_fail_0 : decode cX5_fail 0 = .ok (.aload_n 0, 1) := by decide +kernel
theorem dX5_fail_1 : decode cX5_fail 1 = .ok (.iload_n 1, 1) := by decide +kernel
theorem dX5_fail_2 : decode cX5_fail 2 = .ok (.putfield 49, 3) := by decide +kernel
theorem dX5_fail_5 : decode cX5_fail 5 = .ok (.aload_n 0, 1) := by decide +kernel
theorem dX5_fail_6 : decode cX5_fail 6 = .ok (.aload_n 0, 1) := by decide +kernel
theorem dX5_fail_7 : decode cX5_fail 7 = .ok (.getfield 9, 3) := by decide +kernel
theorem dX5_fail_10 : decode cX5_fail 10 = .ok (.getfield 74, 3) := by decide +kernel
theorem dX5_fail_13 : decode cX5_fail 13 = .ok (.putfield 37, 3) := by decide +kernel
theorem dX5_fail_16 : decode cX5_fail 16 = .ok (.return_, 1) := by decide +kernel
theorem dX5_take_0 : decode cX5_take 0 = .ok (.aload_n 0, 1) := by decide +kernel
theorem dX5_take_1 : decode cX5_take 1 = .ok (.getfield 52, 3) := by decide +kernel
theorem dX5_take_4 : decode cX5_take 4 = .ok (.getstatic 77, 3) := by decide +kernel
theorem dX5_take_7 : decode cX5_take 7 = .ok (.arraylength, 1) := by decide +kernel
theorem dX5_take_8 : decode cX5_take 8 = .ok (.if_icmp .ge 9, 3) := by decide +kernel
theorem dX5_take_11 : decode cX5_take 11 = .ok (.aload_n 0, 1) := by decide +kernel
theorem dX5_take_12 : decode cX5_take 12 = .ok (.iload_n 1, 1) := by decide +kernel
theorem dX5_take_13 : decode cX5_take 13 = .ok (.invokevirtual 81, 3) := by decide +kernel
theorem dX5_take_16 : decode cX5_take 16 = .ok (.return_, 1) := by decide +kernel
theorem dX5_take_17 : decode cX5_take 17 = .ok (.aload_n 0, 1) := by decide +kernel
theorem dX5_take_18 : decode cX5_take 18 = .ok (.getfield 52, 3) := by decide +kernel
theorem dX5_take_21 : decode cX5_take 21 = .ok (.bipush 15, 2) := by decide +kernel
theorem dX5_take_23 : decode cX5_take 23 = .ok (.if_icmp .ne 26, 3) := by decide +kernel
theorem dX5_take_26 : decode cX5_take 26 = .ok (.aload_n 0, 1) := by decide +kernel
theorem dX5_take_27 : decode cX5_take 27 = .ok (.getfield 84, 3) := by decide +kernel
theorem dX5_take_30 : decode cX5_take 30 = .ok (.ifCond .eq 19, 3) := by decide +kernel
theorem dX5_take_33 : decode cX5_take 33 = .ok (.iload_n 1, 1) := by decide +kernel
theorem dX5_take_34 : decode cX5_take 34 = .ok (.bipush 20, 2) := by decide +kernel
theorem dX5_take_36 : decode cX5_take 36 = .ok (.if_icmp .eq 13, 3) := by decide +kernel
theorem dX5_take_39 : decode cX5_take 39 = .ok (.iload_n 1, 1) := by decide +kernel
theorem dX5_take_40 : decode cX5_take 40 = .ok (.bipush 21, 2) := by decide +kernel
theorem dX5_take_42 : decode cX5_take 42 = .ok (.if_icmp .eq 7, 3) := by decide +kernel
theorem dX5_take_45 : decode cX5_take 45 = .ok (.aload_n 0, 1) := by decide +kernel
theorem dX5_take_46 : decode cX5_take 46 = .ok (.invokevirtual 87, 3) := by decide +kernel
theorem dX5_take_49 : decode cX5_take 49 = .ok (.aload_n 0, 1) := by decide +kernel
theorem dX5_take_50 : decode cX5_take 50 = .ok (.getfield 52, 3) := by decide +kernel
theorem dX5_take_53 : decode cX5_take 53 = .ok (.tableswitch 151 6 15 #[55, 63, 71, 55, 91, 99, 119, 127, 135, 143], 55) := by decide +kernel
theorem dX5_take_108 : decode cX5_take 108 = .ok (.aload_n 0, 1) := by decide +kernel
theorem dX5_take_109 : decode cX5_take 109 = .ok (.iload_n 1, 1) := by decide +kernel
theorem dX5_take_110 : decode cX5_take 110 = .ok (.invokevirtual 90, 3) := by decide +kernel
theorem dX5_take_113 : decode cX5_take 113 = .ok (.goto 96, 3) := by decide +kernel
theorem dX5_take_116 : decode cX5_take 116 = .ok (.aload_n 0, 1) := by decide +kernel
theorem dX5_take_117 : decode cX5_take 117 = .ok (.iload_n 1, 1) := by decide +kernel
theorem dX5_take_118 : decode cX5_take 118 = .ok (.invokevirtual 93, 3) := by decide +kernel
theorem dX5_take_121 : decode cX5_take 121 = .ok (.goto 88, 3) := by decide +kernel
theorem dX5_take_124 : decode cX5_take 124 = .ok (.aload_n 0, 1) := by decide +kernel
theorem dX5_take_125 : decode cX5_take 125 = .ok (.iload_n 1, 1) := by decide +kernel
theorem dX5_take_126 : decode cX5_take 126 = .ok (.bipush 19, 2) := by decide +kernel
theorem dX5_take_128 : decode cX5_take 128 = .ok (.if_icmp .ne 7, 3) := by decide +kernel
theorem dX5_take_131 : decode cX5_take 131 = .ok (.iconst 1, 1) := by decide +kernel
theorem dX5_take_132 : decode cX5_take 132 = .ok (.goto 4, 3) := by decide +kernel
theorem dX5_take_135 : decode cX5_take 135 = .ok (.iconst 0, 1) := by decide +kernel
theorem dX5_take_136 : decode cX5_take 136 = .ok (.bipush 6, 2) := by decide +kernel
theorem dX5_take_138 : decode cX5_take 138 = .ok (.invokevirtual 96, 3) := by decide +kernel
theorem dX5_take_141 : decode cX5_take 141 = .ok (.goto 68, 3) := by decide +kernel
theorem dX5_take_144 : decode cX5_take 144 = .ok (.aload_n 0, 1) := by decide +kernel
theorem dX5_take_145 : decode cX5_take 145 = .ok (.iload_n 1, 1) := by decide +kernel
theorem dX5_take_146 : decode cX5_take 146 = .ok (.invokevirtual 100, 3) := by decide +kernel
theorem dX5_take_149 : decode cX5_take 149 = .ok (.goto 60, 3) := by decide +kernel
theorem dX5_take_152 : decode cX5_take 152 = .ok (.aload_n 0, 1) := by decide +kernel
theorem dX5_take_153 : decode cX5_take 153 = .ok (.iload_n 1, 1) := by decide +kernel
theorem dX5_take_154 : decode cX5_take 154 = .ok (.bipush 8, 2) := by decide +kernel
theorem dX5_take_156 : decode cX5_take 156 = .ok (.if_icmp .ne 7, 3) := by decide +kernel
theorem dX5_take_159 : decode cX5_take 159 = .ok (.iconst 1, 1) := by decide +kernel
theorem dX5_take_160 : decode cX5_take 160 = .ok (.goto 4, 3) := by decide +kernel
theorem dX5_take_163 : decode cX5_take 163 = .ok (.iconst 0, 1) := by decide +kernel
theorem dX5_take_164 : decode cX5_take 164 = .ok (.bipush 12, 2) := by decide +kernel
theorem dX5_take_166 : decode cX5_take 166 = .ok (.invokevirtual 96, 3) := by decide +kernel
theorem dX5_take_169 : decode cX5_take 169 = .ok (.goto 40, 3) := by decide +kernel
theorem dX5_take_172 : decode cX5_take 172 = .ok (.aload_n 0, 1) := by decide +kernel
theorem dX5_take_173 : decode cX5_take 173 = .ok (.iload_n 1, 1) := by decide +kernel
theorem dX5_take_174 : decode cX5_take 174 = .ok (.invokevirtual 103, 3) := by decide +kernel
theorem dX5_take_177 : decode cX5_take 177 = .ok (.goto 32, 3) := by decide +kernel
theorem dX5_take_180 : decode cX5_take 180 = .ok (.aload_n 0, 1) := by decide +kernel
theorem dX5_take_181 : decode cX5_take 181 = .ok (.iload_n 1, 1) := by decide +kernel
theorem dX5_take_182 : decode cX5_take 182 = .ok (.invokevirtual 106, 3) := by decide +kernel
theorem dX5_take_185 : decode cX5_take 185 = .ok (.goto 24, 3) := by decide +kernel
theorem dX5_take_188 : decode cX5_take 188 = .ok (.aload_n 0, 1) := by decide +kernel
theorem dX5_take_189 : decode cX5_take 189 = .ok (.iload_n 1, 1) := by decide +kernel
theorem dX5_take_190 : decode cX5_take 190 = .ok (.invokevirtual 109, 3) := by decide +kernel
theorem dX5_take_193 : decode cX5_take 193 = .ok (.goto 16, 3) := by decide +kernel
theorem dX5_take_196 : decode cX5_take 196 = .ok (.aload_n 0, 1) := by decide +kernel
theorem dX5_take_197 : decode cX5_take 197 = .ok (.iload_n 1, 1) := by decide +kernel
theorem dX5_take_198 : decode cX5_take 198 = .ok (.invokevirtual 112, 3) := by decide +kernel
theorem dX5_take_201 : decode cX5_take 201 = .ok (.goto 8, 3) := by decide +kernel
theorem dX5_take_204 : decode cX5_take 204 = .ok (.aload_n 0, 1) := by decide +kernel
theorem dX5_take_205 : decode cX5_take 205 = .ok (.iload_n 1, 1) := by decide +kernel
theorem dX5_take_206 : decode cX5_take 206 = .ok (.invokevirtual 115, 3) := by decide +kernel
theorem dX5_take_209 : decode cX5_take 209 = .ok (.return_, 1) := by decide +kernel
theorem dX5_goIf_0 : decode cX5_goIf 0 = .ok (.iload_n 1, 1) := by decide +kernel
theorem dX5_goIf_1 : decode cX5_goIf 1 = .ok (.ifCond .eq 11, 3) := by decide +kernel
theorem dX5_goIf_4 : decode cX5_goIf 4 = .ok (.aload_n 0, 1) := by decide +kernel
theorem dX5_goIf_5 : decode cX5_goIf 5 = .ok (.iload_n 2, 1) := by decide +kernel
theorem dX5_goIf_6 : decode cX5_goIf 6 = .ok (.putfield 52, 3) := by decide +kernel
theorem dX5_goIf_9 : decode cX5_goIf 9 = .ok (.goto 8, 3) := by decide +kernel
theorem dX5_goIf_12 : decode cX5_goIf 12 = .ok (.aload_n 0, 1) := by decide +kernel
theorem dX5_goIf_13 : decode cX5_goIf 13 = .ok (.iconst 1, 1) := by decide +kernel
theorem dX5_goIf_14 : decode cX5_goIf 14 = .ok (.invokevirtual 118, 3) := by decide +kernel
theorem dX5_goIf_17 : decode cX5_goIf 17 = .ok (.return_, 1) := by decide +kernel
theorem dX5_takeHead_0 : decode cX5_takeHead 0 = .ok (.aload_n 0, 1) := by decide +kernel
theorem dX5_takeHead_1 : decode cX5_takeHead 1 = .ok (.getfield 52, 3) := by decide +kernel
theorem dX5_takeHead_4 : decode cX5_takeHead 4 = .ok (.ifCond .lt 30, 3) := by decide +kernel
theorem dX5_takeHead_7 : decode cX5_takeHead 7 = .ok (.aload_n 0, 1) := by decide +kernel
theorem dX5_takeHead_8 : decode cX5_takeHead 8 = .ok (.getfield 52, 3) := by decide +kernel
theorem dX5_takeHead_11 : decode cX5_takeHead 11 = .ok (.getstatic 77, 3) := by decide +kernel
theorem dX5_takeHead_14 : decode cX5_takeHead 14 = .ok (.arraylength, 1) := by decide +kernel
theorem dX5_takeHead_15 : decode cX5_takeHead 15 = .ok (.if_icmp .ge 19, 3) := by decide +kernel
theorem dX5_takeHead_18 : decode cX5_takeHead 18 = .ok (.iload_n 1, 1) := by decide +kernel
theorem dX5_takeHead_19 : decode cX5_takeHead 19 = .ok (.getstatic 77, 3) := by decide +kernel
theorem dX5_takeHead_22 : decode cX5_takeHead 22 = .ok (.aload_n 0, 1) := by decide +kernel
theorem dX5_takeHead_23 : decode cX5_takeHead 23 = .ok (.getfield 52, 3) := by decide +kernel
theorem dX5_takeHead_26 : decode cX5_takeHead 26 = .ok (.iaload, 1) := by decide +kernel
theorem dX5_takeHead_27 : decode cX5_takeHead 27 = .ok (.if_icmp .ne 7, 3) := by decide +kernel
theorem dX5_takeHead_30 : decode cX5_takeHead 30 = .ok (.iconst 1, 1) := by decide +kernel
theorem dX5_takeHead_31 : decode cX5_takeHead 31 = .ok (.goto 4, 3) := by decide +kernel
theorem dX5_takeHead_34 : decode cX5_takeHead 34 = .ok (.iconst 0, 1) := by decide +kernel
theorem dX5_takeHead_35 : decode cX5_takeHead 35 = .ok (.istore_n 2, 1) := by decide +kernel
theorem dX5_takeHead_36 : decode cX5_takeHead 36 = .ok (.iload_n 2, 1) := by decide +kernel
theorem dX5_takeHead_37 : decode cX5_takeHead 37 = .ok (.ifCond .eq 25, 3) := by decide +kernel
theorem dX5_takeHead_40 : decode cX5_takeHead 40 = .ok (.aload_n 0, 1) := by decide +kernel
theorem dX5_takeHead_41 : decode cX5_takeHead 41 = .ok (.getfield 52, 3) := by decide +kernel
theorem dX5_takeHead_44 : decode cX5_takeHead 44 = .ok (.iconst 1, 1) := by decide +kernel
theorem dX5_takeHead_45 : decode cX5_takeHead 45 = .ok (.if_icmp .ne 17, 3) := by decide +kernel
theorem dX5_takeHead_48 : decode cX5_takeHead 48 = .ok (.aload_n 0, 1) := by decide +kernel
theorem dX5_takeHead_49 : decode cX5_takeHead 49 = .ok (.getfield 33, 3) := by decide +kernel
theorem dX5_takeHead_52 : decode cX5_takeHead 52 = .ok (.aload_n 0, 1) := by decide +kernel
theorem dX5_takeHead_53 : decode cX5_takeHead 53 = .ok (.getfield 9, 3) := by decide +kernel
theorem dX5_takeHead_56 : decode cX5_takeHead 56 = .ok (.getfield 121, 3) := by decide +kernel
theorem dX5_takeHead_59 : decode cX5_takeHead 59 = .ok (.putfield 124, 3) := by decide +kernel
theorem dX5_takeHead_62 : decode cX5_takeHead 62 = .ok (.iload_n 2, 1) := by decide +kernel
theorem dX5_takeHead_63 : decode cX5_takeHead 63 = .ok (.ifCond .eq 25, 3) := by decide +kernel
theorem dX5_takeHead_66 : decode cX5_takeHead 66 = .ok (.aload_n 0, 1) := by decide +kernel
theorem dX5_takeHead_67 : decode cX5_takeHead 67 = .ok (.getfield 52, 3) := by decide +kernel
theorem dX5_takeHead_70 : decode cX5_takeHead 70 = .ok (.iconst 4, 1) := by decide +kernel
theorem dX5_takeHead_71 : decode cX5_takeHead 71 = .ok (.if_icmp .ne 17, 3) := by decide +kernel
theorem dX5_takeHead_74 : decode cX5_takeHead 74 = .ok (.aload_n 0, 1) := by decide +kernel
theorem dX5_takeHead_75 : decode cX5_takeHead 75 = .ok (.getfield 33, 3) := by decide +kernel
theorem dX5_takeHead_78 : decode cX5_takeHead 78 = .ok (.aload_n 0, 1) := by decide +kernel
theorem dX5_takeHead_79 : decode cX5_takeHead 79 = .ok (.getfield 9, 3) := by decide +kernel
theorem dX5_takeHead_82 : decode cX5_takeHead 82 = .ok (.getfield 121, 3) := by decide +kernel
theorem dX5_takeHead_85 : decode cX5_takeHead 85 = .ok (.putfield 127, 3) := by decide +kernel
theorem dX5_takeHead_88 : decode cX5_takeHead 88 = .ok (.aload_n 0, 1) := by decide +kernel
theorem dX5_takeHead_89 : decode cX5_takeHead 89 = .ok (.iload_n 2, 1) := by decide +kernel
theorem dX5_takeHead_90 : decode cX5_takeHead 90 = .ok (.aload_n 0, 1) := by decide +kernel
theorem dX5_takeHead_91 : decode cX5_takeHead 91 = .ok (.getfield 52, 3) := by decide +kernel
theorem dX5_takeHead_94 : decode cX5_takeHead 94 = .ok (.iconst 1, 1) := by decide +kernel
theorem dX5_takeHead_95 : decode cX5_takeHead 95 = .ok (.iadd, 1) := by decide +kernel
theorem dX5_takeHead_96 : decode cX5_takeHead 96 = .ok (.invokevirtual 96, 3) := by decide +kernel
theorem dX5_takeHead_99 : decode cX5_takeHead 99 = .ok (.return_, 1) := by decide +kernel
theorem dX6_init_0 : decode cX6_init 0 = .ok (.aload_n 0, 1) := by decide +kernel
theorem dX6_init_1 : decode cX6_init 1 = .ok (.invokespecial 3, 3) := by decide +kernel
theorem dX6_init_4 : decode cX6_init 4 = .ok (.aload_n 0, 1) := by decide +kernel
theorem dX6_init_5 : decode cX6_init 5 = .ok (.aload_n 1, 1) := by decide +kernel
theorem dX6_init_6 : decode cX6_init 6 = .ok (.putfield 9, 3) := by decide +kernel
theorem dX6_init_9 : decode cX6_init 9 = .ok (.aload_n 0, 1) := by decide +kernel
theorem dX6_init_10 : decode cX6_init 10 = .ok (.aload_n 2, 1) := by decide +kernel
theorem dX6_init_11 : decode cX6_init 11 = .ok (.putfield 15, 3) := by decide +kernel
theorem dX6_init_14 : decode cX6_init 14 = .ok (.aload_n 0, 1) := by decide +kernel
theorem dX6_init_15 : decode cX6_init 15 = .ok (.new 19, 3) := by decide +kernel
theorem dX6_init_18 : decode cX6_init 18 = .ok (.dup, 1) := by decide +kernel
theorem dX6_init_19 : decode cX6_init 19 = .ok (.sipush 148, 3) := by decide +kernel
theorem dX6_init_22 : decode cX6_init 22 = .ok (.iconst 0, 1) := by decide +kernel
theorem dX6_init_23 : decode cX6_init 23 = .ok (.invokespecial 23, 3) := by decide +kernel
theorem dX6_init_26 : decode cX6_init 26 = .ok (.putfield 26, 3) := by decide +kernel
theorem dX6_init_29 : decode cX6_init 29 = .ok (.aload_n 0, 1) := by decide +kernel
theorem dX6_init_30 : decode cX6_init 30 = .ok (.new 19, 3) := by decide +kernel
theorem dX6_init_33 : decode cX6_init 33 = .ok (.dup, 1) := by decide +kernel
theorem dX6_init_34 : decode cX6_init 34 = .ok (.sipush 148, 3) := by decide +kernel
theorem dX6_init_37 : decode cX6_init 37 = .ok (.iconst (-1), 1) := by decide +kernel
theorem dX6_init_38 : decode cX6_init 38 = .ok (.invokespecial 23, 3) := by decide +kernel
theorem dX6_init_41 : decode cX6_init 41 = .ok (.putfield 30, 3) := by decide +kernel
theorem dX6_init_44 : decode cX6_init 44 = .ok (.aload_n 0, 1) := by decide +kernel
theorem dX6_init_45 : decode cX6_init 45 = .ok (.new 19, 3) := by decide +kernel
theorem dX6_init_48 : decode cX6_init 48 = .ok (.dup, 1) := by decide +kernel
theorem dX6_init_49 : decode cX6_init 49 = .ok (.iconst 4, 1) := by decide +kernel
theorem dX6_init_50 : decode cX6_init 50 = .ok (.iconst 0, 1) := by decide +kernel
theorem dX6_init_51 : decode cX6_init 51 = .ok (.invokespecial 23, 3) := by decide +kernel
theorem dX6_init_54 : decode cX6_init 54 = .ok (.putfield 33, 3) := by decide +kernel
theorem dX6_init_57 : decode cX6_init 57 = .ok (.aload_n 0, 1) := by decide +kernel
theorem dX6_init_58 : decode cX6_init 58 = .ok (.new 19, 3) := by decide +kernel
theorem dX6_init_61 : decode cX6_init 61 = .ok (.dup, 1) := by decide +kernel
theorem dX6_init_62 : decode cX6_init 62 = .ok (.bipush 96, 2) := by decide +kernel
theorem dX6_init_64 : decode cX6_init 64 = .ok (.iconst 0, 1) := by decide +kernel
theorem dX6_init_65 : decode cX6_init 65 = .ok (.invokespecial 23, 3) := by decide +kernel
theorem dX6_init_68 : decode cX6_init 68 = .ok (.putfield 36, 3) := by decide +kernel
theorem dX6_init_71 : decode cX6_init 71 = .ok (.aload_n 0, 1) := by decide +kernel
theorem dX6_init_72 : decode cX6_init 72 = .ok (.new 19, 3) := by decide +kernel
theorem dX6_init_75 : decode cX6_init 75 = .ok (.dup, 1) := by decide +kernel
theorem dX6_init_76 : decode cX6_init 76 = .ok (.sipush 148, 3) := by decide +kernel
theorem dX6_init_79 : decode cX6_init 79 = .ok (.iconst 0, 1) := by decide +kernel
theorem dX6_init_80 : decode cX6_init 80 = .ok (.invokespecial 23, 3) := by decide +kernel
theorem dX6_init_83 : decode cX6_init 83 = .ok (.putfield 39, 3) := by decide +kernel
theorem dX6_init_86 : decode cX6_init 86 = .ok (.aload_n 0, 1) := by decide +kernel
theorem dX6_init_87 : decode cX6_init 87 = .ok (.new 19, 3) := by decide +kernel
theorem dX6_init_90 : decode cX6_init 90 = .ok (.dup, 1) := by decide +kernel
theorem dX6_init_91 : decode cX6_init 91 = .ok (.sipush 148, 3) := by decide +kernel
theorem dX6_init_94 : decode cX6_init 94 = .ok (.iconst (-1), 1) := by decide +kernel
theorem dX6_init_95 : decode cX6_init 95 = .ok (.invokespecial 23, 3) := by decide +kernel
theorem dX6_init_98 : decode cX6_init 98 = .ok (.putfield 42, 3) := by decide +kernel
theorem dX6_init_101 : decode cX6_init 101 = .ok (.aload_n 0, 1) := by decide +kernel
theorem dX6_init_102 : decode cX6_init 102 = .ok (.new 19, 3) := by decide +kernel
theorem dX6_init_105 : decode cX6_init 105 = .ok (.dup, 1) := by decide +kernel
theorem dX6_init_106 : decode cX6_init 106 = .ok (.sipush 148, 3) := by decide +kernel
theorem dX6_init_109 : decode cX6_init 109 = .ok (.iconst (-1), 1) := by decide +kernel
theorem dX6_init_110 : decode cX6_init 110 = .ok (.invokespecial 23, 3) := by decide +kernel
theorem dX6_init_113 : decode cX6_init 113 = .ok (.putfield 45, 3) := by decide +kernel
theorem dX6_init_116 : decode cX6_init 116 = .ok (.aload_n 0, 1) := by decide +kernel
theorem dX6_init_117 : decode cX6_init 117 = .ok (.new 19, 3) := by decide +kernel
theorem dX6_init_120 : decode cX6_init 120 = .ok (.dup, 1) := by decide +kernel
theorem dX6_init_121 : decode cX6_init 121 = .ok (.sipush 148, 3) := by decide +kernel
theorem dX6_init_124 : decode cX6_init 124 = .ok (.iconst (-1), 1) := by decide +kernel
theorem dX6_init_125 : decode cX6_init 125 = .ok (.invokespecial 23, 3) := by decide +kernel
theorem dX6_init_128 : decode cX6_init 128 = .ok (.putfield 48, 3) := by decide +kernel
theorem dX6_init_131 : decode cX6_init 131 = .ok (.aload_n 0, 1) := by decide +kernel
theorem dX6_init_132 : decode cX6_init 132 = .ok (.new 19, 3) := by decide +kernel
theorem dX6_init_135 : decode cX6_init 135 = .ok (.dup, 1) := by decide +kernel
theorem dX6_init_136 : decode cX6_init 136 = .ok (.sipush 148, 3) := by decide +kernel
theorem dX6_init_139 : decode cX6_init 139 = .ok (.iconst (-1), 1) := by decide +kernel
theorem dX6_init_140 : decode cX6_init 140 = .ok (.invokespecial 23, 3) := by decide +kernel
theorem dX6_init_143 : decode cX6_init 143 = .ok (.putfield 51, 3) := by decide +kernel
theorem dX6_init_146 : decode cX6_init 146 = .ok (.return_, 1) := by decide +kernel
theorem dX6_tell_0 : decode cX6_tell 0 = .ok (.iload_n 3, 1) := by decide +kernel
theorem dX6_tell_1 : decode cX6_tell 1 = .ok (.lookupswitch 53 #[(0, 27), (1, 40)], 27) := by decide +kernel
theorem dX6_tell_28 : decode cX6_tell 28 = .ok (.aload_n 0, 1) := by decide +kernel
theorem dX6_tell_29 : decode cX6_tell 29 = .ok (.getfield 42, 3) := by decide +kernel
theorem dX6_tell_32 : decode cX6_tell 32 = .ok (.iload_n 1, 1) := by decide +kernel
theorem dX6_tell_33 : decode cX6_tell 33 = .ok (.iload_n 2, 1) := by decide +kernel
theorem dX6_tell_34 : decode cX6_tell 34 = .ok (.invokestatic 54, 3) := by decide +kernel
theorem dX6_tell_37 : decode cX6_tell 37 = .ok (.invokevirtual 58, 3) := by decide +kernel
theorem dX6_tell_40 : decode cX6_tell 40 = .ok (.ireturn, 1) := by decide +kernel
theorem dX6_tell_41 : decode cX6_tell 41 = .ok (.aload_n 0, 1) := by decide +kernel
theorem dX6_tell_42 : decode cX6_tell 42 = .ok (.getfield 45, 3) := by decide +kernel
theorem dX6_tell_45 : decode cX6_tell 45 = .ok (.iload_n 1, 1) := by decide +kernel
theorem dX6_tell_46 : decode cX6_tell 46 = .ok (.iload_n 2, 1) := by decide +kernel
theorem dX6_tell_47 : decode cX6_tell 47 = .ok (.invokestatic 54, 3) := by decide +kernel
theorem dX6_tell_50 : decode cX6_tell 50 = .ok (.invokevirtual 58, 3) := by decide +kernel
theorem dX6_tell_53 : decode cX6_tell 53 = .ok (.ireturn, 1) := by decide +kernel
theorem dX6_tell_54 : decode cX6_tell 54 = .ok (.iconst (-1), 1) := by decide +kernel
theorem dX6_tell_55 : decode cX6_tell 55 = .ok (.ireturn, 1) := by decide +kernel
theorem dX6_planDay_0 : decode cX6_planDay 0 = .ok (.aload_n 0, 1) := by decide +kernel
theorem dX6_planDay_1 : decode cX6_planDay 1 = .ok (.iload_n 2, 1) := by decide +kernel
theorem dX6_planDay_2 : decode cX6_planDay 2 = .ok (.putfield 62, 3) := by decide +kernel
theorem dX6_planDay_5 : decode cX6_planDay 5 = .ok (.aload_n 0, 1) := by decide +kernel
theorem dX6_planDay_6 : decode cX6_planDay 6 = .ok (.invokevirtual 66, 3) := by decide +kernel
theorem dX6_planDay_9 : decode cX6_planDay 9 = .ok (.aload_n 0, 1) := by decide +kernel
theorem dX6_planDay_10 : decode cX6_planDay 10 = .ok (.invokevirtual 69, 3) := by decide +kernel
theorem dX6_planDay_13 : decode cX6_planDay 13 = .ok (.aload_n 0, 1) := by decide +kernel
theorem dX6_planDay_14 : decode cX6_planDay 14 = .ok (.invokevirtual 72, 3) := by decide +kernel
theorem dX6_planDay_17 : decode cX6_planDay 17 = .ok (.iconst 0, 1) := by decide +kernel
theorem dX6_planDay_18 : decode cX6_planDay 18 = .ok (.istore_n 3, 1) := by decide +kernel
theorem dX6_planDay_19 : decode cX6_planDay 19 = .ok (.iload_n 3, 1) := by decide +kernel
theorem dX6_planDay_20 : decode cX6_planDay 20 = .ok (.iconst 4, 1) := by decide +kernel
theorem dX6_planDay_21 : decode cX6_planDay 21 = .ok (.if_icmp .ge 14, 3) := by decide +kernel
theorem dX6_planDay_24 : decode cX6_planDay 24 = .ok (.aload_n 0, 1) := by decide +kernel
theorem dX6_planDay_25 : decode cX6_planDay 25 = .ok (.iload_n 3, 1) := by decide +kernel
theorem dX6_planDay_26 : decode cX6_planDay 26 = .ok (.invokevirtual 75, 3) := by decide +kernel
theorem dX6_planDay_29 : decode cX6_planDay 29 = .ok (.iinc 3 1, 3) := by decide +kernel
theorem dX6_planDay_32 : decode cX6_planDay 32 = .ok (.goto (-13), 3) := by decide +kernel
theorem dX6_planDay_35 : decode cX6_planDay 35 = .ok (.aload_n 0, 1) := by decide +kernel
theorem dX6_planDay_36 : decode cX6_planDay 36 = .ok (.getfield 9, 3) := by decide +kernel
theorem dX6_planDay_39 : decode cX6_planDay 39 = .ok (.iconst 0, 1) := by decide +kernel
theorem dX6_planDay_40 : decode cX6_planDay 40 = .ok (.invokevirtual 81, 3) := by decide +kernel
theorem dX6_planDay_43 : decode cX6_planDay 43 = .ok (.istore_n 3, 1) := by decide +kernel
theorem dX6_planDay_44 : decode cX6_planDay 44 = .ok (.iconst 0, 1) := by decide +kernel
theorem dX6_planDay_45 : decode cX6_planDay 45 = .ok (.istore 4, 2) := by decide +kernel
theorem dX6_planDay_47 : decode cX6_planDay 47 = .ok (.iload 4, 2) := by decide +kernel
theorem dX6_planDay_49 : decode cX6_planDay 49 = .ok (.sipush 296, 3) := by decide +kernel
theorem dX6_planDay_52 : decode cX6_planDay 52 = .ok (.if_icmp .ge 41, 3) := by decide +kernel
theorem dX6_planDay_55 : decode cX6_planDay 55 = .ok (.aload_n 0, 1) := by decide +kernel
theorem dX6_planDay_56 : decode cX6_planDay 56 = .ok (.getfield 84, 3) := by decide +kernel
theorem dX6_planDay_59 : decode cX6_planDay 59 = .ok (.ifCond .le 34, 3) := by decide +kernel
theorem dX6_planDay_62 : decode cX6_planDay 62 = .ok (.aload_n 0, 1) := by decide +kernel
theorem dX6_planDay_63 : decode cX6_planDay 63 = .ok (.iload_n 1, 1) := by decide +kernel
theorem dX6_planDay_64 : decode cX6_planDay 64 = .ok (.iload_n 3, 1) := by decide +kernel
theorem dX6_planDay_65 : decode cX6_planDay 65 = .ok (.invokevirtual 87, 3) := by decide +kernel
theorem dX6_planDay_68 : decode cX6_planDay 68 = .ok (.iload_n 3, 1) := by decide +kernel
theorem dX6_planDay_69 : decode cX6_planDay 69 = .ok (.iconst 1, 1) := by decide +kernel
theorem dX6_planDay_70 : decode cX6_planDay 70 = .ok (.iadd, 1) := by decide +kernel
theorem dX6_planDay_71 : decode cX6_planDay 71 = .ok (.aload_n 0, 1) := by decide +kernel
theorem dX6_planDay_72 : decode cX6_planDay 72 = .ok (.iload_n 1, 1) := by decide +kernel
theorem dX6_planDay_73 : decode cX6_planDay 73 = .ok (.invokevirtual 90, 3) := by decide +kernel
theorem dX6_planDay_76 : decode cX6_planDay 76 = .ok (.aload_n 0, 1) := by decide +kernel
theorem dX6_planDay_77 : decode cX6_planDay 77 = .ok (.invokevirtual 93, 3) := by decide +kernel
theorem dX6_planDay_80 : decode cX6_planDay 80 = .ok (.invokestatic 97, 3) := by decide +kernel
theorem dX6_planDay_83 : decode cX6_planDay 83 = .ok (.invokestatic 97, 3) := by decide +kernel
theorem dX6_planDay_86 : decode cX6_planDay 86 = .ok (.istore_n 3, 1) := by decide +kernel
theorem dX6_planDay_87 : decode cX6_planDay 87 = .ok (.iinc 4 1, 3) := by decide +kernel
theorem dX6_planDay_90 : decode cX6_planDay 90 = .ok (.goto (-43), 3) := by decide +kernel
theorem dX6_planDay_93 : decode cX6_planDay 93 = .ok (.aload_n 0, 1) := by decide +kernel
theorem dX6_planDay_94 : decode cX6_planDay 94 = .ok (.getfield 102, 3) := by decide +kernel
theorem dX6_planDay_97 : decode cX6_planDay 97 = .ok (.ldc 105, 2) := by decide +kernel
theorem dX6_planDay_99 : decode cX6_planDay 99 = .ok (.if_icmp .le 5, 3) := by decide +kernel
theorem dX6_planDay_102 : decode cX6_planDay 102 = .ok (.iconst (-1), 1) := by decide +kernel
theorem dX6_planDay_103 : decode cX6_planDay 103 = .ok (.ireturn, 1) := by decide +kernel
theorem dX6_planDay_104 : decode cX6_planDay 104 = .ok (.aload_n 0, 1) := by decide +kernel
theorem dX6_planDay_105 : decode cX6_planDay 105 = .ok (.invokevirtual 106, 3) := by decide +kernel
theorem dX6_planDay_108 : decode cX6_planDay 108 = .ok (.aload_n 0, 1) := by decide +kernel
theorem dX6_planDay_109 : decode cX6_planDay 109 = .ok (.getfield 102, 3) := by decide +kernel
theorem dX6_planDay_112 : decode cX6_planDay 112 = .ok (.ireturn, 1) := by decide +kernel
theorem dX6_clear_0 : decode cX6_clear 0 = .ok (.aload_n 0, 1) := by decide +kernel
theorem dX6_clear_1 : decode cX6_clear 1 = .ok (.getfield 48, 3) := by decide +kernel
theorem dX6_clear_4 : decode cX6_clear 4 = .ok (.iconst (-1), 1) := by decide +kernel
theorem dX6_clear_5 : decode cX6_clear 5 = .ok (.invokevirtual 109, 3) := by decide +kernel
theorem dX6_clear_8 : decode cX6_clear 8 = .ok (.aload_n 0, 1) := by decide +kernel
theorem dX6_clear_9 : decode cX6_clear 9 = .ok (.getfield 51, 3) := by decide +kernel
theorem dX6_clear_12 : decode cX6_clear 12 = .ok (.iconst (-1), 1) := by decide +kernel
theorem dX6_clear_13 : decode cX6_clear 13 = .ok (.invokevirtual 109, 3) := by decide +kernel
theorem dX6_clear_16 : decode cX6_clear 16 = .ok (.aload_n 0, 1) := by decide +kernel
theorem dX6_clear_17 : decode cX6_clear 17 = .ok (.getfield 30, 3) := by decide +kernel
theorem dX6_clear_20 : decode cX6_clear 20 = .ok (.iconst (-1), 1) := by decide +kernel
theorem dX6_clear_21 : decode cX6_clear 21 = .ok (.invokevirtual 109, 3) := by decide +kernel
theorem dX6_clear_24 : decode cX6_clear 24 = .ok (.aload_n 0, 1) := by decide +kernel
theorem dX6_clear_25 : decode cX6_clear 25 = .ok (.aload_n 0, 1) := by decide +kernel
theorem dX6_clear_26 : decode cX6_clear 26 = .ok (.getfield 9, 3) := by decide +kernel
theorem dX6_clear_29 : decode cX6_clear 29 = .ok (.iconst 0, 1) := by decide +kernel
theorem dX6_clear_30 : decode cX6_clear 30 = .ok (.invokevirtual 81, 3) := by decide +kernel
theorem dX6_clear_33 : decode cX6_clear 33 = .ok (.putfield 102, 3) := by decide +kernel
theorem dX6_clear_36 : decode cX6_clear 36 = .ok (.aload_n 0, 1) := by decide +kernel
theorem dX6_clear_37 : decode cX6_clear 37 = .ok (.getfield 33, 3) := by decide +kernel
theorem dX6_clear_40 : decode cX6_clear 40 = .ok (.aload_n 0, 1) := by decide +kernel
theorem dX6_clear_41 : decode cX6_clear 41 = .ok (.getfield 102, 3) := by decide +kernel
theorem dX6_clear_44 : decode cX6_clear 44 = .ok (.invokevirtual 109, 3) := by decide +kernel
theorem dX6_clear_47 : decode cX6_clear 47 = .ok (.iconst 0, 1) := by decide +kernel
theorem dX6_clear_48 : decode cX6_clear 48 = .ok (.istore_n 1, 1) := by decide +kernel
theorem dX6_clear_49 : decode cX6_clear 49 = .ok (.iload_n 1, 1) := by decide +kernel
theorem dX6_clear_50 : decode cX6_clear 50 = .ok (.aload_n 0, 1) := by decide +kernel
theorem dX6_clear_51 : decode cX6_clear 51 = .ok (.getfield 9, 3) := by decide +kernel
theorem dX6_clear_54 : decode cX6_clear 54 = .ok (.iconst 2, 1) := by decide +kernel
theorem dX6_clear_55 : decode cX6_clear 55 = .ok (.invokevirtual 81, 3) := by decide +kernel
theorem dX6_clear_58 : decode cX6_clear 58 = .ok (.if_icmp .ge 50, 3) := by decide +kernel
theorem dX6_clear_61 : decode cX6_clear 61 = .ok (.aload_n 0, 1) := by decide +kernel
theorem dX6_clear_62 : decode cX6_clear 62 = .ok (.getfield 9, 3) := by decide +kernel
theorem dX6_clear_65 : decode cX6_clear 65 = .ok (.iload_n 1, 1) := by decide +kernel
theorem dX6_clear_66 : decode cX6_clear 66 = .ok (.bipush 6, 2) := by decide +kernel
theorem dX6_clear_68 : decode cX6_clear 68 = .ok (.invokestatic 112, 3) := by decide +kernel
theorem dX6_clear_71 : decode cX6_clear 71 = .ok (.invokevirtual 81, 3) := by decide +kernel
theorem dX6_clear_74 : decode cX6_clear 74 = .ok (.istore_n 2, 1) := by decide +kernel
theorem dX6_clear_75 : decode cX6_clear 75 = .ok (.aload_n 0, 1) := by decide +kernel
theorem dX6_clear_76 : decode cX6_clear 76 = .ok (.getfield 36, 3) := by decide +kernel
theorem dX6_clear_79 : decode cX6_clear 79 = .ok (.iload_n 1, 1) := by decide +kernel
theorem dX6_clear_80 : decode cX6_clear 80 = .ok (.iload_n 2, 1) := by decide +kernel
theorem dX6_clear_81 : decode cX6_clear 81 = .ok (.iconst (-1), 1) := by decide +kernel
theorem dX6_clear_82 : decode cX6_clear 82 = .ok (.if_icmp .ne 7, 3) := by decide +kernel
theorem dX6_clear_85 : decode cX6_clear 85 = .ok (.iconst 0, 1) := by decide +kernel
theorem dX6_clear_86 : decode cX6_clear 86 = .ok (.goto 13, 3) := by decide +kernel
theorem dX6_clear_89 : decode cX6_clear 89 = .ok (.iload_n 2, 1) := by decide +kernel
theorem dX6_clear_90 : decode cX6_clear 90 = .ok (.aload_n 0, 1) := by decide +kernel
theorem dX6_clear_91 : decode cX6_clear 91 = .ok (.getfield 9, 3) := by decide +kernel
theorem dX6_clear_94 : decode cX6_clear 94 = .ok (.iconst 1, 1) := by decide +kernel
theorem dX6_clear_95 : decode cX6_clear 95 = .ok (.invokevirtual 81, 3) := by decide +kernel
theorem dX6_clear_98 : decode cX6_clear 98 = .ok (.iadd, 1) := by decide +kernel
theorem dX6_clear_99 : decode cX6_clear 99 = .ok (.invokevirtual 115, 3) := by decide +kernel
theorem dX6_clear_102 : decode cX6_clear 102 = .ok (.iinc 1 1, 3) := by decide +kernel
theorem dX6_clear_105 : decode cX6_clear 105 = .ok (.goto (-56), 3) := by decide +kernel
theorem dX6_clear_108 : decode cX6_clear 108 = .ok (.return_, 1) := by decide +kernel
theorem dX6_keep_0 : decode cX6_keep 0 = .ok (.aload_n 0, 1) := by decide +kernel
theorem dX6_keep_1 : decode cX6_keep 1 = .ok (.getfield 42, 3) := by decide +kernel
theorem dX6_keep_4 : decode cX6_keep 4 = .ok (.astore_n 1, 1) := by decide +kernel
theorem dX6_keep_5 : decode cX6_keep 5 = .ok (.aload_n 0, 1) := by decide +kernel
theorem dX6_keep_6 : decode cX6_keep 6 = .ok (.getfield 45, 3) := by decide +kernel
theorem dX6_keep_9 : decode cX6_keep 9 = .ok (.astore_n 2, 1) := by decide +kernel
theorem dX6_keep_10 : decode cX6_keep 10 = .ok (.aload_n 0, 1) := by decide +kernel
theorem dX6_keep_11 : decode cX6_keep 11 = .ok (.aload_n 0, 1) := by decide +kernel
theorem dX6_keep_12 : decode cX6_keep 12 = .ok (.getfield 48, 3) := by decide +kernel
theorem dX6_keep_15 : decode cX6_keep 15 = .ok (.putfield 42, 3) := by decide +kernel
theorem dX6_keep_18 : decode cX6_keep 18 = .ok (.aload_n 0, 1) := by decide +kernel
theorem dX6_keep_19 : decode cX6_keep 19 = .ok (.aload_n 0, 1) := by decide +kernel
theorem dX6_keep_20 : decode cX6_keep 20 = .ok (.getfield 51, 3) := by decide +kernel
theorem dX6_keep_23 : decode cX6_keep 23 = .ok (.putfield 45, 3) := by decide +kernel
theorem dX6_keep_26 : decode cX6_keep 26 = .ok (.aload_n 0, 1) := by decide +kernel
theorem dX6_keep_27 : decode cX6_keep 27 = .ok (.aload_n 1, 1) := by decide +kernel
theorem dX6_keep_28 : decode cX6_keep 28 = .ok (.putfield 48, 3) := by decide +kernel
theorem dX6_keep_31 : decode cX6_keep 31 = .ok (.aload_n 0, 1) := by decide +kernel
theorem dX6_keep_32 : decode cX6_keep 32 = .ok (.aload_n 2, 1) := by decide +kernel
theorem dX6_keep_33 : decode cX6_keep 33 = .ok (.putfield 51, 3) := by decide +kernel
theorem dX6_keep_36 : decode cX6_keep 36 = .ok (.return_, 1) := by decide +kernel
theorem dX6_putOpenOnes_0 : decode cX6_putOpenOnes 0 = .ok (.iconst 0, 1) := by decide +kernel
theorem dX6_putOpenOnes_1 : decode cX6_putOpenOnes 1 = .ok (.istore_n 1, 1) := by decide +kernel
theorem dX6_putOpenOnes_2 : decode cX6_putOpenOnes 2 = .ok (.iload_n 1, 1) := by decide +kernel
theorem dX6_putOpenOnes_3 : decode cX6_putOpenOnes 3 = .ok (.iconst 4, 1) := by decide +kernel
theorem dX6_putOpenOnes_4 : decode cX6_putOpenOnes 4 = .ok (.if_icmp .ge 53, 3) := by decide +kernel
theorem dX6_putOpenOnes_7 : decode cX6_putOpenOnes 7 = .ok (.aload_n 0, 1) := by decide +kernel
theorem dX6_putOpenOnes_8 : decode cX6_putOpenOnes 8 = .ok (.getfield 9, 3) := by decide +kernel
theorem dX6_putOpenOnes_11 : decode cX6_putOpenOnes 11 = .ok (.iload_n 1, 1) := by decide +kernel
theorem dX6_putOpenOnes_12 : decode cX6_putOpenOnes 12 = .ok (.iconst 1, 1) := by decide +kernel
theorem dX6_putOpenOnes_13 : decode cX6_putOpenOnes 13 = .ok (.invokestatic 118, 3) := by decide +kernel
theorem dX6_putOpenOnes_16 : decode cX6_putOpenOnes 16 = .ok (.invokevirtual 81, 3) := by decide +kernel
theorem dX6_putOpenOnes_19 : decode cX6_putOpenOnes 19 = .ok (.istore_n 2, 1) := by decide +kernel
theorem dX6_putOpenOnes_20 : decode cX6_putOpenOnes 20 = .ok (.iload_n 2, 1) := by decide +kernel
theorem dX6_putOpenOnes_21 : decode cX6_putOpenOnes 21 = .ok (.iconst (-1), 1) := by decide +kernel
theorem dX6_putOpenOnes_22 : decode cX6_putOpenOnes 22 = .ok (.if_icmp .eq 29, 3) := by decide +kernel
theorem dX6_putOpenOnes_25 : decode cX6_putOpenOnes 25 = .ok (.aload_n 0, 1) := by decide +kernel
theorem dX6_putOpenOnes_26 : decode cX6_putOpenOnes 26 = .ok (.aload_n 0, 1) := by decide +kernel
theorem dX6_putOpenOnes_27 : decode cX6_putOpenOnes 27 = .ok (.getfield 9, 3) := by decide +kernel
theorem dX6_putOpenOnes_30 : decode cX6_putOpenOnes 30 = .ok (.iload_n 1, 1) := by decide +kernel
theorem dX6_putOpenOnes_31 : decode cX6_putOpenOnes 31 = .ok (.iconst 0, 1) := by decide +kernel
theorem dX6_putOpenOnes_32 : decode cX6_putOpenOnes 32 = .ok (.invokestatic 118, 3) := by decide +kernel
theorem dX6_putOpenOnes_35 : decode cX6_putOpenOnes 35 = .ok (.invokevirtual 81, 3) := by decide +kernel
theorem dX6_putOpenOnes_38 : decode cX6_putOpenOnes 38 = .ok (.iload_n 2, 1) := by decide +kernel
theorem dX6_putOpenOnes_39 : decode cX6_putOpenOnes 39 = .ok (.iload_n 1, 1) := by decide +kernel
theorem dX6_putOpenOnes_40 : decode cX6_putOpenOnes 40 = .ok (.aload_n 0, 1) := by decide +kernel
theorem dX6_putOpenOnes_41 : decode cX6_putOpenOnes 41 = .ok (.getfield 9, 3) := by decide +kernel
theorem dX6_putOpenOnes_44 : decode cX6_putOpenOnes 44 = .ok (.iconst 0, 1) := by decide +kernel
theorem dX6_putOpenOnes_45 : decode cX6_putOpenOnes 45 = .ok (.invokevirtual 81, 3) := by decide +kernel
theorem dX6_putOpenOnes_48 : decode cX6_putOpenOnes 48 = .ok (.invokevirtual 121, 3) := by decide +kernel
theorem dX6_putOpenOnes_51 : decode cX6_putOpenOnes 51 = .ok (.iinc 1 1, 3) := by decide +kernel
theorem dX6_putOpenOnes_54 : decode cX6_putOpenOnes 54 = .ok (.goto (-52), 3) := by decide +kernel
theorem dX6_putOpenOnes_57 : decode cX6_putOpenOnes 57 = .ok (.return_, 1) := by decide +kernel
theorem dX6_putInOrder_0 : decode cX6_putInOrder 0 = .ok (.aload_n 0, 1) := by decide +kernel
theorem dX6_putInOrder_1 : decode cX6_putInOrder 1 = .ok (.iconst 0, 1) := by decide +kernel
theorem dX6_putInOrder_2 : decode cX6_putInOrder 2 = .ok (.putfield 84, 3) := by decide +kernel
theorem dX6_putInOrder_5 : decode cX6_putInOrder 5 = .ok (.iconst 0, 1) := by decide +kernel
theorem dX6_putInOrder_6 : decode cX6_putInOrder 6 = .ok (.istore_n 1, 1) := by decide +kernel
theorem dX6_putInOrder_7 : decode cX6_putInOrder 7 = .ok (.iload_n 1, 1) := by decide +kernel
theorem dX6_putInOrder_8 : decode cX6_putInOrder 8 = .ok (.bipush 20, 2) := by decide +kernel
theorem dX6_putInOrder_10 : decode cX6_putInOrder 10 = .ok (.if_icmp .gt 28, 3) := by decide +kernel
theorem dX6_putInOrder_13 : decode cX6_putInOrder 13 = .ok (.iconst 0, 1) := by decide +kernel
theorem dX6_putInOrder_14 : decode cX6_putInOrder 14 = .ok (.istore_n 2, 1) := by decide +kernel
theorem dX6_putInOrder_15 : decode cX6_putInOrder 15 = .ok (.iload_n 2, 1) := by decide +kernel
theorem dX6_putInOrder_16 : decode cX6_putInOrder 16 = .ok (.iconst 4, 1) := by decide +kernel
theorem dX6_putInOrder_17 : decode cX6_putInOrder 17 = .ok (.if_icmp .ge 15, 3) := by decide +kernel
theorem dX6_putInOrder_20 : decode cX6_putInOrder 20 = .ok (.aload_n 0, 1) := by decide +kernel
theorem dX6_putInOrder_21 : decode cX6_putInOrder 21 = .ok (.iload_n 1, 1) := by decide +kernel
theorem dX6_putInOrder_22 : decode cX6_putInOrder 22 = .ok (.iload_n 2, 1) := by decide +kernel
theorem dX6_putInOrder_23 : decode cX6_putInOrder 23 = .ok (.invokevirtual 134, 3) := by decide +kernel
theorem dX6_putInOrder_26 : decode cX6_putInOrder 26 = .ok (.iinc 2 1, 3) := by decide +kernel
theorem dX6_putInOrder_29 : decode cX6_putInOrder 29 = .ok (.goto (-14), 3) := by decide +kernel
theorem dX6_putInOrder_32 : decode cX6_putInOrder 32 = .ok (.iinc 1 1, 3) := by decide +kernel
theorem dX6_putInOrder_35 : decode cX6_putInOrder 35 = .ok (.goto (-28), 3) := by decide +kernel
theorem dX6_putInOrder_38 : decode cX6_putInOrder 38 = .ok (.return_, 1) := by decide +kernel
theorem dX6_putStageInOrder_0 : decode cX6_putStageInOrder 0 = .ok (.iconst 0, 1) := by decide +kernel
theorem dX6_putStageInOrder_1 : decode cX6_putStageInOrder 1 = .ok (.istore_n 3, 1) := by decide +kernel
theorem dX6_putStageInOrder_2 : decode cX6_putStageInOrder 2 = .ok (.iload_n 3, 1) := by decide +kernel
theorem dX6_putStageInOrder_3 : decode cX6_putStageInOrder 3 = .ok (.aload_n 0, 1) := by decide +kernel
theorem dX6_putStageInOrder_4 : decode cX6_putStageInOrder 4 = .ok (.getfield 15, 3) := by decide +kernel
theorem dX6_putStageInOrder_7 : decode cX6_putStageInOrder 7 = .ok (.iload_n 2, 1) := by decide +kernel
theorem dX6_putStageInOrder_8 : decode cX6_putStageInOrder 8 = .ok (.invokevirtual 137, 3) := by decide +kernel
theorem dX6_putStageInOrder_11 : decode cX6_putStageInOrder 11 = .ok (.if_icmp .ge 85, 3) := by decide +kernel
theorem dX6_putStageInOrder_14 : decode cX6_putStageInOrder 14 = .ok (.aload_n 0, 1) := by decide +kernel
theorem dX6_putStageInOrder_15 : decode cX6_putStageInOrder 15 = .ok (.getfield 15, 3) := by decide +kernel
theorem dX6_putStageInOrder_18 : decode cX6_putStageInOrder 18 = .ok (.iload_n 2, 1) := by decide +kernel
theorem dX6_putStageInOrder_19 : decode cX6_putStageInOrder 19 = .ok (.iload_n 3, 1) := by decide +kernel
theorem dX6_putStageInOrder_20 : decode cX6_putStageInOrder 20 = .ok (.invokevirtual 140, 3) := by decide +kernel
theorem dX6_putStageInOrder_23 : decode cX6_putStageInOrder 23 = .ok (.ifCond .eq 16, 3) := by decide +kernel
theorem dX6_putStageInOrder_26 : decode cX6_putStageInOrder 26 = .ok (.aload_n 0, 1) := by decide +kernel
theorem dX6_putStageInOrder_27 : decode cX6_putStageInOrder 27 = .ok (.getfield 15, 3) := by decide +kernel
theorem dX6_putStageInOrder_30 : decode cX6_putStageInOrder 30 = .ok (.iload_n 2, 1) := by decide +kernel
theorem dX6_putStageInOrder_31 : decode cX6_putStageInOrder 31 = .ok (.iload_n 3, 1) := by decide +kernel
theorem dX6_putStageInOrder_32 : decode cX6_putStageInOrder 32 = .ok (.invokevirtual 140, 3) := by decide +kernel
theorem dX6_putStageInOrder_35 : decode cX6_putStageInOrder 35 = .ok (.iconst 1, 1) := by decide +kernel
theorem dX6_putStageInOrder_36 : decode cX6_putStageInOrder 36 = .ok (.if_icmp .ne 7, 3) := by decide +kernel
theorem dX6_putStageInOrder_39 : decode cX6_putStageInOrder 39 = .ok (.iconst 1, 1) := by decide +kernel
theorem dX6_putStageInOrder_40 : decode cX6_putStageInOrder 40 = .ok (.goto 4, 3) := by decide +kernel
theorem dX6_putStageInOrder_43 : decode cX6_putStageInOrder 43 = .ok (.iconst 0, 1) := by decide +kernel
theorem dX6_putStageInOrder_44 : decode cX6_putStageInOrder 44 = .ok (.istore 4, 2) := by decide +kernel
theorem dX6_putStageInOrder_46 : decode cX6_putStageInOrder 46 = .ok (.iload 4, 2) := by decide +kernel
theorem dX6_putStageInOrder_48 : decode cX6_putStageInOrder 48 = .ok (.ifCond .eq 42, 3) := by decide +kernel
theorem dX6_putStageInOrder_51 : decode cX6_putStageInOrder 51 = .ok (.aload_n 0, 1) := by decide +kernel
theorem dX6_putStageInOrder_52 : decode cX6_putStageInOrder 52 = .ok (.getfield 15, 3) := by decide +kernel
theorem dX6_putStageInOrder_55 : decode cX6_putStageInOrder 55 = .ok (.iload_n 2, 1) := by decide +kernel
theorem dX6_putStageInOrder_56 : decode cX6_putStageInOrder 56 = .ok (.iload_n 3, 1) := by decide +kernel
theorem dX6_putStageInOrder_57 : decode cX6_putStageInOrder 57 = .ok (.invokevirtual 143, 3) := by decide +kernel
theorem dX6_putStageInOrder_60 : decode cX6_putStageInOrder 60 = .ok (.iload_n 1, 1) := by decide +kernel
theorem dX6_putStageInOrder_61 : decode cX6_putStageInOrder 61 = .ok (.if_icmp .ne 29, 3) := by decide +kernel
theorem dX6_putStageInOrder_64 : decode cX6_putStageInOrder 64 = .ok (.aload_n 0, 1) := by decide +kernel
theorem dX6_putStageInOrder_65 : decode cX6_putStageInOrder 65 = .ok (.getfield 26, 3) := by decide +kernel
theorem dX6_putStageInOrder_68 : decode cX6_putStageInOrder 68 = .ok (.aload_n 0, 1) := by decide +kernel
theorem dX6_putStageInOrder_69 : decode cX6_putStageInOrder 69 = .ok (.getfield 84, 3) := by decide +kernel
theorem dX6_putStageInOrder_72 : decode cX6_putStageInOrder 72 = .ok (.iload_n 2, 1) := by decide +kernel
theorem dX6_putStageInOrder_73 : decode cX6_putStageInOrder 73 = .ok (.iload_n 3, 1) := by decide +kernel
theorem dX6_putStageInOrder_74 : decode cX6_putStageInOrder 74 = .ok (.invokestatic 54, 3) := by decide +kernel
theorem dX6_putStageInOrder_77 : decode cX6_putStageInOrder 77 = .ok (.invokevirtual 115, 3) := by decide +kernel
theorem dX6_putStageInOrder_80 : decode cX6_putStageInOrder 80 = .ok (.aload_n 0, 1) := by decide +kernel
theorem dX6_putStageInOrder_81 : decode cX6_putStageInOrder 81 = .ok (.dup, 1) := by decide +kernel
theorem dX6_putStageInOrder_82 : decode cX6_putStageInOrder 82 = .ok (.getfield 84, 3) := by decide +kernel
theorem dX6_putStageInOrder_85 : decode cX6_putStageInOrder 85 = .ok (.iconst 1, 1) := by decide +kernel
theorem dX6_putStageInOrder_86 : decode cX6_putStageInOrder 86 = .ok (.iadd, 1) := by decide +kernel
theorem dX6_putStageInOrder_87 : decode cX6_putStageInOrder 87 = .ok (.putfield 84, 3) := by decide +kernel
theorem dX6_putStageInOrder_90 : decode cX6_putStageInOrder 90 = .ok (.iinc 3 1, 3) := by decide +kernel
theorem dX6_putStageInOrder_93 : decode cX6_putStageInOrder 93 = .ok (.goto (-91), 3) := by decide +kernel
theorem dX6_putStageInOrder_96 : decode cX6_putStageInOrder 96 = .ok (.return_, 1) := by decide +kernel
theorem dX6_findEarliest_0 : decode cX6_findEarliest 0 = .ok (.iconst 0, 1) := by decide +kernel
theorem dX6_findEarliest_1 : decode cX6_findEarliest 1 = .ok (.istore_n 2, 1) := by decide +kernel
theorem dX6_findEarliest_2 : decode cX6_findEarliest 2 = .ok (.iload_n 2, 1) := by decide +kernel
theorem dX6_findEarliest_3 : decode cX6_findEarliest 3 = .ok (.aload_n 0, 1) := by decide +kernel
theorem dX6_findEarliest_4 : decode cX6_findEarliest 4 = .ok (.getfield 15, 3) := by decide +kernel
theorem dX6_findEarliest_7 : decode cX6_findEarliest 7 = .ok (.iload_n 1, 1) := by decide +kernel
theorem dX6_findEarliest_8 : decode cX6_findEarliest 8 = .ok (.invokevirtual 137, 3) := by decide +kernel
theorem dX6_findEarliest_11 : decode cX6_findEarliest 11 = .ok (.if_icmp .ge 96, 3) := by decide +kernel
theorem dX6_findEarliest_14 : decode cX6_findEarliest 14 = .ok (.aload_n 0, 1) := by decide +kernel
theorem dX6_findEarliest_15 : decode cX6_findEarliest 15 = .ok (.aload_n 0, 1) := by decide +kernel
theorem dX6_findEarliest_16 : decode cX6_findEarliest 16 = .ok (.getfield 15, 3) := by decide +kernel
theorem dX6_findEarliest_19 : decode cX6_findEarliest 19 = .ok (.iload_n 1, 1) := by decide +kernel
theorem dX6_findEarliest_20 : decode cX6_findEarliest 20 = .ok (.iload_n 2, 1) := by decide +kernel
theorem dX6_findEarliest_21 : decode cX6_findEarliest 21 = .ok (.invokevirtual 125, 3) := by decide +kernel
theorem dX6_findEarliest_24 : decode cX6_findEarliest 24 = .ok (.invokevirtual 156, 3) := by decide +kernel
theorem dX6_findEarliest_27 : decode cX6_findEarliest 27 = .ok (.aload_n 0, 1) := by decide +kernel
theorem dX6_findEarliest_28 : decode cX6_findEarliest 28 = .ok (.aload_n 0, 1) := by decide +kernel
theorem dX6_findEarliest_29 : decode cX6_findEarliest 29 = .ok (.getfield 15, 3) := by decide +kernel
theorem dX6_findEarliest_32 : decode cX6_findEarliest 32 = .ok (.iload_n 1, 1) := by decide +kernel
theorem dX6_findEarliest_33 : decode cX6_findEarliest 33 = .ok (.iload_n 2, 1) := by decide +kernel
theorem dX6_findEarliest_34 : decode cX6_findEarliest 34 = .ok (.invokevirtual 131, 3) := by decide +kernel
theorem dX6_findEarliest_37 : decode cX6_findEarliest 37 = .ok (.invokevirtual 156, 3) := by decide +kernel
theorem dX6_findEarliest_40 : decode cX6_findEarliest 40 = .ok (.invokestatic 97, 3) := by decide +kernel
theorem dX6_findEarliest_43 : decode cX6_findEarliest 43 = .ok (.istore_n 3, 1) := by decide +kernel
theorem dX6_findEarliest_44 : decode cX6_findEarliest 44 = .ok (.aload_n 0, 1) := by decide +kernel
theorem dX6_findEarliest_45 : decode cX6_findEarliest 45 = .ok (.iload_n 1, 1) := by decide +kernel
theorem dX6_findEarliest_46 : decode cX6_findEarliest 46 = .ok (.aload_n 0, 1) := by decide +kernel
theorem dX6_findEarliest_47 : decode cX6_findEarliest 47 = .ok (.getfield 15, 3) := by decide +kernel
theorem dX6_findEarliest_50 : decode cX6_findEarliest 50 = .ok (.iload_n 1, 1) := by decide +kernel
theorem dX6_findEarliest_51 : decode cX6_findEarliest 51 = .ok (.iload_n 2, 1) := by decide +kernel
theorem dX6_findEarliest_52 : decode cX6_findEarliest 52 = .ok (.iconst 0, 1) := by decide +kernel
theorem dX6_findEarliest_53 : decode cX6_findEarliest 53 = .ok (.invokevirtual 159, 3) := by decide +kernel
theorem dX6_findEarliest_56 : decode cX6_findEarliest 56 = .ok (.invokevirtual 163, 3) := by decide +kernel
theorem dX6_findEarliest_59 : decode cX6_findEarliest 59 = .ok (.istore 4, 2) := by decide +kernel
theorem dX6_findEarliest_61 : decode cX6_findEarliest 61 = .ok (.aload_n 0, 1) := by decide +kernel
theorem dX6_findEarliest_62 : decode cX6_findEarliest 62 = .ok (.iload_n 1, 1) := by decide +kernel
theorem dX6_findEarliest_63 : decode cX6_findEarliest 63 = .ok (.aload_n 0, 1) := by decide +kernel
theorem dX6_findEarliest_64 : decode cX6_findEarliest 64 = .ok (.getfield 15, 3) := by decide +kernel
theorem dX6_findEarliest_67 : decode cX6_findEarliest 67 = .ok (.iload_n 1, 1) := by decide +kernel
theorem dX6_findEarliest_68 : decode cX6_findEarliest 68 = .ok (.iload_n 2, 1) := by decide +kernel
theorem dX6_findEarliest_69 : decode cX6_findEarliest 69 = .ok (.iconst 1, 1) := by decide +kernel
theorem dX6_findEarliest_70 : decode cX6_findEarliest 70 = .ok (.invokevirtual 159, 3) := by decide +kernel
theorem dX6_findEarliest_73 : decode cX6_findEarliest 73 = .ok (.invokevirtual 163, 3) := by decide +kernel
theorem dX6_findEarliest_76 : decode cX6_findEarliest 76 = .ok (.istore 5, 2) := by decide +kernel
theorem dX6_findEarliest_78 : decode cX6_findEarliest 78 = .ok (.aload_n 0, 1) := by decide +kernel
theorem dX6_findEarliest_79 : decode cX6_findEarliest 79 = .ok (.getfield 39, 3) := by decide +kernel
theorem dX6_findEarliest_82 : decode cX6_findEarliest 82 = .ok (.iload_n 1, 1) := by decide +kernel
theorem dX6_findEarliest_83 : decode cX6_findEarliest 83 = .ok (.iload_n 2, 1) := by decide +kernel
theorem dX6_findEarliest_84 : decode cX6_findEarliest 84 = .ok (.invokestatic 54, 3) := by decide +kernel
theorem dX6_findEarliest_87 : decode cX6_findEarliest 87 = .ok (.iload_n 3, 1) := by decide +kernel
theorem dX6_findEarliest_88 : decode cX6_findEarliest 88 = .ok (.iload 4, 2) := by decide +kernel
theorem dX6_findEarliest_90 : decode cX6_findEarliest 90 = .ok (.iload 5, 2) := by decide +kernel
theorem dX6_findEarliest_92 : decode cX6_findEarliest 92 = .ok (.invokestatic 97, 3) := by decide +kernel
theorem dX6_findEarliest_95 : decode cX6_findEarliest 95 = .ok (.invokestatic 97, 3) := by decide +kernel
theorem dX6_findEarliest_98 : decode cX6_findEarliest 98 = .ok (.invokevirtual 115, 3) := by decide +kernel
theorem dX6_findEarliest_101 : decode cX6_findEarliest 101 = .ok (.iinc 2 1, 3) := by decide +kernel
theorem dX6_findEarliest_104 : decode cX6_findEarliest 104 = .ok (.goto (-102), 3) := by decide +kernel
theorem dX6_findEarliest_107 : decode cX6_findEarliest 107 = .ok (.return_, 1) := by decide +kernel
theorem dX7_init_0 : decode cX7_init 0 = .ok (.aload_n 0, 1) := by decide +kernel
theorem dX7_init_1 : decode cX7_init 1 = .ok (.invokespecial 3, 3) := by decide +kernel
theorem dX7_init_4 : decode cX7_init 4 = .ok (.aload_n 0, 1) := by decide +kernel
theorem dX7_init_5 : decode cX7_init 5 = .ok (.aload_n 1, 1) := by decide +kernel
theorem dX7_init_6 : decode cX7_init 6 = .ok (.putfield 9, 3) := by decide +kernel
theorem dX7_init_9 : decode cX7_init 9 = .ok (.aload_n 0, 1) := by decide +kernel
theorem dX7_init_10 : decode cX7_init 10 = .ok (.aload_n 2, 1) := by decide +kernel
theorem dX7_init_11 : decode cX7_init 11 = .ok (.putfield 15, 3) := by decide +kernel
theorem dX7_init_14 : decode cX7_init 14 = .ok (.aload_n 0, 1) := by decide +kernel
theorem dX7_init_15 : decode cX7_init 15 = .ok (.new 19, 3) := by decide +kernel
theorem dX7_init_18 : decode cX7_init 18 = .ok (.dup, 1) := by decide +kernel
theorem dX7_init_19 : decode cX7_init 19 = .ok (.bipush 96, 2) := by decide +kernel
theorem dX7_init_21 : decode cX7_init 21 = .ok (.iconst 0, 1) := by decide +kernel
theorem dX7_init_22 : decode cX7_init 22 = .ok (.invokespecial 21, 3) := by decide +kernel
theorem dX7_init_25 : decode cX7_init 25 = .ok (.putfield 24, 3) := by decide +kernel
theorem dX7_init_28 : decode cX7_init 28 = .ok (.aload_n 0, 1) := by decide +kernel
theorem dX7_init_29 : decode cX7_init 29 = .ok (.new 19, 3) := by decide +kernel
theorem dX7_init_32 : decode cX7_init 32 = .ok (.dup, 1) := by decide +kernel
theorem dX7_init_33 : decode cX7_init 33 = .ok (.bipush 96, 2) := by decide +kernel
theorem dX7_init_35 : decode cX7_init 35 = .ok (.iconst 0, 1) := by decide +kernel
theorem dX7_init_36 : decode cX7_init 36 = .ok (.invokespecial 21, 3) := by decide +kernel
theorem dX7_init_39 : decode cX7_init 39 = .ok (.putfield 28, 3) := by decide +kernel
theorem dX7_init_42 : decode cX7_init 42 = .ok (.return_, 1) := by decide +kernel
theorem dX8_init_0 : decode cX8_init 0 = .ok (.aload_n 0, 1) := by decide +kernel
theorem dX8_init_1 : decode cX8_init 1 = .ok (.invokespecial 3, 3) := by decide +kernel
theorem dX8_init_4 : decode cX8_init 4 = .ok (.aload_n 0, 1) := by decide +kernel
theorem dX8_init_5 : decode cX8_init 5 = .ok (.aload_n 1, 1) := by decide +kernel
theorem dX8_init_6 : decode cX8_init 6 = .ok (.putfield 9, 3) := by decide +kernel
theorem dX8_init_9 : decode cX8_init 9 = .ok (.return_, 1) := by decide +kernel
theorem dX8_people_0 : decode cX8_people 0 = .ok (.aload_n 0, 1) := by decide +kernel
theorem dX8_people_1 : decode cX8_people 1 = .ok (.getfield 9, 3) := by decide +kernel
theorem dX8_people_4 : decode cX8_people 4 = .ok (.iconst 2, 1) := by decide +kernel
theorem dX8_people_5 : decode cX8_people 5 = .ok (.invokevirtual 17, 3) := by decide +kernel
theorem dX8_people_8 : decode cX8_people 8 = .ok (.ireturn, 1) := by decide +kernel
theorem dX8_has_0 : decode cX8_has 0 = .ok (.iload_n 1, 1) := by decide +kernel
theorem dX8_has_1 : decode cX8_has 1 = .ok (.ifCond .lt 15, 3) := by decide +kernel
theorem dX8_has_4 : decode cX8_has 4 = .ok (.iload_n 1, 1) := by decide +kernel
theorem dX8_has_5 : decode cX8_has 5 = .ok (.aload_n 0, 1) := by decide +kernel
theorem dX8_has_6 : decode cX8_has 6 = .ok (.invokevirtual 21, 3) := by decide +kernel
theorem dX8_has_9 : decode cX8_has 9 = .ok (.if_icmp .ge 7, 3) := by decide +kernel
theorem dX8_has_12 : decode cX8_has 12 = .ok (.iconst 1, 1) := by decide +kernel
theorem dX8_has_13 : decode cX8_has 13 = .ok (.goto 4, 3) := by decide +kernel
theorem dX8_has_16 : decode cX8_has 16 = .ok (.iconst 0, 1) := by decide +kernel
theorem dX8_has_17 : decode cX8_has 17 = .ok (.ireturn, 1) := by decide +kernel
theorem dX8_classOf_0 : decode cX8_classOf 0 = .ok (.aload_n 0, 1) := by decide +kernel
theorem dX8_classOf_1 : decode cX8_classOf 1 = .ok (.getfield 9, 3) := by decide +kernel
theorem dX8_classOf_4 : decode cX8_classOf 4 = .ok (.iload_n 1, 1) := by decide +kernel
theorem dX8_classOf_5 : decode cX8_classOf 5 = .ok (.iconst 0, 1) := by decide +kernel
theorem dX8_classOf_6 : decode cX8_classOf 6 = .ok (.invokestatic 25, 3) := by decide +kernel
theorem dX8_classOf_9 : decode cX8_classOf 9 = .ok (.invokevirtual 17, 3) := by decide +kernel
theorem dX8_classOf_12 : decode cX8_classOf 12 = .ok (.ireturn, 1) := by decide +kernel
theorem dX8_add_0 : decode cX8_add 0 = .ok (.aload_n 0, 1) := by decide +kernel
theorem dX8_add_1 : decode cX8_add 1 = .ok (.invokevirtual 21, 3) := by decide +kernel
theorem dX8_add_4 : decode cX8_add 4 = .ok (.istore_n 3, 1) := by decide +kernel
theorem dX8_add_5 : decode cX8_add 5 = .ok (.aload_n 0, 1) := by decide +kernel
theorem dX8_add_6 : decode cX8_add 6 = .ok (.getfield 9, 3) := by decide +kernel
theorem dX8_add_9 : decode cX8_add 9 = .ok (.iconst 2, 1) := by decide +kernel
theorem dX8_add_10 : decode cX8_add 10 = .ok (.iload_n 3, 1) := by decide +kernel
theorem dX8_add_11 : decode cX8_add 11 = .ok (.iconst 1, 1) := by decide +kernel
theorem dX8_add_12 : decode cX8_add 12 = .ok (.iadd, 1) := by decide +kernel
theorem dX8_add_13 : decode cX8_add 13 = .ok (.invokevirtual 29, 3) := by decide +kernel
theorem dX8_add_16 : decode cX8_add 16 = .ok (.aload_n 0, 1) := by decide +kernel
theorem dX8_add_17 : decode cX8_add 17 = .ok (.getfield 9, 3) := by decide +kernel
theorem dX8_add_20 : decode cX8_add 20 = .ok (.iload_n 3, 1) := by decide +kernel
theorem dX8_add_21 : decode cX8_add 21 = .ok (.iconst 0, 1) := by decide +kernel
theorem dX8_add_22 : decode cX8_add 22 = .ok (.invokestatic 25, 3) := by decide +kernel
theorem dX8_add_25 : decode cX8_add 25 = .ok (.iload_n 2, 1) := by decide +kernel
theorem dX8_add_26 : decode cX8_add 26 = .ok (.invokevirtual 29, 3) := by decide +kernel
theorem dX8_add_29 : decode cX8_add 29 = .ok (.aload_n 0, 1) := by decide +kernel
theorem dX8_add_30 : decode cX8_add 30 = .ok (.getfield 9, 3) := by decide +kernel
theorem dX8_add_33 : decode cX8_add 33 = .ok (.iload_n 3, 1) := by decide +kernel
theorem dX8_add_34 : decode cX8_add 34 = .ok (.iconst 1, 1) := by decide +kernel
theorem dX8_add_35 : decode cX8_add 35 = .ok (.invokestatic 25, 3) := by decide +kernel
theorem dX8_add_38 : decode cX8_add 38 = .ok (.iload_n 1, 1) := by decide +kernel
theorem dX8_add_39 : decode cX8_add 39 = .ok (.invokevirtual 29, 3) := by decide +kernel
theorem dX8_add_42 : decode cX8_add 42 = .ok (.aload_n 0, 1) := by decide +kernel
theorem dX8_add_43 : decode cX8_add 43 = .ok (.getfield 9, 3) := by decide +kernel
theorem dX8_add_46 : decode cX8_add 46 = .ok (.iload_n 3, 1) := by decide +kernel
theorem dX8_add_47 : decode cX8_add 47 = .ok (.iconst 2, 1) := by decide +kernel
theorem dX8_add_48 : decode cX8_add 48 = .ok (.invokestatic 25, 3) := by decide +kernel
theorem dX8_add_51 : decode cX8_add 51 = .ok (.iconst (-1), 1) := by decide +kernel
theorem dX8_add_52 : decode cX8_add 52 = .ok (.invokevirtual 29, 3) := by decide +kernel
theorem dX8_add_55 : decode cX8_add 55 = .ok (.aload_n 0, 1) := by decide +kernel
theorem dX8_add_56 : decode cX8_add 56 = .ok (.getfield 9, 3) := by decide +kernel
theorem dX8_add_59 : decode cX8_add 59 = .ok (.iload_n 3, 1) := by decide +kernel
theorem dX8_add_60 : decode cX8_add 60 = .ok (.iconst 5, 1) := by decide +kernel
theorem dX8_add_61 : decode cX8_add 61 = .ok (.invokestatic 25, 3) := by decide +kernel
theorem dX8_add_64 : decode cX8_add 64 = .ok (.iconst (-1), 1) := by decide +kernel
theorem dX8_add_65 : decode cX8_add 65 = .ok (.invokevirtual 29, 3) := by decide +kernel
theorem dX8_add_68 : decode cX8_add 68 = .ok (.aload_n 0, 1) := by decide +kernel
theorem dX8_add_69 : decode cX8_add 69 = .ok (.getfield 9, 3) := by decide +kernel
theorem dX8_add_72 : decode cX8_add 72 = .ok (.iload_n 3, 1) := by decide +kernel
theorem dX8_add_73 : decode cX8_add 73 = .ok (.bipush 6, 2) := by decide +kernel
theorem dX8_add_75 : decode cX8_add 75 = .ok (.invokestatic 25, 3) := by decide +kernel
theorem dX8_add_78 : decode cX8_add 78 = .ok (.iconst (-1), 1) := by decide +kernel
theorem dX8_add_79 : decode cX8_add 79 = .ok (.invokevirtual 29, 3) := by decide +kernel
theorem dX8_add_82 : decode cX8_add 82 = .ok (.iload_n 3, 1) := by decide +kernel
theorem dX8_add_83 : decode cX8_add 83 = .ok (.ireturn, 1) := by decide +kernel
theorem dX8_wasAnyAtScales_0 : decode cX8_wasAnyAtScales 0 = .ok (.iconst 0, 1) := by decide +kernel
theorem dX8_wasAnyAtScales_1 : decode cX8_wasAnyAtScales 1 = .ok (.istore_n 2, 1) := by decide +kernel
theorem dX8_wasAnyAtScales_2 : decode cX8_wasAnyAtScales 2 = .ok (.iload_n 2, 1) := by decide +kernel
theorem dX8_wasAnyAtScales_3 : decode cX8_wasAnyAtScales 3 = .ok (.aload_n 0, 1) := by decide +kernel
theorem dX8_wasAnyAtScales_4 : decode cX8_wasAnyAtScales 4 = .ok (.invokevirtual 21, 3) := by decide +kernel
theorem dX8_wasAnyAtScales_7 : decode cX8_wasAnyAtScales 7 = .ok (.if_icmp .ge 35, 3) := by decide +kernel
theorem dX8_wasAnyAtScales_10 : decode cX8_wasAnyAtScales 10 = .ok (.aload_n 0, 1) := by decide +kernel
theorem dX8_wasAnyAtScales_11 : decode cX8_wasAnyAtScales 11 = .ok (.iload_n 2, 1) := by decide +kernel
theorem dX8_wasAnyAtScales_12 : decode cX8_wasAnyAtScales 12 = .ok (.invokevirtual 33, 3) := by decide +kernel
theorem dX8_wasAnyAtScales_15 : decode cX8_wasAnyAtScales 15 = .ok (.iload_n 1, 1) := by decide +kernel
theorem dX8_wasAnyAtScales_16 : decode cX8_wasAnyAtScales 16 = .ok (.if_icmp .ne 20, 3) := by decide +kernel
theorem dX8_wasAnyAtScales_19 : decode cX8_wasAnyAtScales 19 = .ok (.aload_n 0, 1) := by decide +kernel
theorem dX8_wasAnyAtScales_20 : decode cX8_wasAnyAtScales 20 = .ok (.getfield 9, 3) := by decide +kernel
theorem dX8_wasAnyAtScales_23 : decode cX8_wasAnyAtScales 23 = .ok (.iload_n 2, 1) := by decide +kernel
theorem dX8_wasAnyAtScales_24 : decode cX8_wasAnyAtScales 24 = .ok (.iconst 3, 1) := by decide +kernel
theorem dX8_wasAnyAtScales_25 : decode cX8_wasAnyAtScales 25 = .ok (.invokestatic 25, 3) := by decide +kernel
theorem dX8_wasAnyAtScales_28 : decode cX8_wasAnyAtScales 28 = .ok (.invokevirtual 17, 3) := by decide +kernel
theorem dX8_wasAnyAtScales_31 : decode cX8_wasAnyAtScales 31 = .ok (.ifCond .eq 5, 3) := by decide +kernel
theorem dX8_wasAnyAtScales_34 : decode cX8_wasAnyAtScales 34 = .ok (.iconst 1, 1) := by decide +kernel
theorem dX8_wasAnyAtScales_35 : decode cX8_wasAnyAtScales 35 = .ok (.ireturn, 1) := by decide +kernel
theorem dX8_wasAnyAtScales_36 : decode cX8_wasAnyAtScales 36 = .ok (.iinc 2 1, 3) := by decide +kernel
theorem dX8_wasAnyAtScales_39 : decode cX8_wasAnyAtScales 39 = .ok (.goto (-37), 3) := by decide +kernel
theorem dX8_wasAnyAtScales_42 : decode cX8_wasAnyAtScales 42 = .ok (.iconst 0, 1) := by decide +kernel
theorem dX8_wasAnyAtScales_43 : decode cX8_wasAnyAtScales 43 = .ok (.ireturn, 1) := by decide +kernel
theorem dX8_fightersOf_0 : decode cX8_fightersOf 0 = .ok (.iconst 0, 1) := by decide +kernel
theorem dX8_fightersOf_1 : decode cX8_fightersOf 1 = .ok (.istore_n 2, 1) := by decide +kernel
theorem dX8_fightersOf_2 : decode cX8_fightersOf 2 = .ok (.iconst 0, 1) := by decide +kernel
theorem dX8_fightersOf_3 : decode cX8_fightersOf 3 = .ok (.istore_n 3, 1) := by decide +kernel
theorem dX8_fightersOf_4 : decode cX8_fightersOf 4 = .ok (.iload_n 3, 1) := by decide +kernel
theorem dX8_fightersOf_5 : decode cX8_fightersOf 5 = .ok (.aload_n 0, 1) := by decide +kernel
theorem dX8_fightersOf_6 : decode cX8_fightersOf 6 = .ok (.invokevirtual 21, 3) := by decide +kernel
theorem dX8_fightersOf_9 : decode cX8_fightersOf 9 = .ok (.if_icmp .ge 26, 3) := by decide +kernel
theorem dX8_fightersOf_12 : decode cX8_fightersOf 12 = .ok (.iload_n 2, 1) := by decide +kernel
theorem dX8_fightersOf_13 : decode cX8_fightersOf 13 = .ok (.aload_n 0, 1) := by decide +kernel
theorem dX8_fightersOf_14 : decode cX8_fightersOf 14 = .ok (.iload_n 3, 1) := by decide +kernel
theorem dX8_fightersOf_15 : decode cX8_fightersOf 15 = .ok (.invokevirtual 33, 3) := by decide +kernel
theorem dX8_fightersOf_18 : decode cX8_fightersOf 18 = .ok (.iload_n 1, 1) := by decide +kernel
theorem dX8_fightersOf_19 : decode cX8_fightersOf 19 = .ok (.if_icmp .ne 7, 3) := by decide +kernel
theorem dX8_fightersOf_22 : decode cX8_fightersOf 22 = .ok (.iconst 1, 1) := by decide +kernel
theorem dX8_fightersOf_23 : decode cX8_fightersOf 23 = .ok (.goto 4, 3) := by decide +kernel
theorem dX8_fightersOf_26 : decode cX8_fightersOf 26 = .ok (.iconst 0, 1) := by decide +kernel
theorem dX8_fightersOf_27 : decode cX8_fightersOf 27 = .ok (.iadd, 1) := by decide +kernel
theorem dX8_fightersOf_28 : decode cX8_fightersOf 28 = .ok (.istore_n 2, 1) := by decide +kernel
theorem dX8_fightersOf_29 : decode cX8_fightersOf 29 = .ok (.iinc 3 1, 3) := by decide +kernel
theorem dX8_fightersOf_32 : decode cX8_fightersOf 32 = .ok (.goto (-28), 3) := by decide +kernel
theorem dX8_fightersOf_35 : decode cX8_fightersOf 35 = .ok (.iload_n 2, 1) := by decide +kernel
theorem dX8_fightersOf_36 : decode cX8_fightersOf 36 = .ok (.ireturn, 1) := by decide +kernel
theorem dX8_weighedOf_0 : decode cX8_weighedOf 0 = .ok (.iconst 0, 1) := by decide +kernel
theorem dX8_weighedOf_1 : decode cX8_weighedOf 1 = .ok (.istore_n 2, 1) := by decide +kernel
theorem dX8_weighedOf_2 : decode cX8_weighedOf 2 = .ok (.iconst 0, 1) := by decide +kernel
theorem dX8_weighedOf_3 : decode cX8_weighedOf 3 = .ok (.istore_n 3, 1) := by decide +kernel
theorem dX8_weighedOf_4 : decode cX8_weighedOf 4 = .ok (.iload_n 3, 1) := by decide +kernel
theorem dX8_weighedOf_5 : decode cX8_weighedOf 5 = .ok (.aload_n 0, 1) := by decide +kernel
theorem dX8_weighedOf_6 : decode cX8_weighedOf 6 = .ok (.invokevirtual 21, 3) := by decide +kernel
theorem dX8_weighedOf_9 : decode cX8_weighedOf 9 = .ok (.if_icmp .ge 29, 3) := by decide +kernel
theorem dX8_weighedOf_12 : decode cX8_weighedOf 12 = .ok (.iload_n 2, 1) := by decide +kernel
theorem dX8_weighedOf_13 : decode cX8_weighedOf 13 = .ok (.aload_n 0, 1) := by decide +kernel
theorem dX8_weighedOf_14 : decode cX8_weighedOf 14 = .ok (.getfield 9, 3) := by decide +kernel
theorem dX8_weighedOf_17 : decode cX8_weighedOf 17 = .ok (.iload_n 3, 1) := by decide +kernel
theorem dX8_weighedOf_18 : decode cX8_weighedOf 18 = .ok (.iload_n 1, 1) := by decide +kernel
theorem dX8_weighedOf_19 : decode cX8_weighedOf 19 = .ok (.invokestatic 39, 3) := by decide +kernel
theorem dX8_weighedOf_22 : decode cX8_weighedOf 22 = .ok (.ifCond .eq 7, 3) := by decide +kernel
theorem dX8_weighedOf_25 : decode cX8_weighedOf 25 = .ok (.iconst 1, 1) := by decide +kernel
theorem dX8_weighedOf_26 : decode cX8_weighedOf 26 = .ok (.goto 4, 3) := by decide +kernel
theorem dX8_weighedOf_29 : decode cX8_weighedOf 29 = .ok (.iconst 0, 1) := by decide +kernel
theorem dX8_weighedOf_30 : decode cX8_weighedOf 30 = .ok (.iadd, 1) := by decide +kernel
theorem dX8_weighedOf_31 : decode cX8_weighedOf 31 = .ok (.istore_n 2, 1) := by decide +kernel
theorem dX8_weighedOf_32 : decode cX8_weighedOf 32 = .ok (.iinc 3 1, 3) := by decide +kernel
theorem dX8_weighedOf_35 : decode cX8_weighedOf 35 = .ok (.goto (-31), 3) := by decide +kernel
theorem dX8_weighedOf_38 : decode cX8_weighedOf 38 = .ok (.iload_n 2, 1) := by decide +kernel
theorem dX8_weighedOf_39 : decode cX8_weighedOf 39 = .ok (.ireturn, 1) := by decide +kernel
theorem dX8_isWeighed_0 : decode cX8_isWeighed 0 = .ok (.aload_n 0, 1) := by decide +kernel
theorem dX8_isWeighed_1 : decode cX8_isWeighed 1 = .ok (.iload_n 1, 1) := by decide +kernel
theorem dX8_isWeighed_2 : decode cX8_isWeighed 2 = .ok (.iconst 0, 1) := by decide +kernel
theorem dX8_isWeighed_3 : decode cX8_isWeighed 3 = .ok (.invokestatic 25, 3) := by decide +kernel
theorem dX8_isWeighed_6 : decode cX8_isWeighed 6 = .ok (.invokevirtual 17, 3) := by decide +kernel
theorem dX8_isWeighed_9 : decode cX8_isWeighed 9 = .ok (.iload_n 2, 1) := by decide +kernel
theorem dX8_isWeighed_10 : decode cX8_isWeighed 10 = .ok (.if_icmp .ne 20, 3) := by decide +kernel
theorem dX8_isWeighed_13 : decode cX8_isWeighed 13 = .ok (.aload_n 0, 1) := by decide +kernel
theorem dX8_isWeighed_14 : decode cX8_isWeighed 14 = .ok (.iload_n 1, 1) := by decide +kernel
theorem dX8_isWeighed_15 : decode cX8_isWeighed 15 = .ok (.iconst 3, 1) := by decide +kernel
theorem dX8_isWeighed_16 : decode cX8_isWeighed 16 = .ok (.invokestatic 25, 3) := by decide +kernel
theorem dX8_isWeighed_19 : decode cX8_isWeighed 19 = .ok (.invokevirtual 17, 3) := by decide +kernel
theorem dX8_isWeighed_22 : decode cX8_isWeighed 22 = .ok (.iconst 1, 1) := by decide +kernel
theorem dX8_isWeighed_23 : decode cX8_isWeighed 23 = .ok (.if_icmp .ne 7, 3) := by decide +kernel
theorem dX8_isWeighed_26 : decode cX8_isWeighed 26 = .ok (.iconst 1, 1) := by decide +kernel
theorem dX8_isWeighed_27 : decode cX8_isWeighed 27 = .ok (.goto 4, 3) := by decide +kernel
theorem dX8_isWeighed_30 : decode cX8_isWeighed 30 = .ok (.iconst 0, 1) := by decide +kernel
theorem dX8_isWeighed_31 : decode cX8_isWeighed 31 = .ok (.ireturn, 1) := by decide +kernel
theorem dX9_init_0 : decode cX9_init 0 = .ok (.aload_n 0, 1) := by decide +kernel
theorem dX9_init_1 : decode cX9_init 1 = .ok (.invokespecial 3, 3) := by decide +kernel
theorem dX9_init_4 : decode cX9_init 4 = .ok (.aload_n 0, 1) := by decide +kernel
theorem dX9_init_5 : decode cX9_init 5 = .ok (.iload_n 1, 1) := by decide +kernel
theorem dX9_init_6 : decode cX9_init 6 = .ok (.iconst 0, 1) := by decide +kernel
theorem dX9_init_7 : decode cX9_init 7 = .ok (.invokestatic 9, 3) := by decide +kernel
theorem dX9_init_10 : decode cX9_init 10 = .ok (.newarray .int, 2) := by decide +kernel
theorem dX9_init_12 : decode cX9_init 12 = .ok (.putfield 15, 3) := by decide +kernel
theorem dX9_init_15 : decode cX9_init 15 = .ok (.aload_n 0, 1) := by decide +kernel
theorem dX9_init_16 : decode cX9_init 16 = .ok (.getfield 15, 3) := by decide +kernel
theorem dX9_init_19 : decode cX9_init 19 = .ok (.iload_n 2, 1) := by decide +kernel
theorem dX9_init_20 : decode cX9_init 20 = .ok (.invokestatic 21, 3) := by decide +kernel
theorem dX9_init_23 : decode cX9_init 23 = .ok (.return_, 1) := by decide +kernel
theorem dX9_get_0 : decode cX9_get 0 = .ok (.iload_n 1, 1) := by decide +kernel
theorem dX9_get_1 : decode cX9_get 1 = .ok (.ifCond .lt 21, 3) := by decide +kernel
theorem dX9_get_4 : decode cX9_get 4 = .ok (.iload_n 1, 1) := by decide +kernel
theorem dX9_get_5 : decode cX9_get 5 = .ok (.aload_n 0, 1) := by decide +kernel
theorem dX9_get_6 : decode cX9_get 6 = .ok (.getfield 15, 3) := by decide +kernel
theorem dX9_get_9 : decode cX9_get 9 = .ok (.arraylength, 1) := by decide +kernel
theorem dX9_get_10 : decode cX9_get 10 = .ok (.if_icmp .ge 12, 3) := by decide +kernel
theorem dX9_get_13 : decode cX9_get 13 = .ok (.aload_n 0, 1) := by decide +kernel
theorem dX9_get_14 : decode cX9_get 14 = .ok (.getfield 15, 3) := by decide +kernel
theorem dX9_get_17 : decode cX9_get 17 = .ok (.iload_n 1, 1) := by decide +kernel
theorem dX9_get_18 : decode cX9_get 18 = .ok (.iaload, 1) := by decide +kernel
theorem dX9_get_19 : decode cX9_get 19 = .ok (.goto 4, 3) := by decide +kernel
theorem dX9_get_22 : decode cX9_get 22 = .ok (.iconst (-1), 1) := by decide +kernel
theorem dX9_get_23 : decode cX9_get 23 = .ok (.ireturn, 1) := by decide +kernel
theorem dX9_set_0 : decode cX9_set 0 = .ok (.iload_n 1, 1) := by decide +kernel
theorem dX9_set_1 : decode cX9_set 1 = .ok (.ifCond .lt 19, 3) := by decide +kernel
theorem dX9_set_4 : decode cX9_set 4 = .ok (.iload_n 1, 1) := by decide +kernel
theorem dX9_set_5 : decode cX9_set 5 = .ok (.aload_n 0, 1) := by decide +kernel
theorem dX9_set_6 : decode cX9_set 6 = .ok (.getfield 15, 3) := by decide +kernel
theorem dX9_set_9 : decode cX9_set 9 = .ok (.arraylength, 1) := by decide +kernel
theorem dX9_set_10 : decode cX9_set 10 = .ok (.if_icmp .ge 10, 3) := by decide +kernel
theorem dX9_set_13 : decode cX9_set 13 = .ok (.aload_n 0, 1) := by decide +kernel
theorem dX9_set_14 : decode cX9_set 14 = .ok (.getfield 15, 3) := by decide +kernel
theorem dX9_set_17 : decode cX9_set 17 = .ok (.iload_n 1, 1) := by decide +kernel
theorem dX9_set_18 : decode cX9_set 18 = .ok (.iload_n 2, 1) := by decide +kernel
theorem dX9_set_19 : decode cX9_set 19 = .ok (.iastore, 1) := by decide +kernel
theorem dX9_set_20 : decode cX9_set 20 = .ok (.return_, 1) := by decide +kernel
theorem dX9_fill_0 : decode cX9_fill 0 = .ok (.aload_n 0, 1) := by decide +kernel
theorem dX9_fill_1 : decode cX9_fill 1 = .ok (.getfield 15, 3) := by decide +kernel
theorem dX9_fill_4 : decode cX9_fill 4 = .ok (.iload_n 1, 1) := by decide +kernel
theorem dX9_fill_5 : decode cX9_fill 5 = .ok (.invokestatic 21, 3) := by decide +kernel
theorem dX9_fill_8 : decode cX9_fill 8 = .ok (.return_, 1) := by decide +kernel
theorem dX9_makeRoomFor_0 : decode cX9_makeRoomFor 0 = .ok (.iload_n 1, 1) := by decide +kernel
theorem dX9_makeRoomFor_1 : decode cX9_makeRoomFor 1 = .ok (.aload_n 0, 1) := by decide +kernel
theorem dX9_makeRoomFor_2 : decode cX9_makeRoomFor 2 = .ok (.getfield 15, 3) := by decide +kernel
theorem dX9_makeRoomFor_5 : decode cX9_makeRoomFor 5 = .ok (.arraylength, 1) := by decide +kernel
theorem dX9_makeRoomFor_6 : decode cX9_makeRoomFor 6 = .ok (.if_icmp .lt 27, 3) := by decide +kernel
theorem dX9_makeRoomFor_9 : decode cX9_makeRoomFor 9 = .ok (.aload_n 0, 1) := by decide +kernel
theorem dX9_makeRoomFor_10 : decode cX9_makeRoomFor 10 = .ok (.aload_n 0, 1) := by decide +kernel
theorem dX9_makeRoomFor_11 : decode cX9_makeRoomFor 11 = .ok (.getfield 15, 3) := by decide +kernel
theorem dX9_makeRoomFor_14 : decode cX9_makeRoomFor 14 = .ok (.iload_n 1, 1) := by decide +kernel
theorem dX9_makeRoomFor_15 : decode cX9_makeRoomFor 15 = .ok (.iconst 1, 1) := by decide +kernel
theorem dX9_makeRoomFor_16 : decode cX9_makeRoomFor 16 = .ok (.iadd, 1) := by decide +kernel
theorem dX9_makeRoomFor_17 : decode cX9_makeRoomFor 17 = .ok (.iconst 2, 1) := by decide +kernel
theorem dX9_makeRoomFor_18 : decode cX9_makeRoomFor 18 = .ok (.aload_n 0, 1) := by decide +kernel
theorem dX9_makeRoomFor_19 : decode cX9_makeRoomFor 19 = .ok (.getfield 15, 3) := by decide +kernel
theorem dX9_makeRoomFor_22 : decode cX9_makeRoomFor 22 = .ok (.arraylength, 1) := by decide +kernel
theorem dX9_makeRoomFor_23 : decode cX9_makeRoomFor 23 = .ok (.imul, 1) := by decide +kernel
theorem dX9_makeRoomFor_24 : decode cX9_makeRoomFor 24 = .ok (.invokestatic 9, 3) := by decide +kernel
theorem dX9_makeRoomFor_27 : decode cX9_makeRoomFor 27 = .ok (.invokestatic 27, 3) := by decide +kernel
theorem dX9_makeRoomFor_30 : decode cX9_makeRoomFor 30 = .ok (.putfield 15, 3) := by decide +kernel
theorem dX9_makeRoomFor_33 : decode cX9_makeRoomFor 33 = .ok (.return_, 1) := by decide +kernel
theorem dX10_init_0 : decode cX10_init 0 = .ok (.aload_n 0, 1) := by decide +kernel
theorem dX10_init_1 : decode cX10_init 1 = .ok (.invokespecial 1, 3) := by decide +kernel
theorem dX10_init_4 : decode cX10_init 4 = .ok (.aload_n 0, 1) := by decide +kernel
theorem dX10_init_5 : decode cX10_init 5 = .ok (.new 7, 3) := by decide +kernel
theorem dX10_init_8 : decode cX10_init 8 = .ok (.dup, 1) := by decide +kernel
theorem dX10_init_9 : decode cX10_init 9 = .ok (.sipush 3000, 3) := by decide +kernel
theorem dX10_init_12 : decode cX10_init 12 = .ok (.iconst 0, 1) := by decide +kernel
theorem dX10_init_13 : decode cX10_init 13 = .ok (.invokespecial 11, 3) := by decide +kernel
theorem dX10_init_16 : decode cX10_init 16 = .ok (.putfield 14, 3) := by decide +kernel
theorem dX10_init_19 : decode cX10_init 19 = .ok (.return_, 1) := by decide +kernel
theorem dX10_push_0 : decode cX10_push 0 = .ok (.bipush 24, 2) := by decide +kernel
theorem dX10_push_2 : decode cX10_push 2 = .ok (.istore_n 2, 1) := by decide +kernel
theorem dX10_push_3 : decode cX10_push 3 = .ok (.iload_n 2, 1) := by decide +kernel
theorem dX10_push_4 : decode cX10_push 4 = .ok (.ifCond .lt 37, 3) := by decide +kernel
theorem dX10_push_7 : decode cX10_push 7 = .ok (.aload_n 0, 1) := by decide +kernel
theorem dX10_push_8 : decode cX10_push 8 = .ok (.getfield 14, 3) := by decide +kernel
theorem dX10_push_11 : decode cX10_push 11 = .ok (.aload_n 0, 1) := by decide +kernel
theorem dX10_push_12 : decode cX10_push 12 = .ok (.getfield 18, 3) := by decide +kernel
theorem dX10_push_15 : decode cX10_push 15 = .ok (.iload_n 1, 1) := by decide +kernel
theorem dX10_push_16 : decode cX10_push 16 = .ok (.iload_n 2, 1) := by decide +kernel
theorem dX10_push_17 : decode cX10_push 17 = .ok (.ishr, 1) := by decide +kernel
theorem dX10_push_18 : decode cX10_push 18 = .ok (.sipush 255, 3) := by decide +kernel
theorem dX10_push_21 : decode cX10_push 21 = .ok (.iand, 1) := by decide +kernel
theorem dX10_push_22 : decode cX10_push 22 = .ok (.invokevirtual 22, 3) := by decide +kernel
theorem dX10_push_25 : decode cX10_push 25 = .ok (.aload_n 0, 1) := by decide +kernel
theorem dX10_push_26 : decode cX10_push 26 = .ok (.dup, 1) := by decide +kernel
theorem dX10_push_27 : decode cX10_push 27 = .ok (.getfield 18, 3) := by decide +kernel
theorem dX10_push_30 : decode cX10_push 30 = .ok (.iconst 1, 1) := by decide +kernel
theorem dX10_push_31 : decode cX10_push 31 = .ok (.iadd, 1) := by decide +kernel
theorem dX10_push_32 : decode cX10_push 32 = .ok (.putfield 18, 3) := by decide +kernel
theorem dX10_push_35 : decode cX10_push 35 = .ok (.iinc 2 (-8), 3) := by decide +kernel
theorem dX10_push_38 : decode cX10_push 38 = .ok (.goto (-35), 3) := by decide +kernel
theorem dX10_push_41 : decode cX10_push 41 = .ok (.return_, 1) := by decide +kernel
theorem dX10_rewind_0 : decode cX10_rewind 0 = .ok (.aload_n 0, 1) := by decide +kernel
theorem dX10_rewind_1 : decode cX10_rewind 1 = .ok (.iconst 0, 1) := by decide +kernel
theorem dX10_rewind_2 : decode cX10_rewind 2 = .ok (.putfield 25, 3) := by decide +kernel
theorem dX10_rewind_5 : decode cX10_rewind 5 = .ok (.return_, 1) := by decide +kernel
theorem dX10_readToken_0 : decode cX10_readToken 0 = .ok (.aload_n 0, 1) := by decide +kernel
theorem dX10_readToken_1 : decode cX10_readToken 1 = .ok (.getfield 25, 3) := by decide +kernel
theorem dX10_readToken_4 : decode cX10_readToken 4 = .ok (.aload_n 0, 1) := by decide +kernel
theorem dX10_readToken_5 : decode cX10_readToken 5 = .ok (.getfield 18, 3) := by decide +kernel
theorem dX10_readToken_8 : decode cX10_readToken 8 = .ok (.if_icmp .ge 33, 3) := by decide +kernel
theorem dX10_readToken_11 : decode cX10_readToken 11 = .ok (.aload_n 0, 1) := by decide +kernel
theorem dX10_readToken_12 : decode cX10_readToken 12 = .ok (.getfield 14, 3) := by decide +kernel
theorem dX10_readToken_15 : decode cX10_readToken 15 = .ok (.aload_n 0, 1) := by decide +kernel
theorem dX10_readToken_16 : decode cX10_readToken 16 = .ok (.getfield 25, 3) := by decide +kernel
theorem dX10_readToken_19 : decode cX10_readToken 19 = .ok (.invokevirtual 28, 3) := by decide +kernel
theorem dX10_readToken_22 : decode cX10_readToken 22 = .ok (.invokestatic 32, 3) := by decide +kernel
theorem dX10_readToken_25 : decode cX10_readToken 25 = .ok (.ifCond .eq 16, 3) := by decide +kernel
theorem dX10_readToken_28 : decode cX10_readToken 28 = .ok (.aload_n 0, 1) := by decide +kernel
theorem dX10_readToken_29 : decode cX10_readToken 29 = .ok (.dup, 1) := by decide +kernel
theorem dX10_readToken_30 : decode cX10_readToken 30 = .ok (.getfield 25, 3) := by decide +kernel
theorem dX10_readToken_33 : decode cX10_readToken 33 = .ok (.iconst 1, 1) := by decide +kernel
theorem dX10_readToken_34 : decode cX10_readToken 34 = .ok (.iadd, 1) := by decide +kernel
theorem dX10_readToken_35 : decode cX10_readToken 35 = .ok (.putfield 25, 3) := by decide +kernel
theorem dX10_readToken_38 : decode cX10_readToken 38 = .ok (.goto (-38), 3) := by decide +kernel
theorem dX10_readToken_41 : decode cX10_readToken 41 = .ok (.aload_n 0, 1) := by decide +kernel
theorem dX10_readToken_42 : decode cX10_readToken 42 = .ok (.aload_n 0, 1) := by decide +kernel
theorem dX10_readToken_43 : decode cX10_readToken 43 = .ok (.getfield 25, 3) := by decide +kernel
theorem dX10_readToken_46 : decode cX10_readToken 46 = .ok (.putfield 36, 3) := by decide +kernel
theorem dX10_readToken_49 : decode cX10_readToken 49 = .ok (.aload_n 0, 1) := by decide +kernel
theorem dX10_readToken_50 : decode cX10_readToken 50 = .ok (.getfield 25, 3) := by decide +kernel
theorem dX10_readToken_53 : decode cX10_readToken 53 = .ok (.aload_n 0, 1) := by decide +kernel
theorem dX10_readToken_54 : decode cX10_readToken 54 = .ok (.getfield 18, 3) := by decide +kernel
theorem dX10_readToken_57 : decode cX10_readToken 57 = .ok (.if_icmp .lt 9, 3) := by decide +kernel
theorem dX10_readToken_60 : decode cX10_readToken 60 = .ok (.aload_n 0, 1) := by decide +kernel
theorem dX10_readToken_61 : decode cX10_readToken 61 = .ok (.iconst 0, 1) := by decide +kernel
theorem dX10_readToken_62 : decode cX10_readToken 62 = .ok (.putfield 39, 3) := by decide +kernel
theorem dX10_readToken_65 : decode cX10_readToken 65 = .ok (.return_, 1) := by decide +kernel
theorem dX10_readToken_66 : decode cX10_readToken 66 = .ok (.aload_n 0, 1) := by decide +kernel
theorem dX10_readToken_67 : decode cX10_readToken 67 = .ok (.getfield 14, 3) := by decide +kernel
theorem dX10_readToken_70 : decode cX10_readToken 70 = .ok (.aload_n 0, 1) := by decide +kernel
theorem dX10_readToken_71 : decode cX10_readToken 71 = .ok (.getfield 25, 3) := by decide +kernel
theorem dX10_readToken_74 : decode cX10_readToken 74 = .ok (.invokevirtual 28, 3) := by decide +kernel
theorem dX10_readToken_77 : decode cX10_readToken 77 = .ok (.istore_n 1, 1) := by decide +kernel
theorem dX10_readToken_78 : decode cX10_readToken 78 = .ok (.iload_n 1, 1) := by decide +kernel
theorem dX10_readToken_79 : decode cX10_readToken 79 = .ok (.invokestatic 42, 3) := by decide +kernel
theorem dX10_readToken_82 : decode cX10_readToken 82 = .ok (.ifCond .eq 10, 3) := by decide +kernel
theorem dX10_readToken_85 : decode cX10_readToken 85 = .ok (.aload_n 0, 1) := by decide +kernel
theorem dX10_readToken_86 : decode cX10_readToken 86 = .ok (.invokevirtual 45, 3) := by decide +kernel
theorem dX10_readToken_89 : decode cX10_readToken 89 = .ok (.goto 36, 3) := by decide +kernel
theorem dX10_readToken_92 : decode cX10_readToken 92 = .ok (.iload_n 1, 1) := by decide +kernel
theorem dX10_readToken_93 : decode cX10_readToken 93 = .ok (.invokestatic 48, 3) := by decide +kernel
theorem dX10_readToken_96 : decode cX10_readToken 96 = .ok (.ifCond .eq 10, 3) := by decide +kernel
theorem dX10_readToken_99 : decode cX10_readToken 99 = .ok (.aload_n 0, 1) := by decide +kernel
theorem dX10_readToken_100 : decode cX10_readToken 100 = .ok (.invokevirtual 51, 3) := by decide +kernel
theorem dX10_readToken_103 : decode cX10_readToken 103 = .ok (.goto 22, 3) := by decide +kernel
theorem dX10_readToken_106 : decode cX10_readToken 106 = .ok (.aload_n 0, 1) := by decide +kernel
theorem dX10_readToken_107 : decode cX10_readToken 107 = .ok (.dup, 1) := by decide +kernel
theorem dX10_readToken_108 : decode cX10_readToken 108 = .ok (.getfield 25, 3) := by decide +kernel
theorem dX10_readToken_111 : decode cX10_readToken 111 = .ok (.iconst 1, 1) := by decide +kernel
theorem dX10_readToken_112 : decode cX10_readToken 112 = .ok (.iadd, 1) := by decide +kernel
theorem dX10_readToken_113 : decode cX10_readToken 113 = .ok (.putfield 25, 3) := by decide +kernel
theorem dX10_readToken_116 : decode cX10_readToken 116 = .ok (.aload_n 0, 1) := by decide +kernel
theorem dX10_readToken_117 : decode cX10_readToken 117 = .ok (.aload_n 0, 1) := by decide +kernel
theorem dX10_readToken_118 : decode cX10_readToken 118 = .ok (.iload_n 1, 1) := by decide +kernel
theorem dX10_readToken_119 : decode cX10_readToken 119 = .ok (.invokevirtual 54, 3) := by decide +kernel
theorem dX10_readToken_122 : decode cX10_readToken 122 = .ok (.putfield 39, 3) := by decide +kernel
theorem dX10_readToken_125 : decode cX10_readToken 125 = .ok (.return_, 1) := by decide +kernel
theorem dX10_isBlank_0 : decode cX10_isBlank 0 = .ok (.iload_n 0, 1) := by decide +kernel
theorem dX10_isBlank_1 : decode cX10_isBlank 1 = .ok (.bipush 32, 2) := by decide +kernel
theorem dX10_isBlank_3 : decode cX10_isBlank 3 = .ok (.if_icmp .eq 9, 3) := by decide +kernel
theorem dX10_isBlank_6 : decode cX10_isBlank 6 = .ok (.iload_n 0, 1) := by decide +kernel
theorem dX10_isBlank_7 : decode cX10_isBlank 7 = .ok (.bipush 10, 2) := by decide +kernel
theorem dX10_isBlank_9 : decode cX10_isBlank 9 = .ok (.if_icmp .ne 7, 3) := by decide +kernel
theorem dX10_isBlank_12 : decode cX10_isBlank 12 = .ok (.iconst 1, 1) := by decide +kernel
theorem dX10_isBlank_13 : decode cX10_isBlank 13 = .ok (.goto 4, 3) := by decide +kernel
theorem dX10_isBlank_16 : decode cX10_isBlank 16 = .ok (.iconst 0, 1) := by decide +kernel
theorem dX10_isBlank_17 : decode cX10_isBlank 17 = .ok (.ireturn, 1) := by decide +kernel
theorem dX11_init_0 : decode cX11_init 0 = .ok (.aload_n 0, 1) := by decide +kernel
theorem dX11_init_1 : decode cX11_init 1 = .ok (.invokespecial 1, 3) := by decide +kernel
theorem dX11_init_4 : decode cX11_init 4 = .ok (.aload_n 0, 1) := by decide +kernel
theorem dX11_init_5 : decode cX11_init 5 = .ok (.new 7, 3) := by decide +kernel
theorem dX11_init_8 : decode cX11_init 8 = .ok (.dup, 1) := by decide +kernel
theorem dX11_init_9 : decode cX11_init 9 = .ok (.invokespecial 9, 3) := by decide +kernel
theorem dX11_init_12 : decode cX11_init 12 = .ok (.putfield 10, 3) := by decide +kernel
theorem dX11_init_15 : decode cX11_init 15 = .ok (.aload_n 0, 1) := by decide +kernel
theorem dX11_init_16 : decode cX11_init 16 = .ok (.new 16, 3) := by decide +kernel
theorem dX11_init_19 : decode cX11_init 19 = .ok (.dup, 1) := by decide +kernel
theorem dX11_init_20 : decode cX11_init 20 = .ok (.invokespecial 18, 3) := by decide +kernel
theorem dX11_init_23 : decode cX11_init 23 = .ok (.putfield 19, 3) := by decide +kernel
theorem dX11_init_26 : decode cX11_init 26 = .ok (.aload_n 0, 1) := by decide +kernel
theorem dX11_init_27 : decode cX11_init 27 = .ok (.new 23, 3) := by decide +kernel
theorem dX11_init_30 : decode cX11_init 30 = .ok (.dup, 1) := by decide +kernel
theorem dX11_init_31 : decode cX11_init 31 = .ok (.aload_n 0, 1) := by decide +kernel
theorem dX11_init_32 : decode cX11_init 32 = .ok (.getfield 19, 3) := by decide +kernel
theorem dX11_init_35 : decode cX11_init 35 = .ok (.invokespecial 25, 3) := by decide +kernel
theorem dX11_init_38 : decode cX11_init 38 = .ok (.putfield 28, 3) := by decide +kernel
theorem dX11_init_41 : decode cX11_init 41 = .ok (.aload_n 0, 1) := by decide +kernel
theorem dX11_init_42 : decode cX11_init 42 = .ok (.new 32, 3) := by decide +kernel
theorem dX11_init_45 : decode cX11_init 45 = .ok (.dup, 1) := by decide +kernel
theorem dX11_init_46 : decode cX11_init 46 = .ok (.aload_n 0, 1) := by decide +kernel
theorem dX11_init_47 : decode cX11_init 47 = .ok (.getfield 10, 3) := by decide +kernel
theorem dX11_init_50 : decode cX11_init 50 = .ok (.invokespecial 34, 3) := by decide +kernel
theorem dX11_init_53 : decode cX11_init 53 = .ok (.putfield 37, 3) := by decide +kernel
theorem dX11_init_56 : decode cX11_init 56 = .ok (.aload_n 0, 1) := by decide +kernel
theorem dX11_init_57 : decode cX11_init 57 = .ok (.new 41, 3) := by decide +kernel
theorem dX11_init_60 : decode cX11_init 60 = .ok (.dup, 1) := by decide +kernel
theorem dX11_init_61 : decode cX11_init 61 = .ok (.aload_n 0, 1) := by decide +kernel
theorem dX11_init_62 : decode cX11_init 62 = .ok (.getfield 10, 3) := by decide +kernel
theorem dX11_init_65 : decode cX11_init 65 = .ok (.invokespecial 43, 3) := by decide +kernel
theorem dX11_init_68 : decode cX11_init 68 = .ok (.putfield 44, 3) := by decide +kernel
theorem dX11_init_71 : decode cX11_init 71 = .ok (.aload_n 0, 1) := by decide +kernel
theorem dX11_init_72 : decode cX11_init 72 = .ok (.new 48, 3) := by decide +kernel
theorem dX11_init_75 : decode cX11_init 75 = .ok (.dup, 1) := by decide +kernel
theorem dX11_init_76 : decode cX11_init 76 = .ok (.aload_n 0, 1) := by decide +kernel
theorem dX11_init_77 : decode cX11_init 77 = .ok (.getfield 10, 3) := by decide +kernel
theorem dX11_init_80 : decode cX11_init 80 = .ok (.invokespecial 50, 3) := by decide +kernel
theorem dX11_init_83 : decode cX11_init 83 = .ok (.putfield 51, 3) := by decide +kernel
theorem dX11_init_86 : decode cX11_init 86 = .ok (.aload_n 0, 1) := by decide +kernel
theorem dX11_init_87 : decode cX11_init 87 = .ok (.new 55, 3) := by decide +kernel
theorem dX11_init_90 : decode cX11_init 90 = .ok (.dup, 1) := by decide +kernel
theorem dX11_init_91 : decode cX11_init 91 = .ok (.aload_n 0, 1) := by decide +kernel
theorem dX11_init_92 : decode cX11_init 92 = .ok (.getfield 10, 3) := by decide +kernel
theorem dX11_init_95 : decode cX11_init 95 = .ok (.aload_n 0, 1) := by decide +kernel
theorem dX11_init_96 : decode cX11_init 96 = .ok (.getfield 51, 3) := by decide +kernel
theorem dX11_init_99 : decode cX11_init 99 = .ok (.invokespecial 57, 3) := by decide +kernel
theorem dX11_init_102 : decode cX11_init 102 = .ok (.putfield 60, 3) := by decide +kernel
theorem dX11_init_105 : decode cX11_init 105 = .ok (.aload_n 0, 1) := by decide +kernel
theorem dX11_init_106 : decode cX11_init 106 = .ok (.new 64, 3) := by decide +kernel
theorem dX11_init_109 : decode cX11_init 109 = .ok (.dup, 1) := by decide +kernel
theorem dX11_init_110 : decode cX11_init 110 = .ok (.aload_n 0, 1) := by decide +kernel
theorem dX11_init_111 : decode cX11_init 111 = .ok (.getfield 10, 3) := by decide +kernel
theorem dX11_init_114 : decode cX11_init 114 = .ok (.aload_n 0, 1) := by decide +kernel
theorem dX11_init_115 : decode cX11_init 115 = .ok (.getfield 51, 3) := by decide +kernel
theorem dX11_init_118 : decode cX11_init 118 = .ok (.invokespecial 66, 3) := by decide +kernel
theorem dX11_init_121 : decode cX11_init 121 = .ok (.putfield 67, 3) := by decide +kernel
theorem dX11_init_124 : decode cX11_init 124 = .ok (.aload_n 0, 1) := by decide +kernel
theorem dX11_init_125 : decode cX11_init 125 = .ok (.new 71, 3) := by decide +kernel
theorem dX11_init_128 : decode cX11_init 128 = .ok (.dup, 1) := by decide +kernel
theorem dX11_init_129 : decode cX11_init 129 = .ok (.aload_n 0, 1) := by decide +kernel
theorem dX11_init_130 : decode cX11_init 130 = .ok (.getfield 10, 3) := by decide +kernel
theorem dX11_init_133 : decode cX11_init 133 = .ok (.aload_n 0, 1) := by decide +kernel
theorem dX11_init_134 : decode cX11_init 134 = .ok (.getfield 51, 3) := by decide +kernel
theorem dX11_init_137 : decode cX11_init 137 = .ok (.invokespecial 73, 3) := by decide +kernel
theorem dX11_init_140 : decode cX11_init 140 = .ok (.putfield 74, 3) := by decide +kernel
theorem dX11_init_143 : decode cX11_init 143 = .ok (.aload_n 0, 1) := by decide +kernel
theorem dX11_init_144 : decode cX11_init 144 = .ok (.new 78, 3) := by decide +kernel
theorem dX11_init_147 : decode cX11_init 147 = .ok (.dup, 1) := by decide +kernel
theorem dX11_init_148 : decode cX11_init 148 = .ok (.invokespecial 80, 3) := by decide +kernel
theorem dX11_init_151 : decode cX11_init 151 = .ok (.putfield 81, 3) := by decide +kernel
theorem dX11_init_154 : decode cX11_init 154 = .ok (.aload_n 0, 1) := by decide +kernel
theorem dX11_init_155 : decode cX11_init 155 = .ok (.new 85, 3) := by decide +kernel
theorem dX11_init_158 : decode cX11_init 158 = .ok (.dup, 1) := by decide +kernel
theorem dX11_init_159 : decode cX11_init 159 = .ok (.invokespecial 87, 3) := by decide +kernel
theorem dX11_init_162 : decode cX11_init 162 = .ok (.putfield 88, 3) := by decide +kernel
theorem dX11_init_165 : decode cX11_init 165 = .ok (.return_, 1) := by decide +kernel
theorem dX11_feed_0 : decode cX11_feed 0 = .ok (.aload_n 0, 1) := by decide +kernel
theorem dX11_feed_1 : decode cX11_feed 1 = .ok (.getfield 19, 3) := by decide +kernel
theorem dX11_feed_4 : decode cX11_feed 4 = .ok (.getfield 92, 3) := by decide +kernel
theorem dX11_feed_7 : decode cX11_feed 7 = .ok (.bipush 20, 2) := by decide +kernel
theorem dX11_feed_9 : decode cX11_feed 9 = .ok (.iadd, 1) := by decide +kernel
theorem dX11_feed_10 : decode cX11_feed 10 = .ok (.sipush 3000, 3) := by decide +kernel
theorem dX11_feed_13 : decode cX11_feed 13 = .ok (.if_icmp .le 6, 3) := by decide +kernel
theorem dX11_feed_16 : decode cX11_feed 16 = .ok (.bipush (-4), 2) := by decide +kernel
theorem dX11_feed_18 : decode cX11_feed 18 = .ok (.ireturn, 1) := by decide +kernel
theorem dX11_feed_19 : decode cX11_feed 19 = .ok (.aload_n 0, 1) := by decide +kernel
theorem dX11_feed_20 : decode cX11_feed 20 = .ok (.getfield 19, 3) := by decide +kernel
theorem dX11_feed_23 : decode cX11_feed 23 = .ok (.iload_n 1, 1) := by decide +kernel
theorem dX11_feed_24 : decode cX11_feed 24 = .ok (.invokevirtual 96, 3) := by decide +kernel
theorem dX11_feed_27 : decode cX11_feed 27 = .ok (.aload_n 0, 1) := by decide +kernel
theorem dX11_feed_28 : decode cX11_feed 28 = .ok (.getfield 19, 3) := by decide +kernel
theorem dX11_feed_31 : decode cX11_feed 31 = .ok (.iload_n 2, 1) := by decide +kernel
theorem dX11_feed_32 : decode cX11_feed 32 = .ok (.invokevirtual 96, 3) := by decide +kernel
theorem dX11_feed_35 : decode cX11_feed 35 = .ok (.aload_n 0, 1) := by decide +kernel
theorem dX11_feed_36 : decode cX11_feed 36 = .ok (.getfield 19, 3) := by decide +kernel
theorem dX11_feed_39 : decode cX11_feed 39 = .ok (.iload_n 3, 1) := by decide +kernel
theorem dX11_feed_40 : decode cX11_feed 40 = .ok (.invokevirtual 96, 3) := by decide +kernel
theorem dX11_feed_43 : decode cX11_feed 43 = .ok (.aload_n 0, 1) := by decide +kernel
theorem dX11_feed_44 : decode cX11_feed 44 = .ok (.getfield 19, 3) := by decide +kernel
theorem dX11_feed_47 : decode cX11_feed 47 = .ok (.iload 4, 2) := by decide +kernel
theorem dX11_feed_49 : decode cX11_feed 49 = .ok (.invokevirtual 96, 3) := by decide +kernel
theorem dX11_feed_52 : decode cX11_feed 52 = .ok (.aload_n 0, 1) := by decide +kernel
theorem dX11_feed_53 : decode cX11_feed 53 = .ok (.getfield 19, 3) := by decide +kernel
theorem dX11_feed_56 : decode cX11_feed 56 = .ok (.iload 5, 2) := by decide +kernel
theorem dX11_feed_58 : decode cX11_feed 58 = .ok (.invokevirtual 96, 3) := by decide +kernel
theorem dX11_feed_61 : decode cX11_feed 61 = .ok (.aload_n 0, 1) := by decide +kernel
theorem dX11_feed_62 : decode cX11_feed 62 = .ok (.getfield 19, 3) := by decide +kernel
theorem dX11_feed_65 : decode cX11_feed 65 = .ok (.getfield 92, 3) := by decide +kernel
theorem dX11_feed_68 : decode cX11_feed 68 = .ok (.ireturn, 1) := by decide +kernel
theorem dX11_end_0 : decode cX11_end 0 = .ok (.iload_n 1, 1) := by decide +kernel
theorem dX11_end_1 : decode cX11_end 1 = .ok (.ifCond .lt 14, 3) := by decide +kernel
theorem dX11_end_4 : decode cX11_end 4 = .ok (.iload_n 1, 1) := by decide +kernel
theorem dX11_end_5 : decode cX11_end 5 = .ok (.aload_n 0, 1) := by decide +kernel
theorem dX11_end_6 : decode cX11_end 6 = .ok (.getfield 19, 3) := by decide +kernel
theorem dX11_end_9 : decode cX11_end 9 = .ok (.getfield 92, 3) := by decide +kernel
theorem dX11_end_12 : decode cX11_end 12 = .ok (.if_icmp .le 5, 3) := by decide +kernel
theorem dX11_end_15 : decode cX11_end 15 = .ok (.iconst (-1), 1) := by decide +kernel
theorem dX11_end_16 : decode cX11_end 16 = .ok (.ireturn, 1) := by decide +kernel
theorem dX11_end_17 : decode cX11_end 17 = .ok (.aload_n 0, 1) := by decide +kernel
theorem dX11_end_18 : decode cX11_end 18 = .ok (.getfield 19, 3) := by decide +kernel
theorem dX11_end_21 : decode cX11_end 21 = .ok (.iload_n 1, 1) := by decide +kernel
theorem dX11_end_22 : decode cX11_end 22 = .ok (.putfield 92, 3) := by decide +kernel
theorem dX11_end_25 : decode cX11_end 25 = .ok (.iload_n 1, 1) := by decide +kernel
theorem dX11_end_26 : decode cX11_end 26 = .ok (.ireturn, 1) := by decide +kernel
theorem dX11_laws_0 : decode cX11_laws 0 = .ok (.aload_n 0, 1) := by decide +kernel
theorem dX11_laws_1 : decode cX11_laws 1 = .ok (.getfield 60, 3) := by decide +kernel
theorem dX11_laws_4 : decode cX11_laws 4 = .ok (.invokevirtual 100, 3) := by decide +kernel
theorem dX11_laws_7 : decode cX11_laws 7 = .ok (.ifCond .le 14, 3) := by decide +kernel
theorem dX11_laws_10 : decode cX11_laws 10 = .ok (.aload_n 0, 1) := by decide +kernel
theorem dX11_laws_11 : decode cX11_laws 11 = .ok (.getfield 19, 3) := by decide +kernel
theorem dX11_laws_14 : decode cX11_laws 14 = .ok (.iconst 0, 1) := by decide +kernel
theorem dX11_laws_15 : decode cX11_laws 15 = .ok (.putfield 92, 3) := by decide +kernel
theorem dX11_laws_18 : decode cX11_laws 18 = .ok (.bipush (-3), 2) := by decide +kernel
theorem dX11_laws_20 : decode cX11_laws 20 = .ok (.ireturn, 1) := by decide +kernel
theorem dX11_laws_21 : decode cX11_laws 21 = .ok (.aload_n 0, 1) := by decide +kernel
theorem dX11_laws_22 : decode cX11_laws 22 = .ok (.getfield 28, 3) := by decide +kernel
theorem dX11_laws_25 : decode cX11_laws 25 = .ok (.invokevirtual 104, 3) := by decide +kernel
theorem dX11_laws_28 : decode cX11_laws 28 = .ok (.istore_n 1, 1) := by decide +kernel
theorem dX11_laws_29 : decode cX11_laws 29 = .ok (.aload_n 0, 1) := by decide +kernel
theorem dX11_laws_30 : decode cX11_laws 30 = .ok (.getfield 19, 3) := by decide +kernel
theorem dX11_laws_33 : decode cX11_laws 33 = .ok (.iconst 0, 1) := by decide +kernel
theorem dX11_laws_34 : decode cX11_laws 34 = .ok (.putfield 92, 3) := by decide +kernel
theorem dX11_laws_37 : decode cX11_laws 37 = .ok (.iload_n 1, 1) := by decide +kernel
theorem dX11_laws_38 : decode cX11_laws 38 = .ok (.ifCond .ne 5, 3) := by decide +kernel
theorem dX11_laws_41 : decode cX11_laws 41 = .ok (.iconst (-1), 1) := by decide +kernel
theorem dX11_laws_42 : decode cX11_laws 42 = .ok (.ireturn, 1) := by decide +kernel
theorem dX11_laws_43 : decode cX11_laws 43 = .ok (.aload_n 0, 1) := by decide +kernel
theorem dX11_laws_44 : decode cX11_laws 44 = .ok (.getfield 10, 3) := by decide +kernel
theorem dX11_laws_47 : decode cX11_laws 47 = .ok (.invokevirtual 108, 3) := by decide +kernel
theorem dX11_laws_50 : decode cX11_laws 50 = .ok (.ifCond .eq 6, 3) := by decide +kernel
theorem dX11_laws_53 : decode cX11_laws 53 = .ok (.bipush (-4), 2) := by decide +kernel
theorem dX11_laws_55 : decode cX11_laws 55 = .ok (.ireturn, 1) := by decide +kernel
theorem dX11_laws_56 : decode cX11_laws 56 = .ok (.aload_n 0, 1) := by decide +kernel
theorem dX11_laws_57 : decode cX11_laws 57 = .ok (.getfield 10, 3) := by decide +kernel
theorem dX11_laws_60 : decode cX11_laws 60 = .ok (.invokevirtual 111, 3) := by decide +kernel
theorem dX11_laws_63 : decode cX11_laws 63 = .ok (.aload_n 0, 1) := by decide +kernel
theorem dX11_laws_64 : decode cX11_laws 64 = .ok (.aload_n 0, 1) := by decide +kernel
theorem dX11_laws_65 : decode cX11_laws 65 = .ok (.getfield 28, 3) := by decide +kernel
theorem dX11_laws_68 : decode cX11_laws 68 = .ok (.invokevirtual 114, 3) := by decide +kernel
theorem dX11_laws_71 : decode cX11_laws 71 = .ok (.invokevirtual 118, 3) := by decide +kernel
theorem dX11_laws_74 : decode cX11_laws 74 = .ok (.aload_n 0, 1) := by decide +kernel
theorem dX11_laws_75 : decode cX11_laws 75 = .ok (.invokevirtual 122, 3) := by decide +kernel
theorem dX11_laws_78 : decode cX11_laws 78 = .ok (.getfield 125, 3) := by decide +kernel
theorem dX11_laws_81 : decode cX11_laws 81 = .ok (.ireturn, 1) := by decide +kernel
theorem dX11_fault_0 : decode cX11_fault 0 = .ok (.iload_n 1, 1) := by decide +kernel
theorem dX11_fault_1 : decode cX11_fault 1 = .ok (.ifCond .ne 11, 3) := by decide +kernel
theorem dX11_fault_4 : decode cX11_fault 4 = .ok (.aload_n 0, 1) := by decide +kernel
theorem dX11_fault_5 : decode cX11_fault 5 = .ok (.getfield 28, 3) := by decide +kernel
theorem dX11_fault_8 : decode cX11_fault 8 = .ok (.getfield 128, 3) := by decide +kernel
theorem dX11_fault_11 : decode cX11_fault 11 = .ok (.ireturn, 1) := by decide +kernel
theorem dX11_fault_12 : decode cX11_fault 12 = .ok (.iload_n 1, 1) := by decide +kernel
theorem dX11_fault_13 : decode cX11_fault 13 = .ok (.iconst 1, 1) := by decide +kernel
theorem dX11_fault_14 : decode cX11_fault 14 = .ok (.if_icmp .ne 13, 3) := by decide +kernel
theorem dX11_fault_17 : decode cX11_fault 17 = .ok (.aload_n 0, 1) := by decide +kernel
theorem dX11_fault_18 : decode cX11_fault 18 = .ok (.getfield 28, 3) := by decide +kernel
theorem dX11_fault_21 : decode cX11_fault 21 = .ok (.getfield 131, 3) := by decide +kernel
theorem dX11_fault_24 : decode cX11_fault 24 = .ok (.goto 4, 3) := by decide +kernel
theorem dX11_fault_27 : decode cX11_fault 27 = .ok (.iconst (-1), 1) := by decide +kernel
theorem dX11_fault_28 : decode cX11_fault 28 = .ok (.ireturn, 1) := by decide +kernel
theorem dX11_lawsNow_0 : decode cX11_lawsNow 0 = .ok (.aload_n 0, 1) := by decide +kernel
theorem dX11_lawsNow_1 : decode cX11_lawsNow 1 = .ok (.getfield 10, 3) := by decide +kernel
theorem dX11_lawsNow_4 : decode cX11_lawsNow 4 = .ok (.iconst 3, 1) := by decide +kernel
theorem dX11_lawsNow_5 : decode cX11_lawsNow 5 = .ok (.invokevirtual 134, 3) := by decide +kernel
theorem dX11_lawsNow_8 : decode cX11_lawsNow 8 = .ok (.iconst 1, 1) := by decide +kernel
theorem dX11_lawsNow_9 : decode cX11_lawsNow 9 = .ok (.isub, 1) := by decide +kernel
theorem dX11_lawsNow_10 : decode cX11_lawsNow 10 = .ok (.istore_n 1, 1) := by decide +kernel
theorem dX11_lawsNow_11 : decode cX11_lawsNow 11 = .ok (.iload_n 1, 1) := by decide +kernel
theorem dX11_lawsNow_12 : decode cX11_lawsNow 12 = .ok (.ifCond .lt 28, 3) := by decide +kernel
theorem dX11_lawsNow_15 : decode cX11_lawsNow 15 = .ok (.iload_n 1, 1) := by decide +kernel
theorem dX11_lawsNow_16 : decode cX11_lawsNow 16 = .ok (.aload_n 0, 1) := by decide +kernel
theorem dX11_lawsNow_17 : decode cX11_lawsNow 17 = .ok (.getfield 88, 3) := by decide +kernel
theorem dX11_lawsNow_20 : decode cX11_lawsNow 20 = .ok (.invokevirtual 138, 3) := by decide +kernel
theorem dX11_lawsNow_23 : decode cX11_lawsNow 23 = .ok (.if_icmp .ge 17, 3) := by decide +kernel
theorem dX11_lawsNow_26 : decode cX11_lawsNow 26 = .ok (.aload_n 0, 1) := by decide +kernel
theorem dX11_lawsNow_27 : decode cX11_lawsNow 27 = .ok (.getfield 88, 3) := by decide +kernel
theorem dX11_lawsNow_30 : decode cX11_lawsNow 30 = .ok (.iload_n 1, 1) := by decide +kernel
theorem dX11_lawsNow_31 : decode cX11_lawsNow 31 = .ok (.invokevirtual 153, 3) := by decide +kernel
theorem dX11_lawsNow_34 : decode cX11_lawsNow 34 = .ok (.checkcast 78, 3) := by decide +kernel
theorem dX11_lawsNow_37 : decode cX11_lawsNow 37 = .ok (.goto 7, 3) := by decide +kernel
theorem dX11_lawsNow_40 : decode cX11_lawsNow 40 = .ok (.aload_n 0, 1) := by decide +kernel
theorem dX11_lawsNow_41 : decode cX11_lawsNow 41 = .ok (.getfield 81, 3) := by decide +kernel
theorem dX11_lawsNow_44 : decode cX11_lawsNow 44 = .ok (.areturn, 1) := by decide +kernel
theorem dX11_limit_0 : decode cX11_limit 0 = .ok (.iload_n 1, 1) := by decide +kernel
theorem dX11_limit_1 : decode cX11_limit 1 = .ok (.invokestatic 157, 3) := by decide +kernel
theorem dX11_limit_4 : decode cX11_limit 4 = .ok (.ifCond .eq 22, 3) := by decide +kernel
theorem dX11_limit_7 : decode cX11_limit 7 = .ok (.iload_n 2, 1) := by decide +kernel
theorem dX11_limit_8 : decode cX11_limit 8 = .ok (.invokestatic 161, 3) := by decide +kernel
theorem dX11_limit_11 : decode cX11_limit 11 = .ok (.ifCond .eq 15, 3) := by decide +kernel
theorem dX11_limit_14 : decode cX11_limit 14 = .ok (.iload_n 3, 1) := by decide +kernel
theorem dX11_limit_15 : decode cX11_limit 15 = .ok (.invokestatic 161, 3) := by decide +kernel
theorem dX11_limit_18 : decode cX11_limit 18 = .ok (.ifCond .eq 8, 3) := by decide +kernel
theorem dX11_limit_21 : decode cX11_limit 21 = .ok (.iload_n 2, 1) := by decide +kernel
theorem dX11_limit_22 : decode cX11_limit 22 = .ok (.iload_n 3, 1) := by decide +kernel
theorem dX11_limit_23 : decode cX11_limit 23 = .ok (.if_icmp .le 6, 3) := by decide +kernel
theorem dX11_limit_26 : decode cX11_limit 26 = .ok (.bipush (-2), 2) := by decide +kernel
theorem dX11_limit_28 : decode cX11_limit 28 = .ok (.ireturn, 1) := by decide +kernel
theorem dX11_limit_29 : decode cX11_limit 29 = .ok (.aload_n 0, 1) := by decide +kernel
theorem dX11_limit_30 : decode cX11_limit 30 = .ok (.getfield 51, 3) := by decide +kernel
theorem dX11_limit_33 : decode cX11_limit 33 = .ok (.iload_n 1, 1) := by decide +kernel
theorem dX11_limit_34 : decode cX11_limit 34 = .ok (.invokevirtual 164, 3) := by decide +kernel
theorem dX11_limit_37 : decode cX11_limit 37 = .ok (.ifCond .ne 14, 3) := by decide +kernel
theorem dX11_limit_40 : decode cX11_limit 40 = .ok (.aload_n 0, 1) := by decide +kernel
theorem dX11_limit_41 : decode cX11_limit 41 = .ok (.getfield 37, 3) := by decide +kernel
theorem dX11_limit_44 : decode cX11_limit 44 = .ok (.iload_n 1, 1) := by decide +kernel
theorem dX11_limit_45 : decode cX11_limit 45 = .ok (.invokevirtual 167, 3) := by decide +kernel
theorem dX11_limit_48 : decode cX11_limit 48 = .ok (.ifCond .eq 6, 3) := by decide +kernel
theorem dX11_limit_51 : decode cX11_limit 51 = .ok (.bipush (-3), 2) := by decide +kernel
theorem dX11_limit_53 : decode cX11_limit 53 = .ok (.ireturn, 1) := by decide +kernel
theorem dX11_limit_54 : decode cX11_limit 54 = .ok (.aload_n 0, 1) := by decide +kernel
theorem dX11_limit_55 : decode cX11_limit 55 = .ok (.getfield 10, 3) := by decide +kernel
theorem dX11_limit_58 : decode cX11_limit 58 = .ok (.invokevirtual 108, 3) := by decide +kernel
theorem dX11_limit_61 : decode cX11_limit 61 = .ok (.ifCond .eq 6, 3) := by decide +kernel
theorem dX11_limit_64 : decode cX11_limit 64 = .ok (.bipush (-4), 2) := by decide +kernel
theorem dX11_limit_66 : decode cX11_limit 66 = .ok (.ireturn, 1) := by decide +kernel
theorem dX11_limit_67 : decode cX11_limit 67 = .ok (.aload_n 0, 1) := by decide +kernel
theorem dX11_limit_68 : decode cX11_limit 68 = .ok (.getfield 10, 3) := by decide +kernel
theorem dX11_limit_71 : decode cX11_limit 71 = .ok (.invokevirtual 111, 3) := by decide +kernel
theorem dX11_limit_74 : decode cX11_limit 74 = .ok (.aload_n 0, 1) := by decide +kernel
theorem dX11_limit_75 : decode cX11_limit 75 = .ok (.getfield 10, 3) := by decide +kernel
theorem dX11_limit_78 : decode cX11_limit 78 = .ok (.iload_n 1, 1) := by decide +kernel
theorem dX11_limit_79 : decode cX11_limit 79 = .ok (.iconst 0, 1) := by decide +kernel
theorem dX11_limit_80 : decode cX11_limit 80 = .ok (.invokestatic 170, 3) := by decide +kernel
theorem dX11_limit_83 : decode cX11_limit 83 = .ok (.iload_n 2, 1) := by decide +kernel
theorem dX11_limit_84 : decode cX11_limit 84 = .ok (.invokevirtual 149, 3) := by decide +kernel
theorem dX11_limit_87 : decode cX11_limit 87 = .ok (.aload_n 0, 1) := by decide +kernel
theorem dX11_limit_88 : decode cX11_limit 88 = .ok (.getfield 10, 3) := by decide +kernel
theorem dX11_limit_91 : decode cX11_limit 91 = .ok (.iload_n 1, 1) := by decide +kernel
theorem dX11_limit_92 : decode cX11_limit 92 = .ok (.iconst 1, 1) := by decide +kernel
theorem dX11_limit_93 : decode cX11_limit 93 = .ok (.invokestatic 170, 3) := by decide +kernel
theorem dX11_limit_96 : decode cX11_limit 96 = .ok (.iload_n 3, 1) := by decide +kernel
theorem dX11_limit_97 : decode cX11_limit 97 = .ok (.invokevirtual 149, 3) := by decide +kernel
theorem dX11_limit_100 : decode cX11_limit 100 = .ok (.iconst 1, 1) := by decide +kernel
theorem dX11_limit_101 : decode cX11_limit 101 = .ok (.ireturn, 1) := by decide +kernel
theorem dX11_enter_0 : decode cX11_enter 0 = .ok (.iload_n 1, 1) := by decide +kernel
theorem dX11_enter_1 : decode cX11_enter 1 = .ok (.ifCond .lt 16, 3) := by decide +kernel
theorem dX11_enter_4 : decode cX11_enter 4 = .ok (.iload_n 1, 1) := by decide +kernel
theorem dX11_enter_5 : decode cX11_enter 5 = .ok (.bipush 16, 2) := by decide +kernel
theorem dX11_enter_7 : decode cX11_enter 7 = .ok (.if_icmp .ge 10, 3) := by decide +kernel
theorem dX11_enter_10 : decode cX11_enter 10 = .ok (.iload_n 2, 1) := by decide +kernel
theorem dX11_enter_11 : decode cX11_enter 11 = .ok (.invokestatic 157, 3) := by decide +kernel
theorem dX11_enter_14 : decode cX11_enter 14 = .ok (.ifCond .ne 6, 3) := by decide +kernel
theorem dX11_enter_17 : decode cX11_enter 17 = .ok (.bipush (-2), 2) := by decide +kernel
theorem dX11_enter_19 : decode cX11_enter 19 = .ok (.ireturn, 1) := by decide +kernel
theorem dX11_enter_20 : decode cX11_enter 20 = .ok (.aload_n 0, 1) := by decide +kernel
theorem dX11_enter_21 : decode cX11_enter 21 = .ok (.getfield 51, 3) := by decide +kernel
theorem dX11_enter_24 : decode cX11_enter 24 = .ok (.iload_n 2, 1) := by decide +kernel
theorem dX11_enter_25 : decode cX11_enter 25 = .ok (.invokevirtual 164, 3) := by decide +kernel
theorem dX11_enter_28 : decode cX11_enter 28 = .ok (.ifCond .eq 6, 3) := by decide +kernel
theorem dX11_enter_31 : decode cX11_enter 31 = .ok (.bipush (-3), 2) := by decide +kernel
theorem dX11_enter_33 : decode cX11_enter 33 = .ok (.ireturn, 1) := by decide +kernel
theorem dX11_enter_34 : decode cX11_enter 34 = .ok (.aload_n 0, 1) := by decide +kernel
theorem dX11_enter_35 : decode cX11_enter 35 = .ok (.getfield 37, 3) := by decide +kernel
theorem dX11_enter_38 : decode cX11_enter 38 = .ok (.invokevirtual 174, 3) := by decide +kernel
theorem dX11_enter_41 : decode cX11_enter 41 = .ok (.bipush 96, 2) := by decide +kernel
theorem dX11_enter_43 : decode cX11_enter 43 = .ok (.if_icmp .ge 13, 3) := by decide +kernel
theorem dX11_enter_46 : decode cX11_enter 46 = .ok (.aload_n 0, 1) := by decide +kernel
theorem dX11_enter_47 : decode cX11_enter 47 = .ok (.getfield 10, 3) := by decide +kernel
theorem dX11_enter_50 : decode cX11_enter 50 = .ok (.invokevirtual 108, 3) := by decide +kernel
theorem dX11_enter_53 : decode cX11_enter 53 = .ok (.ifCond .eq 6, 3) := by decide +kernel
theorem dX11_enter_56 : decode cX11_enter 56 = .ok (.bipush (-4), 2) := by decide +kernel
theorem dX11_enter_58 : decode cX11_enter 58 = .ok (.ireturn, 1) := by decide +kernel
theorem dX11_enter_59 : decode cX11_enter 59 = .ok (.aload_n 0, 1) := by decide +kernel
theorem dX11_enter_60 : decode cX11_enter 60 = .ok (.getfield 10, 3) := by decide +kernel
theorem dX11_enter_63 : decode cX11_enter 63 = .ok (.invokevirtual 111, 3) := by decide +kernel
theorem dX11_enter_66 : decode cX11_enter 66 = .ok (.aload_n 0, 1) := by decide +kernel
theorem dX11_enter_67 : decode cX11_enter 67 = .ok (.getfield 37, 3) := by decide +kernel
theorem dX11_enter_70 : decode cX11_enter 70 = .ok (.iload_n 1, 1) := by decide +kernel
theorem dX11_enter_71 : decode cX11_enter 71 = .ok (.iload_n 2, 1) := by decide +kernel
theorem dX11_enter_72 : decode cX11_enter 72 = .ok (.invokevirtual 177, 3) := by decide +kernel
theorem dX11_enter_75 : decode cX11_enter 75 = .ok (.ireturn, 1) := by decide +kernel
theorem dX11_weigh_0 : decode cX11_weigh 0 = .ok (.aload_n 0, 1) := by decide +kernel
theorem dX11_weigh_1 : decode cX11_weigh 1 = .ok (.getfield 37, 3) := by decide +kernel
theorem dX11_weigh_4 : decode cX11_weigh 4 = .ok (.iload_n 1, 1) := by decide +kernel
theorem dX11_weigh_5 : decode cX11_weigh 5 = .ok (.invokevirtual 179, 3) := by decide +kernel
theorem dX11_weigh_8 : decode cX11_weigh 8 = .ok (.ifCond .eq 10, 3) := by decide +kernel
theorem dX11_weigh_11 : decode cX11_weigh 11 = .ok (.iload_n 2, 1) := by decide +kernel
theorem dX11_weigh_12 : decode cX11_weigh 12 = .ok (.invokestatic 161, 3) := by decide +kernel
theorem dX11_weigh_15 : decode cX11_weigh 15 = .ok (.ifCond .ne 6, 3) := by decide +kernel
theorem dX11_weigh_18 : decode cX11_weigh 18 = .ok (.bipush (-2), 2) := by decide +kernel
theorem dX11_weigh_20 : decode cX11_weigh 20 = .ok (.ireturn, 1) := by decide +kernel
theorem dX11_weigh_21 : decode cX11_weigh 21 = .ok (.aload_n 0, 1) := by decide +kernel
theorem dX11_weigh_22 : decode cX11_weigh 22 = .ok (.getfield 51, 3) := by decide +kernel
theorem dX11_weigh_25 : decode cX11_weigh 25 = .ok (.aload_n 0, 1) := by decide +kernel
theorem dX11_weigh_26 : decode cX11_weigh 26 = .ok (.getfield 37, 3) := by decide +kernel
theorem dX11_weigh_29 : decode cX11_weigh 29 = .ok (.iload_n 1, 1) := by decide +kernel
theorem dX11_weigh_30 : decode cX11_weigh 30 = .ok (.invokevirtual 182, 3) := by decide +kernel
theorem dX11_weigh_33 : decode cX11_weigh 33 = .ok (.invokevirtual 164, 3) := by decide +kernel
theorem dX11_weigh_36 : decode cX11_weigh 36 = .ok (.ifCond .eq 6, 3) := by decide +kernel
theorem dX11_weigh_39 : decode cX11_weigh 39 = .ok (.bipush (-3), 2) := by decide +kernel
theorem dX11_weigh_41 : decode cX11_weigh 41 = .ok (.ireturn, 1) := by decide +kernel
theorem dX11_weigh_42 : decode cX11_weigh 42 = .ok (.aload_n 0, 1) := by decide +kernel
theorem dX11_weigh_43 : decode cX11_weigh 43 = .ok (.getfield 10, 3) := by decide +kernel
theorem dX11_weigh_46 : decode cX11_weigh 46 = .ok (.invokevirtual 108, 3) := by decide +kernel
theorem dX11_weigh_49 : decode cX11_weigh 49 = .ok (.ifCond .eq 6, 3) := by decide +kernel
theorem dX11_weigh_52 : decode cX11_weigh 52 = .ok (.bipush (-4), 2) := by decide +kernel
theorem dX11_weigh_54 : decode cX11_weigh 54 = .ok (.ireturn, 1) := by decide +kernel
theorem dX11_weigh_55 : decode cX11_weigh 55 = .ok (.aload_n 0, 1) := by decide +kernel
theorem dX11_weigh_56 : decode cX11_weigh 56 = .ok (.getfield 10, 3) := by decide +kernel
theorem dX11_weigh_59 : decode cX11_weigh 59 = .ok (.invokevirtual 111, 3) := by decide +kernel
theorem dX11_weigh_62 : decode cX11_weigh 62 = .ok (.aload_n 0, 1) := by decide +kernel
theorem dX11_weigh_63 : decode cX11_weigh 63 = .ok (.getfield 37, 3) := by decide +kernel
theorem dX11_weigh_66 : decode cX11_weigh 66 = .ok (.iload_n 1, 1) := by decide +kernel
theorem dX11_weigh_67 : decode cX11_weigh 67 = .ok (.iload_n 2, 1) := by decide +kernel
theorem dX11_weigh_68 : decode cX11_weigh 68 = .ok (.invokevirtual 185, 3) := by decide +kernel
theorem dX11_weigh_71 : decode cX11_weigh 71 = .ok (.ifCond .eq 7, 3) := by decide +kernel
theorem dX11_weigh_74 : decode cX11_weigh 74 = .ok (.iconst 1, 1) := by decide +kernel
theorem dX11_weigh_75 : decode cX11_weigh 75 = .ok (.goto 4, 3) := by decide +kernel
theorem dX11_weigh_78 : decode cX11_weigh 78 = .ok (.iconst 0, 1) := by decide +kernel
theorem dX11_weigh_79 : decode cX11_weigh 79 = .ok (.ireturn, 1) := by decide +kernel
theorem dX11_seed_0 : decode cX11_seed 0 = .ok (.aload_n 0, 1) := by decide +kernel
theorem dX11_seed_1 : decode cX11_seed 1 = .ok (.getfield 37, 3) := by decide +kernel
theorem dX11_seed_4 : decode cX11_seed 4 = .ok (.iload_n 1, 1) := by decide +kernel
theorem dX11_seed_5 : decode cX11_seed 5 = .ok (.invokevirtual 179, 3) := by decide +kernel
theorem dX11_seed_8 : decode cX11_seed 8 = .ok (.ifCond .eq 13, 3) := by decide +kernel
theorem dX11_seed_11 : decode cX11_seed 11 = .ok (.iload_n 2, 1) := by decide +kernel
theorem dX11_seed_12 : decode cX11_seed 12 = .ok (.ifCond .lt 9, 3) := by decide +kernel
theorem dX11_seed_15 : decode cX11_seed 15 = .ok (.iload_n 2, 1) := by decide +kernel
theorem dX11_seed_16 : decode cX11_seed 16 = .ok (.bipush 8, 2) := by decide +kernel
theorem dX11_seed_18 : decode cX11_seed 18 = .ok (.if_icmp .le 6, 3) := by decide +kernel
theorem dX11_seed_21 : decode cX11_seed 21 = .ok (.bipush (-2), 2) := by decide +kernel
theorem dX11_seed_23 : decode cX11_seed 23 = .ok (.ireturn, 1) := by decide +kernel
theorem dX11_seed_24 : decode cX11_seed 24 = .ok (.aload_n 0, 1) := by decide +kernel
theorem dX11_seed_25 : decode cX11_seed 25 = .ok (.getfield 51, 3) := by decide +kernel
theorem dX11_seed_28 : decode cX11_seed 28 = .ok (.aload_n 0, 1) := by decide +kernel
theorem dX11_seed_29 : decode cX11_seed 29 = .ok (.getfield 37, 3) := by decide +kernel
theorem dX11_seed_32 : decode cX11_seed 32 = .ok (.iload_n 1, 1) := by decide +kernel
theorem dX11_seed_33 : decode cX11_seed 33 = .ok (.invokevirtual 182, 3) := by decide +kernel
theorem dX11_seed_36 : decode cX11_seed 36 = .ok (.invokevirtual 164, 3) := by decide +kernel
theorem dX11_seed_39 : decode cX11_seed 39 = .ok (.ifCond .ne 15, 3) := by decide +kernel
theorem dX11_seed_42 : decode cX11_seed 42 = .ok (.aload_n 0, 1) := by decide +kernel
theorem dX11_seed_43 : decode cX11_seed 43 = .ok (.getfield 37, 3) := by decide +kernel
theorem dX11_seed_46 : decode cX11_seed 46 = .ok (.iload_n 1, 1) := by decide +kernel
theorem dX11_seed_47 : decode cX11_seed 47 = .ok (.iload_n 2, 1) := by decide +kernel
theorem dX11_seed_48 : decode cX11_seed 48 = .ok (.invokevirtual 189, 3) := by decide +kernel
theorem dX11_seed_51 : decode cX11_seed 51 = .ok (.ifCond .eq 6, 3) := by decide +kernel
theorem dX11_seed_54 : decode cX11_seed 54 = .ok (.bipush (-3), 2) := by decide +kernel
theorem dX11_seed_56 : decode cX11_seed 56 = .ok (.ireturn, 1) := by decide +kernel
theorem dX11_seed_57 : decode cX11_seed 57 = .ok (.aload_n 0, 1) := by decide +kernel
theorem dX11_seed_58 : decode cX11_seed 58 = .ok (.getfield 10, 3) := by decide +kernel
theorem dX11_seed_61 : decode cX11_seed 61 = .ok (.invokevirtual 108, 3) := by decide +kernel
theorem dX11_seed_64 : decode cX11_seed 64 = .ok (.ifCond .eq 6, 3) := by decide +kernel
theorem dX11_seed_67 : decode cX11_seed 67 = .ok (.bipush (-4), 2) := by decide +kernel
theorem dX11_seed_69 : decode cX11_seed 69 = .ok (.ireturn, 1) := by decide +kernel
theorem dX11_seed_70 : decode cX11_seed 70 = .ok (.aload_n 0, 1) := by decide +kernel
theorem dX11_seed_71 : decode cX11_seed 71 = .ok (.getfield 10, 3) := by decide +kernel
theorem dX11_seed_74 : decode cX11_seed 74 = .ok (.invokevirtual 111, 3) := by decide +kernel
theorem dX11_seed_77 : decode cX11_seed 77 = .ok (.aload_n 0, 1) := by decide +kernel
theorem dX11_seed_78 : decode cX11_seed 78 = .ok (.getfield 10, 3) := by decide +kernel
theorem dX11_seed_81 : decode cX11_seed 81 = .ok (.iload_n 1, 1) := by decide +kernel
theorem dX11_seed_82 : decode cX11_seed 82 = .ok (.iconst 4, 1) := by decide +kernel
theorem dX11_seed_83 : decode cX11_seed 83 = .ok (.invokestatic 192, 3) := by decide +kernel
theorem dX11_seed_86 : decode cX11_seed 86 = .ok (.invokevirtual 134, 3) := by decide +kernel
theorem dX11_seed_89 : decode cX11_seed 89 = .ok (.istore_n 3, 1) := by decide +kernel
theorem dX11_seed_90 : decode cX11_seed 90 = .ok (.aload_n 0, 1) := by decide +kernel
theorem dX11_seed_91 : decode cX11_seed 91 = .ok (.getfield 10, 3) := by decide +kernel
theorem dX11_seed_94 : decode cX11_seed 94 = .ok (.iload_n 1, 1) := by decide +kernel
theorem dX11_seed_95 : decode cX11_seed 95 = .ok (.iconst 4, 1) := by decide +kernel
theorem dX11_seed_96 : decode cX11_seed 96 = .ok (.invokestatic 192, 3) := by decide +kernel
theorem dX11_seed_99 : decode cX11_seed 99 = .ok (.iload_n 2, 1) := by decide +kernel
theorem dX11_seed_100 : decode cX11_seed 100 = .ok (.invokevirtual 149, 3) := by decide +kernel
theorem dX11_seed_103 : decode cX11_seed 103 = .ok (.iload_n 3, 1) := by decide +kernel
theorem dX11_seed_104 : decode cX11_seed 104 = .ok (.ireturn, 1) := by decide +kernel
theorem dX11_draw_0 : decode cX11_draw 0 = .ok (.iload_n 1, 1) := by decide +kernel
theorem dX11_draw_1 : decode cX11_draw 1 = .ok (.invokestatic 157, 3) := by decide +kernel
theorem dX11_draw_4 : decode cX11_draw 4 = .ok (.ifCond .ne 6, 3) := by decide +kernel
theorem dX11_draw_7 : decode cX11_draw 7 = .ok (.bipush (-2), 2) := by decide +kernel
theorem dX11_draw_9 : decode cX11_draw 9 = .ok (.ireturn, 1) := by decide +kernel
theorem dX11_draw_10 : decode cX11_draw 10 = .ok (.aload_n 0, 1) := by decide +kernel
theorem dX11_draw_11 : decode cX11_draw 11 = .ok (.getfield 51, 3) := by decide +kernel
theorem dX11_draw_14 : decode cX11_draw 14 = .ok (.iload_n 1, 1) := by decide +kernel
theorem dX11_draw_15 : decode cX11_draw 15 = .ok (.invokevirtual 164, 3) := by decide +kernel
theorem dX11_draw_18 : decode cX11_draw 18 = .ok (.ifCond .eq 6, 3) := by decide +kernel
theorem dX11_draw_21 : decode cX11_draw 21 = .ok (.bipush (-3), 2) := by decide +kernel
theorem dX11_draw_23 : decode cX11_draw 23 = .ok (.ireturn, 1) := by decide +kernel
theorem dX11_draw_24 : decode cX11_draw 24 = .ok (.aload_n 0, 1) := by decide +kernel
theorem dX11_draw_25 : decode cX11_draw 25 = .ok (.getfield 37, 3) := by decide +kernel
theorem dX11_draw_28 : decode cX11_draw 28 = .ok (.iload_n 1, 1) := by decide +kernel
theorem dX11_draw_29 : decode cX11_draw 29 = .ok (.invokevirtual 195, 3) := by decide +kernel
theorem dX11_draw_32 : decode cX11_draw 32 = .ok (.istore_n 2, 1) := by decide +kernel
theorem dX11_draw_33 : decode cX11_draw 33 = .ok (.iload_n 2, 1) := by decide +kernel
theorem dX11_draw_34 : decode cX11_draw 34 = .ok (.iconst 2, 1) := by decide +kernel
theorem dX11_draw_35 : decode cX11_draw 35 = .ok (.if_icmp .lt 9, 3) := by decide +kernel
theorem dX11_draw_38 : decode cX11_draw 38 = .ok (.iload_n 2, 1) := by decide +kernel
theorem dX11_draw_39 : decode cX11_draw 39 = .ok (.bipush 32, 2) := by decide +kernel
theorem dX11_draw_41 : decode cX11_draw 41 = .ok (.if_icmp .le 5, 3) := by decide +kernel
theorem dX11_draw_44 : decode cX11_draw 44 = .ok (.iconst (-1), 1) := by decide +kernel
theorem dX11_draw_45 : decode cX11_draw 45 = .ok (.ireturn, 1) := by decide +kernel
theorem dX11_draw_46 : decode cX11_draw 46 = .ok (.aload_n 0, 1) := by decide +kernel
theorem dX11_draw_47 : decode cX11_draw 47 = .ok (.getfield 10, 3) := by decide +kernel
theorem dX11_draw_50 : decode cX11_draw 50 = .ok (.invokevirtual 108, 3) := by decide +kernel
theorem dX11_draw_53 : decode cX11_draw 53 = .ok (.ifCond .eq 6, 3) := by decide +kernel
theorem dX11_draw_56 : decode cX11_draw 56 = .ok (.bipush (-4), 2) := by decide +kernel
theorem dX11_draw_58 : decode cX11_draw 58 = .ok (.ireturn, 1) := by decide +kernel
theorem dX11_draw_59 : decode cX11_draw 59 = .ok (.aload_n 0, 1) := by decide +kernel
theorem dX11_draw_60 : decode cX11_draw 60 = .ok (.getfield 10, 3) := by decide +kernel
theorem dX11_draw_63 : decode cX11_draw 63 = .ok (.invokevirtual 111, 3) := by decide +kernel
theorem dX11_draw_66 : decode cX11_draw 66 = .ok (.aload_n 0, 1) := by decide +kernel
theorem dX11_draw_67 : decode cX11_draw 67 = .ok (.getfield 44, 3) := by decide +kernel
theorem dX11_draw_70 : decode cX11_draw 70 = .ok (.iload_n 1, 1) := by decide +kernel
theorem dX11_draw_71 : decode cX11_draw 71 = .ok (.iload_n 2, 1) := by decide +kernel
theorem dX11_draw_72 : decode cX11_draw 72 = .ok (.invokevirtual 198, 3) := by decide +kernel
theorem dX11_draw_75 : decode cX11_draw 75 = .ok (.aload_n 0, 1) := by decide +kernel
theorem dX11_draw_76 : decode cX11_draw 76 = .ok (.getfield 51, 3) := by decide +kernel
theorem dX11_draw_79 : decode cX11_draw 79 = .ok (.iload_n 1, 1) := by decide +kernel
theorem dX11_draw_80 : decode cX11_draw 80 = .ok (.invokevirtual 201, 3) := by decide +kernel
theorem dX11_draw_83 : decode cX11_draw 83 = .ok (.aload_n 0, 1) := by decide +kernel
theorem dX11_draw_84 : decode cX11_draw 84 = .ok (.getfield 51, 3) := by decide +kernel
theorem dX11_draw_87 : decode cX11_draw 87 = .ok (.iload_n 1, 1) := by decide +kernel
theorem dX11_draw_88 : decode cX11_draw 88 = .ok (.invokevirtual 204, 3) := by decide +kernel
theorem dX11_draw_91 : decode cX11_draw 91 = .ok (.ireturn, 1) := by decide +kernel
theorem dX11_fighter_0 : decode cX11_fighter 0 = .ok (.aload_n 0, 1) := by decide +kernel
theorem dX11_fighter_1 : decode cX11_fighter 1 = .ok (.getfield 37, 3) := by decide +kernel
theorem dX11_fighter_4 : decode cX11_fighter 4 = .ok (.iload_n 1, 1) := by decide +kernel
theorem dX11_fighter_5 : decode cX11_fighter 5 = .ok (.invokevirtual 179, 3) := by decide +kernel
theorem dX11_fighter_8 : decode cX11_fighter 8 = .ok (.ifCond .ne 5, 3) := by decide +kernel
theorem dX11_fighter_11 : decode cX11_fighter 11 = .ok (.iconst (-1), 1) := by decide +kernel
theorem dX11_fighter_12 : decode cX11_fighter 12 = .ok (.ireturn, 1) := by decide +kernel
theorem dX11_fighter_13 : decode cX11_fighter 13 = .ok (.iload_n 2, 1) := by decide +kernel
theorem dX11_fighter_14 : decode cX11_fighter 14 = .ok (.tableswitch 134 0 6 #[42, 55, 68, 81, 94, 107, 120], 42) := by decide +kernel
theorem dX11_fighter_56 : decode cX11_fighter 56 = .ok (.aload_n 0, 1) := by decide +kernel
theorem dX11_fighter_57 : decode cX11_fighter 57 = .ok (.getfield 10, 3) := by decide +kernel
theorem dX11_fighter_60 : decode cX11_fighter 60 = .ok (.iload_n 1, 1) := by decide +kernel
theorem dX11_fighter_61 : decode cX11_fighter 61 = .ok (.iconst 0, 1) := by decide +kernel
theorem dX11_fighter_62 : decode cX11_fighter 62 = .ok (.invokestatic 192, 3) := by decide +kernel
theorem dX11_fighter_65 : decode cX11_fighter 65 = .ok (.invokevirtual 134, 3) := by decide +kernel
theorem dX11_fighter_68 : decode cX11_fighter 68 = .ok (.ireturn, 1) := by decide +kernel
theorem dX11_fighter_69 : decode cX11_fighter 69 = .ok (.aload_n 0, 1) := by decide +kernel
theorem dX11_fighter_70 : decode cX11_fighter 70 = .ok (.getfield 10, 3) := by decide +kernel
theorem dX11_fighter_73 : decode cX11_fighter 73 = .ok (.iload_n 1, 1) := by decide +kernel
theorem dX11_fighter_74 : decode cX11_fighter 74 = .ok (.iconst 1, 1) := by decide +kernel
theorem dX11_fighter_75 : decode cX11_fighter 75 = .ok (.invokestatic 192, 3) := by decide +kernel
theorem dX11_fighter_78 : decode cX11_fighter 78 = .ok (.invokevirtual 134, 3) := by decide +kernel
theorem dX11_fighter_81 : decode cX11_fighter 81 = .ok (.ireturn, 1) := by decide +kernel
theorem dX11_fighter_82 : decode cX11_fighter 82 = .ok (.aload_n 0, 1) := by decide +kernel
theorem dX11_fighter_83 : decode cX11_fighter 83 = .ok (.getfield 10, 3) := by decide +kernel
theorem dX11_fighter_86 : decode cX11_fighter 86 = .ok (.iload_n 1, 1) := by decide +kernel
theorem dX11_fighter_87 : decode cX11_fighter 87 = .ok (.iconst 2, 1) := by decide +kernel
theorem dX11_fighter_88 : decode cX11_fighter 88 = .ok (.invokestatic 192, 3) := by decide +kernel
theorem dX11_fighter_91 : decode cX11_fighter 91 = .ok (.invokevirtual 134, 3) := by decide +kernel
theorem dX11_fighter_94 : decode cX11_fighter 94 = .ok (.ireturn, 1) := by decide +kernel
theorem dX11_fighter_95 : decode cX11_fighter 95 = .ok (.aload_n 0, 1) := by decide +kernel
theorem dX11_fighter_96 : decode cX11_fighter 96 = .ok (.getfield 10, 3) := by decide +kernel
theorem dX11_fighter_99 : decode cX11_fighter 99 = .ok (.iload_n 1, 1) := by decide +kernel
theorem dX11_fighter_100 : decode cX11_fighter 100 = .ok (.iconst 3, 1) := by decide +kernel
theorem dX11_fighter_101 : decode cX11_fighter 101 = .ok (.invokestatic 192, 3) := by decide +kernel
theorem dX11_fighter_104 : decode cX11_fighter 104 = .ok (.invokevirtual 134, 3) := by decide +kernel
theorem dX11_fighter_107 : decode cX11_fighter 107 = .ok (.ireturn, 1) := by decide +kernel
theorem dX11_fighter_108 : decode cX11_fighter 108 = .ok (.aload_n 0, 1) := by decide +kernel
theorem dX11_fighter_109 : decode cX11_fighter 109 = .ok (.getfield 10, 3) := by decide +kernel
theorem dX11_fighter_112 : decode cX11_fighter 112 = .ok (.iload_n 1, 1) := by decide +kernel
theorem dX11_fighter_113 : decode cX11_fighter 113 = .ok (.iconst 4, 1) := by decide +kernel
theorem dX11_fighter_114 : decode cX11_fighter 114 = .ok (.invokestatic 192, 3) := by decide +kernel
theorem dX11_fighter_117 : decode cX11_fighter 117 = .ok (.invokevirtual 134, 3) := by decide +kernel
theorem dX11_fighter_120 : decode cX11_fighter 120 = .ok (.ireturn, 1) := by decide +kernel
theorem dX11_fighter_121 : decode cX11_fighter 121 = .ok (.aload_n 0, 1) := by decide +kernel
theorem dX11_fighter_122 : decode cX11_fighter 122 = .ok (.getfield 10, 3) := by decide +kernel
theorem dX11_fighter_125 : decode cX11_fighter 125 = .ok (.iload_n 1, 1) := by decide +kernel
theorem dX11_fighter_126 : decode cX11_fighter 126 = .ok (.iconst 5, 1) := by decide +kernel
theorem dX11_fighter_127 : decode cX11_fighter 127 = .ok (.invokestatic 192, 3) := by decide +kernel
theorem dX11_fighter_130 : decode cX11_fighter 130 = .ok (.invokevirtual 134, 3) := by decide +kernel
theorem dX11_fighter_133 : decode cX11_fighter 133 = .ok (.ireturn, 1) := by decide +kernel
theorem dX11_fighter_134 : decode cX11_fighter 134 = .ok (.aload_n 0, 1) := by decide +kernel
theorem dX11_fighter_135 : decode cX11_fighter 135 = .ok (.getfield 10, 3) := by decide +kernel
theorem dX11_fighter_138 : decode cX11_fighter 138 = .ok (.iload_n 1, 1) := by decide +kernel
theorem dX11_fighter_139 : decode cX11_fighter 139 = .ok (.bipush 6, 2) := by decide +kernel
theorem dX11_fighter_141 : decode cX11_fighter 141 = .ok (.invokestatic 192, 3) := by decide +kernel
theorem dX11_fighter_144 : decode cX11_fighter 144 = .ok (.invokevirtual 134, 3) := by decide +kernel
theorem dX11_fighter_147 : decode cX11_fighter 147 = .ok (.ireturn, 1) := by decide +kernel
theorem dX11_fighter_148 : decode cX11_fighter 148 = .ok (.iconst (-1), 1) := by decide +kernel
theorem dX11_fighter_149 : decode cX11_fighter 149 = .ok (.ireturn, 1) := by decide +kernel
theorem dX11_about_0 : decode cX11_about 0 = .ok (.iload_n 1, 1) := by decide +kernel
theorem dX11_about_1 : decode cX11_about 1 = .ok (.invokestatic 157, 3) := by decide +kernel
theorem dX11_about_4 : decode cX11_about 4 = .ok (.ifCond .ne 5, 3) := by decide +kernel
theorem dX11_about_7 : decode cX11_about 7 = .ok (.iconst (-1), 1) := by decide +kernel
theorem dX11_about_8 : decode cX11_about 8 = .ok (.ireturn, 1) := by decide +kernel
theorem dX11_about_9 : decode cX11_about 9 = .ok (.iload_n 2, 1) := by decide +kernel
theorem dX11_about_10 : decode cX11_about 10 = .ok (.tableswitch 122 0 6 #[42, 51, 60, 69, 93, 102, 112], 42) := by decide +kernel
theorem dX11_about_52 : decode cX11_about 52 = .ok (.aload_n 0, 1) := by decide +kernel
theorem dX11_about_53 : decode cX11_about 53 = .ok (.getfield 37, 3) := by decide +kernel
theorem dX11_about_56 : decode cX11_about 56 = .ok (.iload_n 1, 1) := by decide +kernel
theorem dX11_about_57 : decode cX11_about 57 = .ok (.invokevirtual 207, 3) := by decide +kernel
theorem dX11_about_60 : decode cX11_about 60 = .ok (.ireturn, 1) := by decide +kernel
theorem dX11_about_61 : decode cX11_about 61 = .ok (.aload_n 0, 1) := by decide +kernel
theorem dX11_about_62 : decode cX11_about 62 = .ok (.getfield 37, 3) := by decide +kernel
theorem dX11_about_65 : decode cX11_about 65 = .ok (.iload_n 1, 1) := by decide +kernel
theorem dX11_about_66 : decode cX11_about 66 = .ok (.invokevirtual 195, 3) := by decide +kernel
theorem dX11_about_69 : decode cX11_about 69 = .ok (.ireturn, 1) := by decide +kernel
theorem dX11_about_70 : decode cX11_about 70 = .ok (.aload_n 0, 1) := by decide +kernel
theorem dX11_about_71 : decode cX11_about 71 = .ok (.getfield 51, 3) := by decide +kernel
theorem dX11_about_74 : decode cX11_about 74 = .ok (.iload_n 1, 1) := by decide +kernel
theorem dX11_about_75 : decode cX11_about 75 = .ok (.invokevirtual 210, 3) := by decide +kernel
theorem dX11_about_78 : decode cX11_about 78 = .ok (.ireturn, 1) := by decide +kernel
theorem dX11_about_79 : decode cX11_about 79 = .ok (.aload_n 0, 1) := by decide +kernel
theorem dX11_about_80 : decode cX11_about 80 = .ok (.getfield 51, 3) := by decide +kernel
theorem dX11_about_83 : decode cX11_about 83 = .ok (.iload_n 1, 1) := by decide +kernel
theorem dX11_about_84 : decode cX11_about 84 = .ok (.invokevirtual 164, 3) := by decide +kernel
theorem dX11_about_87 : decode cX11_about 87 = .ok (.ifCond .eq 14, 3) := by decide +kernel
theorem dX11_about_90 : decode cX11_about 90 = .ok (.aload_n 0, 1) := by decide +kernel
theorem dX11_about_91 : decode cX11_about 91 = .ok (.getfield 51, 3) := by decide +kernel
theorem dX11_about_94 : decode cX11_about 94 = .ok (.iload_n 1, 1) := by decide +kernel
theorem dX11_about_95 : decode cX11_about 95 = .ok (.invokevirtual 213, 3) := by decide +kernel
theorem dX11_about_98 : decode cX11_about 98 = .ok (.goto 4, 3) := by decide +kernel
theorem dX11_about_101 : decode cX11_about 101 = .ok (.iconst (-1), 1) := by decide +kernel
theorem dX11_about_102 : decode cX11_about 102 = .ok (.ireturn, 1) := by decide +kernel
theorem dX11_about_103 : decode cX11_about 103 = .ok (.aload_n 0, 1) := by decide +kernel
theorem dX11_about_104 : decode cX11_about 104 = .ok (.getfield 51, 3) := by decide +kernel
theorem dX11_about_107 : decode cX11_about 107 = .ok (.iload_n 1, 1) := by decide +kernel
theorem dX11_about_108 : decode cX11_about 108 = .ok (.invokevirtual 204, 3) := by decide +kernel
theorem dX11_about_111 : decode cX11_about 111 = .ok (.ireturn, 1) := by decide +kernel
theorem dX11_about_112 : decode cX11_about 112 = .ok (.aload_n 0, 1) := by decide +kernel
theorem dX11_about_113 : decode cX11_about 113 = .ok (.getfield 51, 3) := by decide +kernel
theorem dX11_about_116 : decode cX11_about 116 = .ok (.iload_n 1, 1) := by decide +kernel
theorem dX11_about_117 : decode cX11_about 117 = .ok (.iconst 3, 1) := by decide +kernel
theorem dX11_about_118 : decode cX11_about 118 = .ok (.invokevirtual 216, 3) := by decide +kernel
theorem dX11_about_121 : decode cX11_about 121 = .ok (.ireturn, 1) := by decide +kernel
theorem dX11_about_122 : decode cX11_about 122 = .ok (.aload_n 0, 1) := by decide +kernel
theorem dX11_about_123 : decode cX11_about 123 = .ok (.getfield 51, 3) := by decide +kernel
theorem dX11_about_126 : decode cX11_about 126 = .ok (.iload_n 1, 1) := by decide +kernel
theorem dX11_about_127 : decode cX11_about 127 = .ok (.iconst 4, 1) := by decide +kernel
theorem dX11_about_128 : decode cX11_about 128 = .ok (.invokevirtual 216, 3) := by decide +kernel
theorem dX11_about_131 : decode cX11_about 131 = .ok (.ireturn, 1) := by decide +kernel
theorem dX11_about_132 : decode cX11_about 132 = .ok (.aload_n 0, 1) := by decide +kernel
theorem dX11_about_133 : decode cX11_about 133 = .ok (.getfield 51, 3) := by decide +kernel
theorem dX11_about_136 : decode cX11_about 136 = .ok (.iload_n 1, 1) := by decide +kernel
theorem dX11_about_137 : decode cX11_about 137 = .ok (.iload_n 2, 1) := by decide +kernel
theorem dX11_about_138 : decode cX11_about 138 = .ok (.bipush 100, 2) := by decide +kernel
theorem dX11_about_140 : decode cX11_about 140 = .ok (.isub, 1) := by decide +kernel
theorem dX11_about_141 : decode cX11_about 141 = .ok (.invokevirtual 219, 3) := by decide +kernel
theorem dX11_about_144 : decode cX11_about 144 = .ok (.ireturn, 1) := by decide +kernel
theorem dX11_fight_0 : decode cX11_fight 0 = .ok (.aload_n 0, 1) := by decide +kernel
theorem dX11_fight_1 : decode cX11_fight 1 = .ok (.getfield 51, 3) := by decide +kernel
theorem dX11_fight_4 : decode cX11_fight 4 = .ok (.iload_n 1, 1) := by decide +kernel
theorem dX11_fight_5 : decode cX11_fight 5 = .ok (.iload_n 2, 1) := by decide +kernel
theorem dX11_fight_6 : decode cX11_fight 6 = .ok (.invokevirtual 222, 3) := by decide +kernel
theorem dX11_fight_9 : decode cX11_fight 9 = .ok (.ifCond .ne 5, 3) := by decide +kernel
theorem dX11_fight_12 : decode cX11_fight 12 = .ok (.iconst (-1), 1) := by decide +kernel
theorem dX11_fight_13 : decode cX11_fight 13 = .ok (.ireturn, 1) := by decide +kernel
theorem dX11_fight_14 : decode cX11_fight 14 = .ok (.aload_n 0, 1) := by decide +kernel
theorem dX11_fight_15 : decode cX11_fight 15 = .ok (.getfield 51, 3) := by decide +kernel
theorem dX11_fight_18 : decode cX11_fight 18 = .ok (.iload_n 1, 1) := by decide +kernel
theorem dX11_fight_19 : decode cX11_fight 19 = .ok (.iload_n 2, 1) := by decide +kernel
theorem dX11_fight_20 : decode cX11_fight 20 = .ok (.invokevirtual 224, 3) := by decide +kernel
theorem dX11_fight_23 : decode cX11_fight 23 = .ok (.istore 4, 2) := by decide +kernel
theorem dX11_fight_25 : decode cX11_fight 25 = .ok (.iload 4, 2) := by decide +kernel
theorem dX11_fight_27 : decode cX11_fight 27 = .ok (.iconst 3, 1) := by decide +kernel
theorem dX11_fight_28 : decode cX11_fight 28 = .ok (.if_icmp .ne 7, 3) := by decide +kernel
theorem dX11_fight_31 : decode cX11_fight 31 = .ok (.iconst 1, 1) := by decide +kernel
theorem dX11_fight_32 : decode cX11_fight 32 = .ok (.goto 4, 3) := by decide +kernel
theorem dX11_fight_35 : decode cX11_fight 35 = .ok (.iconst 0, 1) := by decide +kernel
theorem dX11_fight_36 : decode cX11_fight 36 = .ok (.istore 5, 2) := by decide +kernel
theorem dX11_fight_38 : decode cX11_fight 38 = .ok (.iload_n 3, 1) := by decide +kernel
theorem dX11_fight_39 : decode cX11_fight 39 = .ok (.tableswitch 173 0 7 #[45, 55, 65, 75, 78, 101, 124, 149], 45) := by decide +kernel
theorem dX11_fight_84 : decode cX11_fight 84 = .ok (.aload_n 0, 1) := by decide +kernel
theorem dX11_fight_85 : decode cX11_fight 85 = .ok (.getfield 51, 3) := by decide +kernel
theorem dX11_fight_88 : decode cX11_fight 88 = .ok (.iload_n 1, 1) := by decide +kernel
theorem dX11_fight_89 : decode cX11_fight 89 = .ok (.iload_n 2, 1) := by decide +kernel
theorem dX11_fight_90 : decode cX11_fight 90 = .ok (.invokevirtual 227, 3) := by decide +kernel
theorem dX11_fight_93 : decode cX11_fight 93 = .ok (.ireturn, 1) := by decide +kernel
theorem dX11_fight_94 : decode cX11_fight 94 = .ok (.aload_n 0, 1) := by decide +kernel
theorem dX11_fight_95 : decode cX11_fight 95 = .ok (.getfield 51, 3) := by decide +kernel
theorem dX11_fight_98 : decode cX11_fight 98 = .ok (.iload_n 1, 1) := by decide +kernel
theorem dX11_fight_99 : decode cX11_fight 99 = .ok (.iload_n 2, 1) := by decide +kernel
theorem dX11_fight_100 : decode cX11_fight 100 = .ok (.invokevirtual 230, 3) := by decide +kernel
theorem dX11_fight_103 : decode cX11_fight 103 = .ok (.ireturn, 1) := by decide +kernel
theorem dX11_fight_104 : decode cX11_fight 104 = .ok (.aload_n 0, 1) := by decide +kernel
theorem dX11_fight_105 : decode cX11_fight 105 = .ok (.getfield 51, 3) := by decide +kernel
theorem dX11_fight_108 : decode cX11_fight 108 = .ok (.iload_n 1, 1) := by decide +kernel
theorem dX11_fight_109 : decode cX11_fight 109 = .ok (.iload_n 2, 1) := by decide +kernel
theorem dX11_fight_110 : decode cX11_fight 110 = .ok (.invokevirtual 233, 3) := by decide +kernel
theorem dX11_fight_113 : decode cX11_fight 113 = .ok (.ireturn, 1) := by decide +kernel
theorem dX11_fight_114 : decode cX11_fight 114 = .ok (.iload 4, 2) := by decide +kernel
theorem dX11_fight_116 : decode cX11_fight 116 = .ok (.ireturn, 1) := by decide +kernel
theorem dX11_fight_117 : decode cX11_fight 117 = .ok (.iload 5, 2) := by decide +kernel
theorem dX11_fight_119 : decode cX11_fight 119 = .ok (.ifCond .eq 19, 3) := by decide +kernel
theorem dX11_fight_122 : decode cX11_fight 122 = .ok (.aload_n 0, 1) := by decide +kernel
theorem dX11_fight_123 : decode cX11_fight 123 = .ok (.getfield 10, 3) := by decide +kernel
theorem dX11_fight_126 : decode cX11_fight 126 = .ok (.iload_n 1, 1) := by decide +kernel
theorem dX11_fight_127 : decode cX11_fight 127 = .ok (.iload_n 2, 1) := by decide +kernel
theorem dX11_fight_128 : decode cX11_fight 128 = .ok (.iconst 4, 1) := by decide +kernel
theorem dX11_fight_129 : decode cX11_fight 129 = .ok (.invokestatic 236, 3) := by decide +kernel
theorem dX11_fight_132 : decode cX11_fight 132 = .ok (.invokevirtual 134, 3) := by decide +kernel
theorem dX11_fight_135 : decode cX11_fight 135 = .ok (.goto 4, 3) := by decide +kernel
theorem dX11_fight_138 : decode cX11_fight 138 = .ok (.iconst (-1), 1) := by decide +kernel
theorem dX11_fight_139 : decode cX11_fight 139 = .ok (.ireturn, 1) := by decide +kernel
theorem dX11_fight_140 : decode cX11_fight 140 = .ok (.iload 5, 2) := by decide +kernel
theorem dX11_fight_142 : decode cX11_fight 142 = .ok (.ifCond .eq 19, 3) := by decide +kernel
theorem dX11_fight_145 : decode cX11_fight 145 = .ok (.aload_n 0, 1) := by decide +kernel
theorem dX11_fight_146 : decode cX11_fight 146 = .ok (.getfield 10, 3) := by decide +kernel
theorem dX11_fight_149 : decode cX11_fight 149 = .ok (.iload_n 1, 1) := by decide +kernel
theorem dX11_fight_150 : decode cX11_fight 150 = .ok (.iload_n 2, 1) := by decide +kernel
theorem dX11_fight_151 : decode cX11_fight 151 = .ok (.iconst 5, 1) := by decide +kernel
theorem dX11_fight_152 : decode cX11_fight 152 = .ok (.invokestatic 236, 3) := by decide +kernel
theorem dX11_fight_155 : decode cX11_fight 155 = .ok (.invokevirtual 134, 3) := by decide +kernel
theorem dX11_fight_158 : decode cX11_fight 158 = .ok (.goto 4, 3) := by decide +kernel
theorem dX11_fight_161 : decode cX11_fight 161 = .ok (.iconst 0, 1) := by decide +kernel
theorem dX11_fight_162 : decode cX11_fight 162 = .ok (.ireturn, 1) := by decide +kernel
theorem dX11_fight_163 : decode cX11_fight 163 = .ok (.iload 4, 2) := by decide +kernel
theorem dX11_fight_165 : decode cX11_fight 165 = .ok (.iconst 2, 1) := by decide +kernel
theorem dX11_fight_166 : decode cX11_fight 166 = .ok (.if_icmp .ne 20, 3) := by decide +kernel
theorem dX11_fight_169 : decode cX11_fight 169 = .ok (.aload_n 0, 1) := by decide +kernel
theorem dX11_fight_170 : decode cX11_fight 170 = .ok (.getfield 10, 3) := by decide +kernel
theorem dX11_fight_173 : decode cX11_fight 173 = .ok (.iload_n 1, 1) := by decide +kernel
theorem dX11_fight_174 : decode cX11_fight 174 = .ok (.iload_n 2, 1) := by decide +kernel
theorem dX11_fight_175 : decode cX11_fight 175 = .ok (.bipush 7, 2) := by decide +kernel
theorem dX11_fight_177 : decode cX11_fight 177 = .ok (.invokestatic 236, 3) := by decide +kernel
theorem dX11_fight_180 : decode cX11_fight 180 = .ok (.invokevirtual 134, 3) := by decide +kernel
theorem dX11_fight_183 : decode cX11_fight 183 = .ok (.goto 4, 3) := by decide +kernel
theorem dX11_fight_186 : decode cX11_fight 186 = .ok (.iconst (-1), 1) := by decide +kernel
theorem dX11_fight_187 : decode cX11_fight 187 = .ok (.ireturn, 1) := by decide +kernel
theorem dX11_fight_188 : decode cX11_fight 188 = .ok (.iload 5, 2) := by decide +kernel
theorem dX11_fight_190 : decode cX11_fight 190 = .ok (.ifCond .eq 20, 3) := by decide +kernel
theorem dX11_fight_193 : decode cX11_fight 193 = .ok (.aload_n 0, 1) := by decide +kernel
theorem dX11_fight_194 : decode cX11_fight 194 = .ok (.getfield 10, 3) := by decide +kernel
theorem dX11_fight_197 : decode cX11_fight 197 = .ok (.iload_n 1, 1) := by decide +kernel
theorem dX11_fight_198 : decode cX11_fight 198 = .ok (.iload_n 2, 1) := by decide +kernel
theorem dX11_fight_199 : decode cX11_fight 199 = .ok (.bipush 6, 2) := by decide +kernel
theorem dX11_fight_201 : decode cX11_fight 201 = .ok (.invokestatic 236, 3) := by decide +kernel
theorem dX11_fight_204 : decode cX11_fight 204 = .ok (.invokevirtual 134, 3) := by decide +kernel
theorem dX11_fight_207 : decode cX11_fight 207 = .ok (.goto 4, 3) := by decide +kernel
theorem dX11_fight_210 : decode cX11_fight 210 = .ok (.iconst (-1), 1) := by decide +kernel
theorem dX11_fight_211 : decode cX11_fight 211 = .ok (.ireturn, 1) := by decide +kernel
theorem dX11_fight_212 : decode cX11_fight 212 = .ok (.iconst (-1), 1) := by decide +kernel
theorem dX11_fight_213 : decode cX11_fight 213 = .ok (.ireturn, 1) := by decide +kernel
theorem dX11_now_0 : decode cX11_now 0 = .ok (.iload_n 1, 1) := by decide +kernel
theorem dX11_now_1 : decode cX11_now 1 = .ok (.aload_n 0, 1) := by decide +kernel
theorem dX11_now_2 : decode cX11_now 2 = .ok (.getfield 10, 3) := by decide +kernel
theorem dX11_now_5 : decode cX11_now 5 = .ok (.iconst 0, 1) := by decide +kernel
theorem dX11_now_6 : decode cX11_now 6 = .ok (.invokevirtual 134, 3) := by decide +kernel
theorem dX11_now_9 : decode cX11_now 9 = .ok (.if_icmp .lt 10, 3) := by decide +kernel
theorem dX11_now_12 : decode cX11_now 12 = .ok (.iload_n 1, 1) := by decide +kernel
theorem dX11_now_13 : decode cX11_now 13 = .ok (.sipush 1440, 3) := by decide +kernel
theorem dX11_now_16 : decode cX11_now 16 = .ok (.if_icmp .le 6, 3) := by decide +kernel
theorem dX11_now_19 : decode cX11_now 19 = .ok (.bipush (-2), 2) := by decide +kernel
theorem dX11_now_21 : decode cX11_now 21 = .ok (.ireturn, 1) := by decide +kernel
theorem dX11_now_22 : decode cX11_now 22 = .ok (.aload_n 0, 1) := by decide +kernel
theorem dX11_now_23 : decode cX11_now 23 = .ok (.getfield 10, 3) := by decide +kernel
theorem dX11_now_26 : decode cX11_now 26 = .ok (.invokevirtual 108, 3) := by decide +kernel
theorem dX11_now_29 : decode cX11_now 29 = .ok (.ifCond .eq 6, 3) := by decide +kernel
theorem dX11_now_32 : decode cX11_now 32 = .ok (.bipush (-4), 2) := by decide +kernel
theorem dX11_now_34 : decode cX11_now 34 = .ok (.ireturn, 1) := by decide +kernel
theorem dX11_now_35 : decode cX11_now 35 = .ok (.aload_n 0, 1) := by decide +kernel
theorem dX11_now_36 : decode cX11_now 36 = .ok (.getfield 10, 3) := by decide +kernel
theorem dX11_now_39 : decode cX11_now 39 = .ok (.invokevirtual 111, 3) := by decide +kernel
theorem dX11_now_42 : decode cX11_now 42 = .ok (.aload_n 0, 1) := by decide +kernel
theorem dX11_now_43 : decode cX11_now 43 = .ok (.getfield 10, 3) := by decide +kernel
theorem dX11_now_46 : decode cX11_now 46 = .ok (.iconst 0, 1) := by decide +kernel
theorem dX11_now_47 : decode cX11_now 47 = .ok (.iload_n 1, 1) := by decide +kernel
theorem dX11_now_48 : decode cX11_now 48 = .ok (.invokevirtual 149, 3) := by decide +kernel
theorem dX11_now_51 : decode cX11_now 51 = .ok (.iload_n 1, 1) := by decide +kernel
theorem dX11_now_52 : decode cX11_now 52 = .ok (.ireturn, 1) := by decide +kernel
theorem dX11_rest_0 : decode cX11_rest 0 = .ok (.iload_n 1, 1) := by decide +kernel
theorem dX11_rest_1 : decode cX11_rest 1 = .ok (.ifCond .lt 9, 3) := by decide +kernel
theorem dX11_rest_4 : decode cX11_rest 4 = .ok (.iload_n 1, 1) := by decide +kernel
theorem dX11_rest_5 : decode cX11_rest 5 = .ok (.bipush 120, 2) := by decide +kernel
theorem dX11_rest_7 : decode cX11_rest 7 = .ok (.if_icmp .le 6, 3) := by decide +kernel
theorem dX11_rest_10 : decode cX11_rest 10 = .ok (.bipush (-2), 2) := by decide +kernel
theorem dX11_rest_12 : decode cX11_rest 12 = .ok (.ireturn, 1) := by decide +kernel
theorem dX11_rest_13 : decode cX11_rest 13 = .ok (.aload_n 0, 1) := by decide +kernel
theorem dX11_rest_14 : decode cX11_rest 14 = .ok (.getfield 10, 3) := by decide +kernel
theorem dX11_rest_17 : decode cX11_rest 17 = .ok (.invokevirtual 108, 3) := by decide +kernel
theorem dX11_rest_20 : decode cX11_rest 20 = .ok (.ifCond .eq 6, 3) := by decide +kernel
theorem dX11_rest_23 : decode cX11_rest 23 = .ok (.bipush (-4), 2) := by decide +kernel
theorem dX11_rest_25 : decode cX11_rest 25 = .ok (.ireturn, 1) := by decide +kernel
theorem dX11_rest_26 : decode cX11_rest 26 = .ok (.aload_n 0, 1) := by decide +kernel
theorem dX11_rest_27 : decode cX11_rest 27 = .ok (.getfield 10, 3) := by decide +kernel
theorem dX11_rest_30 : decode cX11_rest 30 = .ok (.invokevirtual 111, 3) := by decide +kernel
theorem dX11_rest_33 : decode cX11_rest 33 = .ok (.aload_n 0, 1) := by decide +kernel
theorem dX11_rest_34 : decode cX11_rest 34 = .ok (.getfield 10, 3) := by decide +kernel
theorem dX11_rest_37 : decode cX11_rest 37 = .ok (.iconst 1, 1) := by decide +kernel
theorem dX11_rest_38 : decode cX11_rest 38 = .ok (.invokevirtual 134, 3) := by decide +kernel
theorem dX11_rest_41 : decode cX11_rest 41 = .ok (.istore_n 2, 1) := by decide +kernel
theorem dX11_rest_42 : decode cX11_rest 42 = .ok (.aload_n 0, 1) := by decide +kernel
theorem dX11_rest_43 : decode cX11_rest 43 = .ok (.getfield 10, 3) := by decide +kernel
theorem dX11_rest_46 : decode cX11_rest 46 = .ok (.iconst 1, 1) := by decide +kernel
theorem dX11_rest_47 : decode cX11_rest 47 = .ok (.iload_n 1, 1) := by decide +kernel
theorem dX11_rest_48 : decode cX11_rest 48 = .ok (.invokevirtual 149, 3) := by decide +kernel
theorem dX11_rest_51 : decode cX11_rest 51 = .ok (.iload_n 2, 1) := by decide +kernel
theorem dX11_rest_52 : decode cX11_rest 52 = .ok (.ireturn, 1) := by decide +kernel
theorem dX11_begin_0 : decode cX11_begin 0 = .ok (.aload_n 0, 1) := by decide +kernel
theorem dX11_begin_1 : decode cX11_begin 1 = .ok (.getfield 51, 3) := by decide +kernel
theorem dX11_begin_4 : decode cX11_begin 4 = .ok (.iload_n 1, 1) := by decide +kernel
theorem dX11_begin_5 : decode cX11_begin 5 = .ok (.iload_n 2, 1) := by decide +kernel
theorem dX11_begin_6 : decode cX11_begin 6 = .ok (.invokevirtual 222, 3) := by decide +kernel
theorem dX11_begin_9 : decode cX11_begin 9 = .ok (.ifCond .eq 10, 3) := by decide +kernel
theorem dX11_begin_12 : decode cX11_begin 12 = .ok (.iload_n 3, 1) := by decide +kernel
theorem dX11_begin_13 : decode cX11_begin 13 = .ok (.invokestatic 240, 3) := by decide +kernel
theorem dX11_begin_16 : decode cX11_begin 16 = .ok (.ifCond .ne 6, 3) := by decide +kernel
theorem dX11_begin_19 : decode cX11_begin 19 = .ok (.bipush (-2), 2) := by decide +kernel
theorem dX11_begin_21 : decode cX11_begin 21 = .ok (.ireturn, 1) := by decide +kernel
theorem dX11_begin_22 : decode cX11_begin 22 = .ok (.aload_n 0, 1) := by decide +kernel
theorem dX11_begin_23 : decode cX11_begin 23 = .ok (.getfield 51, 3) := by decide +kernel
theorem dX11_begin_26 : decode cX11_begin 26 = .ok (.iload_n 1, 1) := by decide +kernel
theorem dX11_begin_27 : decode cX11_begin 27 = .ok (.iload_n 2, 1) := by decide +kernel
theorem dX11_begin_28 : decode cX11_begin 28 = .ok (.invokevirtual 224, 3) := by decide +kernel
theorem dX11_begin_31 : decode cX11_begin 31 = .ok (.iconst 1, 1) := by decide +kernel
theorem dX11_begin_32 : decode cX11_begin 32 = .ok (.if_icmp .ne 7, 3) := by decide +kernel
theorem dX11_begin_35 : decode cX11_begin 35 = .ok (.iconst 1, 1) := by decide +kernel
theorem dX11_begin_36 : decode cX11_begin 36 = .ok (.goto 4, 3) := by decide +kernel
theorem dX11_begin_39 : decode cX11_begin 39 = .ok (.iconst 0, 1) := by decide +kernel
theorem dX11_begin_40 : decode cX11_begin 40 = .ok (.istore 4, 2) := by decide +kernel
theorem dX11_begin_42 : decode cX11_begin 42 = .ok (.aload_n 0, 1) := by decide +kernel
theorem dX11_begin_43 : decode cX11_begin 43 = .ok (.invokevirtual 122, 3) := by decide +kernel
theorem dX11_begin_46 : decode cX11_begin 46 = .ok (.getfield 125, 3) := by decide +kernel
theorem dX11_begin_49 : decode cX11_begin 49 = .ok (.ifCond .eq 19, 3) := by decide +kernel
theorem dX11_begin_52 : decode cX11_begin 52 = .ok (.iload 4, 2) := by decide +kernel
theorem dX11_begin_54 : decode cX11_begin 54 = .ok (.ifCond .eq 14, 3) := by decide +kernel
theorem dX11_begin_57 : decode cX11_begin 57 = .ok (.aload_n 0, 1) := by decide +kernel
theorem dX11_begin_58 : decode cX11_begin 58 = .ok (.getfield 60, 3) := by decide +kernel
theorem dX11_begin_61 : decode cX11_begin 61 = .ok (.iload_n 3, 1) := by decide +kernel
theorem dX11_begin_62 : decode cX11_begin 62 = .ok (.invokevirtual 243, 3) := by decide +kernel
theorem dX11_begin_65 : decode cX11_begin 65 = .ok (.ifCond .ne 6, 3) := by decide +kernel
theorem dX11_begin_68 : decode cX11_begin 68 = .ok (.bipush (-3), 2) := by decide +kernel
theorem dX11_begin_70 : decode cX11_begin 70 = .ok (.ireturn, 1) := by decide +kernel
theorem dX11_begin_71 : decode cX11_begin 71 = .ok (.aload_n 0, 1) := by decide +kernel
theorem dX11_begin_72 : decode cX11_begin 72 = .ok (.getfield 60, 3) := by decide +kernel
theorem dX11_begin_75 : decode cX11_begin 75 = .ok (.aload_n 0, 1) := by decide +kernel
theorem dX11_begin_76 : decode cX11_begin 76 = .ok (.getfield 51, 3) := by decide +kernel
theorem dX11_begin_79 : decode cX11_begin 79 = .ok (.iload_n 1, 1) := by decide +kernel
theorem dX11_begin_80 : decode cX11_begin 80 = .ok (.iload_n 2, 1) := by decide +kernel
theorem dX11_begin_81 : decode cX11_begin 81 = .ok (.invokevirtual 227, 3) := by decide +kernel
theorem dX11_begin_84 : decode cX11_begin 84 = .ok (.invokevirtual 246, 3) := by decide +kernel
theorem dX11_begin_87 : decode cX11_begin 87 = .ok (.ifCond .ne 22, 3) := by decide +kernel
theorem dX11_begin_90 : decode cX11_begin 90 = .ok (.aload_n 0, 1) := by decide +kernel
theorem dX11_begin_91 : decode cX11_begin 91 = .ok (.getfield 60, 3) := by decide +kernel
theorem dX11_begin_94 : decode cX11_begin 94 = .ok (.aload_n 0, 1) := by decide +kernel
theorem dX11_begin_95 : decode cX11_begin 95 = .ok (.getfield 51, 3) := by decide +kernel
theorem dX11_begin_98 : decode cX11_begin 98 = .ok (.iload_n 1, 1) := by decide +kernel
theorem dX11_begin_99 : decode cX11_begin 99 = .ok (.iload_n 2, 1) := by decide +kernel
theorem dX11_begin_100 : decode cX11_begin 100 = .ok (.invokevirtual 230, 3) := by decide +kernel
theorem dX11_begin_103 : decode cX11_begin 103 = .ok (.invokevirtual 246, 3) := by decide +kernel
theorem dX11_begin_106 : decode cX11_begin 106 = .ok (.ifCond .eq 6, 3) := by decide +kernel
theorem dX11_begin_109 : decode cX11_begin 109 = .ok (.bipush (-5), 2) := by decide +kernel
theorem dX11_begin_111 : decode cX11_begin 111 = .ok (.ireturn, 1) := by decide +kernel
theorem dX11_begin_112 : decode cX11_begin 112 = .ok (.aload_n 0, 1) := by decide +kernel
theorem dX11_begin_113 : decode cX11_begin 113 = .ok (.getfield 10, 3) := by decide +kernel
theorem dX11_begin_116 : decode cX11_begin 116 = .ok (.invokevirtual 108, 3) := by decide +kernel
theorem dX11_begin_119 : decode cX11_begin 119 = .ok (.ifCond .eq 6, 3) := by decide +kernel
theorem dX11_begin_122 : decode cX11_begin 122 = .ok (.bipush (-4), 2) := by decide +kernel
theorem dX11_begin_124 : decode cX11_begin 124 = .ok (.ireturn, 1) := by decide +kernel
theorem dX11_begin_125 : decode cX11_begin 125 = .ok (.aload_n 0, 1) := by decide +kernel
theorem dX11_begin_126 : decode cX11_begin 126 = .ok (.getfield 10, 3) := by decide +kernel
theorem dX11_begin_129 : decode cX11_begin 129 = .ok (.invokevirtual 111, 3) := by decide +kernel
theorem dX11_begin_132 : decode cX11_begin 132 = .ok (.aload_n 0, 1) := by decide +kernel
theorem dX11_begin_133 : decode cX11_begin 133 = .ok (.getfield 60, 3) := by decide +kernel
theorem dX11_begin_136 : decode cX11_begin 136 = .ok (.aload_n 0, 1) := by decide +kernel
theorem dX11_begin_137 : decode cX11_begin 137 = .ok (.invokevirtual 122, 3) := by decide +kernel
theorem dX11_begin_140 : decode cX11_begin 140 = .ok (.getfield 249, 3) := by decide +kernel
theorem dX11_begin_143 : decode cX11_begin 143 = .ok (.iload_n 1, 1) := by decide +kernel
theorem dX11_begin_144 : decode cX11_begin 144 = .ok (.iload_n 2, 1) := by decide +kernel
theorem dX11_begin_145 : decode cX11_begin 145 = .ok (.iload_n 3, 1) := by decide +kernel
theorem dX11_begin_146 : decode cX11_begin 146 = .ok (.invokevirtual 252, 3) := by decide +kernel
theorem dX11_begin_149 : decode cX11_begin 149 = .ok (.aload_n 0, 1) := by decide +kernel
theorem dX11_begin_150 : decode cX11_begin 150 = .ok (.getfield 60, 3) := by decide +kernel
theorem dX11_begin_153 : decode cX11_begin 153 = .ok (.aload_n 0, 1) := by decide +kernel
theorem dX11_begin_154 : decode cX11_begin 154 = .ok (.invokevirtual 122, 3) := by decide +kernel
theorem dX11_begin_157 : decode cX11_begin 157 = .ok (.iload_n 3, 1) := by decide +kernel
theorem dX11_begin_158 : decode cX11_begin 158 = .ok (.invokevirtual 256, 3) := by decide +kernel
theorem dX11_begin_161 : decode cX11_begin 161 = .ok (.aload_n 0, 1) := by decide +kernel
theorem dX11_begin_162 : decode cX11_begin 162 = .ok (.getfield 51, 3) := by decide +kernel
theorem dX11_begin_165 : decode cX11_begin 165 = .ok (.iload_n 1, 1) := by decide +kernel
theorem dX11_begin_166 : decode cX11_begin 166 = .ok (.invokevirtual 201, 3) := by decide +kernel
theorem dX11_begin_169 : decode cX11_begin 169 = .ok (.iconst 1, 1) := by decide +kernel
theorem dX11_begin_170 : decode cX11_begin 170 = .ok (.ireturn, 1) := by decide +kernel
theorem dX11_event_0 : decode cX11_event 0 = .ok (.iload_n 1, 1) := by decide +kernel
theorem dX11_event_1 : decode cX11_event 1 = .ok (.invokestatic 240, 3) := by decide +kernel
theorem dX11_event_4 : decode cX11_event 4 = .ok (.ifCond .eq 25, 3) := by decide +kernel
theorem dX11_event_7 : decode cX11_event 7 = .ok (.iload_n 2, 1) := by decide +kernel
theorem dX11_event_8 : decode cX11_event 8 = .ok (.invokestatic 260, 3) := by decide +kernel
theorem dX11_event_11 : decode cX11_event 11 = .ok (.ifCond .eq 18, 3) := by decide +kernel
theorem dX11_event_14 : decode cX11_event 14 = .ok (.iload_n 3, 1) := by decide +kernel
theorem dX11_event_15 : decode cX11_event 15 = .ok (.ifCond .lt 14, 3) := by decide +kernel
theorem dX11_event_18 : decode cX11_event 18 = .ok (.iload_n 3, 1) := by decide +kernel
theorem dX11_event_19 : decode cX11_event 19 = .ok (.aload_n 0, 1) := by decide +kernel
theorem dX11_event_20 : decode cX11_event 20 = .ok (.invokevirtual 122, 3) := by decide +kernel
theorem dX11_event_23 : decode cX11_event 23 = .ok (.getfield 263, 3) := by decide +kernel
theorem dX11_event_26 : decode cX11_event 26 = .ok (.if_icmp .lt 6, 3) := by decide +kernel
theorem dX11_event_29 : decode cX11_event 29 = .ok (.bipush (-2), 2) := by decide +kernel
theorem dX11_event_31 : decode cX11_event 31 = .ok (.ireturn, 1) := by decide +kernel
theorem dX11_event_32 : decode cX11_event 32 = .ok (.aload_n 0, 1) := by decide +kernel
theorem dX11_event_33 : decode cX11_event 33 = .ok (.getfield 60, 3) := by decide +kernel
theorem dX11_event_36 : decode cX11_event 36 = .ok (.iload_n 1, 1) := by decide +kernel
theorem dX11_event_37 : decode cX11_event 37 = .ok (.invokevirtual 266, 3) := by decide +kernel
theorem dX11_event_40 : decode cX11_event 40 = .ok (.ifCond .ne 6, 3) := by decide +kernel
theorem dX11_event_43 : decode cX11_event 43 = .ok (.bipush (-3), 2) := by decide +kernel
theorem dX11_event_45 : decode cX11_event 45 = .ok (.ireturn, 1) := by decide +kernel
theorem dX11_event_46 : decode cX11_event 46 = .ok (.aload_n 0, 1) := by decide +kernel
theorem dX11_event_47 : decode cX11_event 47 = .ok (.getfield 10, 3) := by decide +kernel
theorem dX11_event_50 : decode cX11_event 50 = .ok (.invokevirtual 108, 3) := by decide +kernel
theorem dX11_event_53 : decode cX11_event 53 = .ok (.ifCond .eq 6, 3) := by decide +kernel
theorem dX11_event_56 : decode cX11_event 56 = .ok (.bipush (-4), 2) := by decide +kernel
theorem dX11_event_58 : decode cX11_event 58 = .ok (.ireturn, 1) := by decide +kernel
theorem dX11_event_59 : decode cX11_event 59 = .ok (.aload_n 0, 1) := by decide +kernel
theorem dX11_event_60 : decode cX11_event 60 = .ok (.getfield 10, 3) := by decide +kernel
theorem dX11_event_63 : decode cX11_event 63 = .ok (.invokevirtual 111, 3) := by decide +kernel
theorem dX11_event_66 : decode cX11_event 66 = .ok (.aload_n 0, 1) := by decide +kernel
theorem dX11_event_67 : decode cX11_event 67 = .ok (.getfield 60, 3) := by decide +kernel
theorem dX11_event_70 : decode cX11_event 70 = .ok (.iload_n 1, 1) := by decide +kernel
theorem dX11_event_71 : decode cX11_event 71 = .ok (.iload_n 2, 1) := by decide +kernel
theorem dX11_event_72 : decode cX11_event 72 = .ok (.iload_n 3, 1) := by decide +kernel
theorem dX11_event_73 : decode cX11_event 73 = .ok (.invokevirtual 269, 3) := by decide +kernel
theorem dX11_event_76 : decode cX11_event 76 = .ok (.aload_n 0, 1) := by decide +kernel
theorem dX11_event_77 : decode cX11_event 77 = .ok (.getfield 60, 3) := by decide +kernel
theorem dX11_event_80 : decode cX11_event 80 = .ok (.aload_n 0, 1) := by decide +kernel
theorem dX11_event_81 : decode cX11_event 81 = .ok (.invokevirtual 122, 3) := by decide +kernel
theorem dX11_event_84 : decode cX11_event 84 = .ok (.iload_n 1, 1) := by decide +kernel
theorem dX11_event_85 : decode cX11_event 85 = .ok (.invokevirtual 273, 3) := by decide +kernel
theorem dX11_event_88 : decode cX11_event 88 = .ok (.istore 4, 2) := by decide +kernel
theorem dX11_event_90 : decode cX11_event 90 = .ok (.aload_n 0, 1) := by decide +kernel
theorem dX11_event_91 : decode cX11_event 91 = .ok (.getfield 51, 3) := by decide +kernel
theorem dX11_event_94 : decode cX11_event 94 = .ok (.aload_n 0, 1) := by decide +kernel
theorem dX11_event_95 : decode cX11_event 95 = .ok (.getfield 60, 3) := by decide +kernel
theorem dX11_event_98 : decode cX11_event 98 = .ok (.iload_n 1, 1) := by decide +kernel
theorem dX11_event_99 : decode cX11_event 99 = .ok (.invokevirtual 277, 3) := by decide +kernel
theorem dX11_event_102 : decode cX11_event 102 = .ok (.invokevirtual 201, 3) := by decide +kernel
theorem dX11_event_105 : decode cX11_event 105 = .ok (.iload 4, 2) := by decide +kernel
theorem dX11_event_107 : decode cX11_event 107 = .ok (.ireturn, 1) := by decide +kernel
theorem dX11_tick_0 : decode cX11_tick 0 = .ok (.iload_n 1, 1) := by decide +kernel
theorem dX11_tick_1 : decode cX11_tick 1 = .ok (.invokestatic 240, 3) := by decide +kernel
theorem dX11_tick_4 : decode cX11_tick 4 = .ok (.ifCond .eq 15, 3) := by decide +kernel
theorem dX11_tick_7 : decode cX11_tick 7 = .ok (.iload_n 2, 1) := by decide +kernel
theorem dX11_tick_8 : decode cX11_tick 8 = .ok (.iconst 1, 1) := by decide +kernel
theorem dX11_tick_9 : decode cX11_tick 9 = .ok (.if_icmp .lt 10, 3) := by decide +kernel
theorem dX11_tick_12 : decode cX11_tick 12 = .ok (.iload_n 2, 1) := by decide +kernel
theorem dX11_tick_13 : decode cX11_tick 13 = .ok (.sipush 9999, 3) := by decide +kernel
theorem dX11_tick_16 : decode cX11_tick 16 = .ok (.if_icmp .le 6, 3) := by decide +kernel
theorem dX11_tick_19 : decode cX11_tick 19 = .ok (.bipush (-2), 2) := by decide +kernel
theorem dX11_tick_21 : decode cX11_tick 21 = .ok (.ireturn, 1) := by decide +kernel
theorem dX11_tick_22 : decode cX11_tick 22 = .ok (.aload_n 0, 1) := by decide +kernel
theorem dX11_tick_23 : decode cX11_tick 23 = .ok (.getfield 60, 3) := by decide +kernel
theorem dX11_tick_26 : decode cX11_tick 26 = .ok (.iload_n 1, 1) := by decide +kernel
theorem dX11_tick_27 : decode cX11_tick 27 = .ok (.invokevirtual 266, 3) := by decide +kernel
theorem dX11_tick_30 : decode cX11_tick 30 = .ok (.ifCond .ne 6, 3) := by decide +kernel
theorem dX11_tick_33 : decode cX11_tick 33 = .ok (.bipush (-3), 2) := by decide +kernel
theorem dX11_tick_35 : decode cX11_tick 35 = .ok (.ireturn, 1) := by decide +kernel
theorem dX11_tick_36 : decode cX11_tick 36 = .ok (.iload_n 2, 1) := by decide +kernel
theorem dX11_tick_37 : decode cX11_tick 37 = .ok (.aload_n 0, 1) := by decide +kernel
theorem dX11_tick_38 : decode cX11_tick 38 = .ok (.getfield 10, 3) := by decide +kernel
theorem dX11_tick_41 : decode cX11_tick 41 = .ok (.iload_n 1, 1) := by decide +kernel
theorem dX11_tick_42 : decode cX11_tick 42 = .ok (.iconst 2, 1) := by decide +kernel
theorem dX11_tick_43 : decode cX11_tick 43 = .ok (.invokestatic 280, 3) := by decide +kernel
theorem dX11_tick_46 : decode cX11_tick 46 = .ok (.invokevirtual 134, 3) := by decide +kernel
theorem dX11_tick_49 : decode cX11_tick 49 = .ok (.if_icmp .le 6, 3) := by decide +kernel
theorem dX11_tick_52 : decode cX11_tick 52 = .ok (.bipush (-2), 2) := by decide +kernel
theorem dX11_tick_54 : decode cX11_tick 54 = .ok (.ireturn, 1) := by decide +kernel
theorem dX11_tick_55 : decode cX11_tick 55 = .ok (.aload_n 0, 1) := by decide +kernel
theorem dX11_tick_56 : decode cX11_tick 56 = .ok (.getfield 10, 3) := by decide +kernel
theorem dX11_tick_59 : decode cX11_tick 59 = .ok (.invokevirtual 108, 3) := by decide +kernel
theorem dX11_tick_62 : decode cX11_tick 62 = .ok (.ifCond .eq 6, 3) := by decide +kernel
theorem dX11_tick_65 : decode cX11_tick 65 = .ok (.bipush (-4), 2) := by decide +kernel
theorem dX11_tick_67 : decode cX11_tick 67 = .ok (.ireturn, 1) := by decide +kernel
theorem dX11_tick_68 : decode cX11_tick 68 = .ok (.aload_n 0, 1) := by decide +kernel
theorem dX11_tick_69 : decode cX11_tick 69 = .ok (.getfield 10, 3) := by decide +kernel
theorem dX11_tick_72 : decode cX11_tick 72 = .ok (.invokevirtual 111, 3) := by decide +kernel
theorem dX11_tick_75 : decode cX11_tick 75 = .ok (.aload_n 0, 1) := by decide +kernel
theorem dX11_tick_76 : decode cX11_tick 76 = .ok (.getfield 60, 3) := by decide +kernel
theorem dX11_tick_79 : decode cX11_tick 79 = .ok (.iload_n 1, 1) := by decide +kernel
theorem dX11_tick_80 : decode cX11_tick 80 = .ok (.iload_n 2, 1) := by decide +kernel
theorem dX11_tick_81 : decode cX11_tick 81 = .ok (.invokevirtual 283, 3) := by decide +kernel
theorem dX11_tick_84 : decode cX11_tick 84 = .ok (.aload_n 0, 1) := by decide +kernel
theorem dX11_tick_85 : decode cX11_tick 85 = .ok (.getfield 60, 3) := by decide +kernel
theorem dX11_tick_88 : decode cX11_tick 88 = .ok (.aload_n 0, 1) := by decide +kernel
theorem dX11_tick_89 : decode cX11_tick 89 = .ok (.invokevirtual 122, 3) := by decide +kernel
theorem dX11_tick_92 : decode cX11_tick 92 = .ok (.iload_n 1, 1) := by decide +kernel
theorem dX11_tick_93 : decode cX11_tick 93 = .ok (.invokevirtual 273, 3) := by decide +kernel
theorem dX11_tick_96 : decode cX11_tick 96 = .ok (.istore_n 3, 1) := by decide +kernel
theorem dX11_tick_97 : decode cX11_tick 97 = .ok (.aload_n 0, 1) := by decide +kernel
theorem dX11_tick_98 : decode cX11_tick 98 = .ok (.getfield 60, 3) := by decide +kernel
theorem dX11_tick_101 : decode cX11_tick 101 = .ok (.aload_n 0, 1) := by decide +kernel
theorem dX11_tick_102 : decode cX11_tick 102 = .ok (.invokevirtual 122, 3) := by decide +kernel
theorem dX11_tick_105 : decode cX11_tick 105 = .ok (.iload_n 1, 1) := by decide +kernel
theorem dX11_tick_106 : decode cX11_tick 106 = .ok (.invokevirtual 256, 3) := by decide +kernel
theorem dX11_tick_109 : decode cX11_tick 109 = .ok (.aload_n 0, 1) := by decide +kernel
theorem dX11_tick_110 : decode cX11_tick 110 = .ok (.getfield 51, 3) := by decide +kernel
theorem dX11_tick_113 : decode cX11_tick 113 = .ok (.aload_n 0, 1) := by decide +kernel
theorem dX11_tick_114 : decode cX11_tick 114 = .ok (.getfield 60, 3) := by decide +kernel
theorem dX11_tick_117 : decode cX11_tick 117 = .ok (.iload_n 1, 1) := by decide +kernel
theorem dX11_tick_118 : decode cX11_tick 118 = .ok (.invokevirtual 277, 3) := by decide +kernel
theorem dX11_tick_121 : decode cX11_tick 121 = .ok (.invokevirtual 201, 3) := by decide +kernel
theorem dX11_tick_124 : decode cX11_tick 124 = .ok (.iload_n 3, 1) := by decide +kernel
theorem dX11_tick_125 : decode cX11_tick 125 = .ok (.ireturn, 1) := by decide +kernel
theorem dX11_decide_0 : decode cX11_decide 0 = .ok (.iload_n 1, 1) := by decide +kernel
theorem dX11_decide_1 : decode cX11_decide 1 = .ok (.invokestatic 240, 3) := by decide +kernel
theorem dX11_decide_4 : decode cX11_decide 4 = .ok (.ifCond .eq 10, 3) := by decide +kernel
theorem dX11_decide_7 : decode cX11_decide 7 = .ok (.iload_n 2, 1) := by decide +kernel
theorem dX11_decide_8 : decode cX11_decide 8 = .ok (.invokestatic 260, 3) := by decide +kernel
theorem dX11_decide_11 : decode cX11_decide 11 = .ok (.ifCond .ne 6, 3) := by decide +kernel
theorem dX11_decide_14 : decode cX11_decide 14 = .ok (.bipush (-2), 2) := by decide +kernel
theorem dX11_decide_16 : decode cX11_decide 16 = .ok (.ireturn, 1) := by decide +kernel
theorem dX11_decide_17 : decode cX11_decide 17 = .ok (.aload_n 0, 1) := by decide +kernel
theorem dX11_decide_18 : decode cX11_decide 18 = .ok (.getfield 60, 3) := by decide +kernel
theorem dX11_decide_21 : decode cX11_decide 21 = .ok (.iload_n 1, 1) := by decide +kernel
theorem dX11_decide_22 : decode cX11_decide 22 = .ok (.invokevirtual 286, 3) := by decide +kernel
theorem dX11_decide_25 : decode cX11_decide 25 = .ok (.ifCond .ne 6, 3) := by decide +kernel
theorem dX11_decide_28 : decode cX11_decide 28 = .ok (.bipush (-3), 2) := by decide +kernel
theorem dX11_decide_30 : decode cX11_decide 30 = .ok (.ireturn, 1) := by decide +kernel
theorem dX11_decide_31 : decode cX11_decide 31 = .ok (.aload_n 0, 1) := by decide +kernel
theorem dX11_decide_32 : decode cX11_decide 32 = .ok (.getfield 10, 3) := by decide +kernel
theorem dX11_decide_35 : decode cX11_decide 35 = .ok (.invokevirtual 108, 3) := by decide +kernel
theorem dX11_decide_38 : decode cX11_decide 38 = .ok (.ifCond .eq 6, 3) := by decide +kernel
theorem dX11_decide_41 : decode cX11_decide 41 = .ok (.bipush (-4), 2) := by decide +kernel
theorem dX11_decide_43 : decode cX11_decide 43 = .ok (.ireturn, 1) := by decide +kernel
theorem dX11_decide_44 : decode cX11_decide 44 = .ok (.aload_n 0, 1) := by decide +kernel
theorem dX11_decide_45 : decode cX11_decide 45 = .ok (.getfield 10, 3) := by decide +kernel
theorem dX11_decide_48 : decode cX11_decide 48 = .ok (.invokevirtual 111, 3) := by decide +kernel
theorem dX11_decide_51 : decode cX11_decide 51 = .ok (.aload_n 0, 1) := by decide +kernel
theorem dX11_decide_52 : decode cX11_decide 52 = .ok (.getfield 60, 3) := by decide +kernel
theorem dX11_decide_55 : decode cX11_decide 55 = .ok (.iload_n 1, 1) := by decide +kernel
theorem dX11_decide_56 : decode cX11_decide 56 = .ok (.iload_n 2, 1) := by decide +kernel
theorem dX11_decide_57 : decode cX11_decide 57 = .ok (.iconst (-1), 1) := by decide +kernel
theorem dX11_decide_58 : decode cX11_decide 58 = .ok (.iconst 0, 1) := by decide +kernel
theorem dX11_decide_59 : decode cX11_decide 59 = .ok (.invokevirtual 289, 3) := by decide +kernel
theorem dX11_decide_62 : decode cX11_decide 62 = .ok (.istore_n 3, 1) := by decide +kernel
theorem dX11_decide_63 : decode cX11_decide 63 = .ok (.aload_n 0, 1) := by decide +kernel
theorem dX11_decide_64 : decode cX11_decide 64 = .ok (.getfield 51, 3) := by decide +kernel
theorem dX11_decide_67 : decode cX11_decide 67 = .ok (.aload_n 0, 1) := by decide +kernel
theorem dX11_decide_68 : decode cX11_decide 68 = .ok (.getfield 60, 3) := by decide +kernel
theorem dX11_decide_71 : decode cX11_decide 71 = .ok (.iload_n 1, 1) := by decide +kernel
theorem dX11_decide_72 : decode cX11_decide 72 = .ok (.invokevirtual 277, 3) := by decide +kernel
theorem dX11_decide_75 : decode cX11_decide 75 = .ok (.invokevirtual 201, 3) := by decide +kernel
theorem dX11_decide_78 : decode cX11_decide 78 = .ok (.iload_n 3, 1) := by decide +kernel
theorem dX11_decide_79 : decode cX11_decide 79 = .ok (.ireturn, 1) := by decide +kernel
theorem dX11_mat_0 : decode cX11_mat 0 = .ok (.iload_n 1, 1) := by decide +kernel
theorem dX11_mat_1 : decode cX11_mat 1 = .ok (.invokestatic 240, 3) := by decide +kernel
theorem dX11_mat_4 : decode cX11_mat 4 = .ok (.ifCond .eq 14, 3) := by decide +kernel
theorem dX11_mat_7 : decode cX11_mat 7 = .ok (.aload_n 0, 1) := by decide +kernel
theorem dX11_mat_8 : decode cX11_mat 8 = .ok (.getfield 60, 3) := by decide +kernel
theorem dX11_mat_11 : decode cX11_mat 11 = .ok (.iload_n 1, 1) := by decide +kernel
theorem dX11_mat_12 : decode cX11_mat 12 = .ok (.invokevirtual 243, 3) := by decide +kernel
theorem dX11_mat_15 : decode cX11_mat 15 = .ok (.ifCond .eq 5, 3) := by decide +kernel
theorem dX11_mat_18 : decode cX11_mat 18 = .ok (.iconst (-1), 1) := by decide +kernel
theorem dX11_mat_19 : decode cX11_mat 19 = .ok (.ireturn, 1) := by decide +kernel
theorem dX11_mat_20 : decode cX11_mat 20 = .ok (.iload_n 2, 1) := by decide +kernel
theorem dX11_mat_21 : decode cX11_mat 21 = .ok (.tableswitch 100 0 4 #[35, 48, 61, 74, 87], 35) := by decide +kernel
theorem dX11_mat_56 : decode cX11_mat 56 = .ok (.aload_n 0, 1) := by decide +kernel
theorem dX11_mat_57 : decode cX11_mat 57 = .ok (.getfield 10, 3) := by decide +kernel
theorem dX11_mat_60 : decode cX11_mat 60 = .ok (.iload_n 1, 1) := by decide +kernel
theorem dX11_mat_61 : decode cX11_mat 61 = .ok (.iconst 0, 1) := by decide +kernel
theorem dX11_mat_62 : decode cX11_mat 62 = .ok (.invokestatic 280, 3) := by decide +kernel
theorem dX11_mat_65 : decode cX11_mat 65 = .ok (.invokevirtual 134, 3) := by decide +kernel
theorem dX11_mat_68 : decode cX11_mat 68 = .ok (.ireturn, 1) := by decide +kernel
theorem dX11_mat_69 : decode cX11_mat 69 = .ok (.aload_n 0, 1) := by decide +kernel
theorem dX11_mat_70 : decode cX11_mat 70 = .ok (.getfield 10, 3) := by decide +kernel
theorem dX11_mat_73 : decode cX11_mat 73 = .ok (.iload_n 1, 1) := by decide +kernel
theorem dX11_mat_74 : decode cX11_mat 74 = .ok (.iconst 1, 1) := by decide +kernel
theorem dX11_mat_75 : decode cX11_mat 75 = .ok (.invokestatic 280, 3) := by decide +kernel
theorem dX11_mat_78 : decode cX11_mat 78 = .ok (.invokevirtual 134, 3) := by decide +kernel
theorem dX11_mat_81 : decode cX11_mat 81 = .ok (.ireturn, 1) := by decide +kernel
theorem dX11_mat_82 : decode cX11_mat 82 = .ok (.aload_n 0, 1) := by decide +kernel
theorem dX11_mat_83 : decode cX11_mat 83 = .ok (.getfield 10, 3) := by decide +kernel
theorem dX11_mat_86 : decode cX11_mat 86 = .ok (.iload_n 1, 1) := by decide +kernel
theorem dX11_mat_87 : decode cX11_mat 87 = .ok (.iconst 2, 1) := by decide +kernel
theorem dX11_mat_88 : decode cX11_mat 88 = .ok (.invokestatic 280, 3) := by decide +kernel
theorem dX11_mat_91 : decode cX11_mat 91 = .ok (.invokevirtual 134, 3) := by decide +kernel
theorem dX11_mat_94 : decode cX11_mat 94 = .ok (.ireturn, 1) := by decide +kernel
theorem dX11_mat_95 : decode cX11_mat 95 = .ok (.aload_n 0, 1) := by decide +kernel
theorem dX11_mat_96 : decode cX11_mat 96 = .ok (.getfield 10, 3) := by decide +kernel
theorem dX11_mat_99 : decode cX11_mat 99 = .ok (.iload_n 1, 1) := by decide +kernel
theorem dX11_mat_100 : decode cX11_mat 100 = .ok (.iconst 3, 1) := by decide +kernel
theorem dX11_mat_101 : decode cX11_mat 101 = .ok (.invokestatic 280, 3) := by decide +kernel
theorem dX11_mat_104 : decode cX11_mat 104 = .ok (.invokevirtual 134, 3) := by decide +kernel
theorem dX11_mat_107 : decode cX11_mat 107 = .ok (.ireturn, 1) := by decide +kernel
theorem dX11_mat_108 : decode cX11_mat 108 = .ok (.aload_n 0, 1) := by decide +kernel
theorem dX11_mat_109 : decode cX11_mat 109 = .ok (.getfield 10, 3) := by decide +kernel
theorem dX11_mat_112 : decode cX11_mat 112 = .ok (.iload_n 1, 1) := by decide +kernel
theorem dX11_mat_113 : decode cX11_mat 113 = .ok (.iconst 4, 1) := by decide +kernel
theorem dX11_mat_114 : decode cX11_mat 114 = .ok (.invokestatic 280, 3) := by decide +kernel
theorem dX11_mat_117 : decode cX11_mat 117 = .ok (.invokevirtual 134, 3) := by decide +kernel
theorem dX11_mat_120 : decode cX11_mat 120 = .ok (.ireturn, 1) := by decide +kernel
theorem dX11_mat_121 : decode cX11_mat 121 = .ok (.aload_n 0, 1) := by decide +kernel
theorem dX11_mat_122 : decode cX11_mat 122 = .ok (.iload_n 1, 1) := by decide +kernel
theorem dX11_mat_123 : decode cX11_mat 123 = .ok (.iload_n 2, 1) := by decide +kernel
theorem dX11_mat_124 : decode cX11_mat 124 = .ok (.invokevirtual 293, 3) := by decide +kernel
theorem dX11_mat_127 : decode cX11_mat 127 = .ok (.ireturn, 1) := by decide +kernel
theorem dX11_signsOn_0 : decode cX11_signsOn 0 = .ok (.iload_n 2, 1) := by decide +kernel
theorem dX11_signsOn_1 : decode cX11_signsOn 1 = .ok (.bipush 20, 2) := by decide +kernel
theorem dX11_signsOn_3 : decode cX11_signsOn 3 = .ok (.if_icmp .ge 7, 3) := by decide +kernel
theorem dX11_signsOn_6 : decode cX11_signsOn 6 = .ok (.iconst 0, 1) := by decide +kernel
theorem dX11_signsOn_7 : decode cX11_signsOn 7 = .ok (.goto 4, 3) := by decide +kernel
theorem dX11_signsOn_10 : decode cX11_signsOn 10 = .ok (.iconst 1, 1) := by decide +kernel
theorem dX11_signsOn_11 : decode cX11_signsOn 11 = .ok (.istore_n 3, 1) := by decide +kernel
theorem dX11_signsOn_12 : decode cX11_signsOn 12 = .ok (.iload_n 2, 1) := by decide +kernel
theorem dX11_signsOn_13 : decode cX11_signsOn 13 = .ok (.bipush 10, 2) := by decide +kernel
theorem dX11_signsOn_15 : decode cX11_signsOn 15 = .ok (.isub, 1) := by decide +kernel
theorem dX11_signsOn_16 : decode cX11_signsOn 16 = .ok (.bipush 10, 2) := by decide +kernel
theorem dX11_signsOn_18 : decode cX11_signsOn 18 = .ok (.iload_n 3, 1) := by decide +kernel
theorem dX11_signsOn_19 : decode cX11_signsOn 19 = .ok (.imul, 1) := by decide +kernel
theorem dX11_signsOn_20 : decode cX11_signsOn 20 = .ok (.isub, 1) := by decide +kernel
theorem dX11_signsOn_21 : decode cX11_signsOn 21 = .ok (.istore 4, 2) := by decide +kernel
theorem dX11_signsOn_23 : decode cX11_signsOn 23 = .ok (.iload_n 2, 1) := by decide +kernel
theorem dX11_signsOn_24 : decode cX11_signsOn 24 = .ok (.bipush 10, 2) := by decide +kernel
theorem dX11_signsOn_26 : decode cX11_signsOn 26 = .ok (.if_icmp .lt 29, 3) := by decide +kernel
theorem dX11_signsOn_29 : decode cX11_signsOn 29 = .ok (.iload 4, 2) := by decide +kernel
theorem dX11_signsOn_31 : decode cX11_signsOn 31 = .ok (.aload_n 0, 1) := by decide +kernel
theorem dX11_signsOn_32 : decode cX11_signsOn 32 = .ok (.invokevirtual 122, 3) := by decide +kernel
theorem dX11_signsOn_35 : decode cX11_signsOn 35 = .ok (.getfield 263, 3) := by decide +kernel
theorem dX11_signsOn_38 : decode cX11_signsOn 38 = .ok (.if_icmp .ge 17, 3) := by decide +kernel
theorem dX11_signsOn_41 : decode cX11_signsOn 41 = .ok (.aload_n 0, 1) := by decide +kernel
theorem dX11_signsOn_42 : decode cX11_signsOn 42 = .ok (.getfield 60, 3) := by decide +kernel
theorem dX11_signsOn_45 : decode cX11_signsOn 45 = .ok (.iload_n 1, 1) := by decide +kernel
theorem dX11_signsOn_46 : decode cX11_signsOn 46 = .ok (.iload_n 3, 1) := by decide +kernel
theorem dX11_signsOn_47 : decode cX11_signsOn 47 = .ok (.iload 4, 2) := by decide +kernel
theorem dX11_signsOn_49 : decode cX11_signsOn 49 = .ok (.invokevirtual 296, 3) := by decide +kernel
theorem dX11_signsOn_52 : decode cX11_signsOn 52 = .ok (.goto 4, 3) := by decide +kernel
theorem dX11_signsOn_55 : decode cX11_signsOn 55 = .ok (.iconst (-1), 1) := by decide +kernel
theorem dX11_signsOn_56 : decode cX11_signsOn 56 = .ok (.ireturn, 1) := by decide +kernel
theorem dX11_strike_0 : decode cX11_strike 0 = .ok (.aload_n 0, 1) := by decide +kernel
theorem dX11_strike_1 : decode cX11_strike 1 = .ok (.getfield 51, 3) := by decide +kernel
theorem dX11_strike_4 : decode cX11_strike 4 = .ok (.iload_n 1, 1) := by decide +kernel
theorem dX11_strike_5 : decode cX11_strike 5 = .ok (.iload_n 2, 1) := by decide +kernel
theorem dX11_strike_6 : decode cX11_strike 6 = .ok (.invokevirtual 222, 3) := by decide +kernel
theorem dX11_strike_9 : decode cX11_strike 9 = .ok (.ifCond .ne 6, 3) := by decide +kernel
theorem dX11_strike_12 : decode cX11_strike 12 = .ok (.bipush (-2), 2) := by decide +kernel
theorem dX11_strike_14 : decode cX11_strike 14 = .ok (.ireturn, 1) := by decide +kernel
theorem dX11_strike_15 : decode cX11_strike 15 = .ok (.aload_n 0, 1) := by decide +kernel
theorem dX11_strike_16 : decode cX11_strike 16 = .ok (.getfield 51, 3) := by decide +kernel
theorem dX11_strike_19 : decode cX11_strike 19 = .ok (.iload_n 1, 1) := by decide +kernel
theorem dX11_strike_20 : decode cX11_strike 20 = .ok (.iload_n 2, 1) := by decide +kernel
theorem dX11_strike_21 : decode cX11_strike 21 = .ok (.invokevirtual 224, 3) := by decide +kernel
theorem dX11_strike_24 : decode cX11_strike 24 = .ok (.iconst 3, 1) := by decide +kernel
theorem dX11_strike_25 : decode cX11_strike 25 = .ok (.if_icmp .eq 6, 3) := by decide +kernel
theorem dX11_strike_28 : decode cX11_strike 28 = .ok (.bipush (-3), 2) := by decide +kernel
theorem dX11_strike_30 : decode cX11_strike 30 = .ok (.ireturn, 1) := by decide +kernel
theorem dX11_strike_31 : decode cX11_strike 31 = .ok (.aload_n 0, 1) := by decide +kernel
theorem dX11_strike_32 : decode cX11_strike 32 = .ok (.getfield 10, 3) := by decide +kernel
theorem dX11_strike_35 : decode cX11_strike 35 = .ok (.invokevirtual 108, 3) := by decide +kernel
theorem dX11_strike_38 : decode cX11_strike 38 = .ok (.ifCond .eq 6, 3) := by decide +kernel
theorem dX11_strike_41 : decode cX11_strike 41 = .ok (.bipush (-4), 2) := by decide +kernel
theorem dX11_strike_43 : decode cX11_strike 43 = .ok (.ireturn, 1) := by decide +kernel
theorem dX11_strike_44 : decode cX11_strike 44 = .ok (.aload_n 0, 1) := by decide +kernel
theorem dX11_strike_45 : decode cX11_strike 45 = .ok (.getfield 10, 3) := by decide +kernel
theorem dX11_strike_48 : decode cX11_strike 48 = .ok (.invokevirtual 111, 3) := by decide +kernel
theorem dX11_strike_51 : decode cX11_strike 51 = .ok (.aload_n 0, 1) := by decide +kernel
theorem dX11_strike_52 : decode cX11_strike 52 = .ok (.getfield 60, 3) := by decide +kernel
theorem dX11_strike_55 : decode cX11_strike 55 = .ok (.iload_n 1, 1) := by decide +kernel
theorem dX11_strike_56 : decode cX11_strike 56 = .ok (.iload_n 2, 1) := by decide +kernel
theorem dX11_strike_57 : decode cX11_strike 57 = .ok (.invokevirtual 299, 3) := by decide +kernel
theorem dX11_strike_60 : decode cX11_strike 60 = .ok (.ireturn, 1) := by decide +kernel
theorem dX11_medal_0 : decode cX11_medal 0 = .ok (.iload_n 1, 1) := by decide +kernel
theorem dX11_medal_1 : decode cX11_medal 1 = .ok (.invokestatic 157, 3) := by decide +kernel
theorem dX11_medal_4 : decode cX11_medal 4 = .ok (.ifCond .ne 5, 3) := by decide +kernel
theorem dX11_medal_7 : decode cX11_medal 7 = .ok (.iconst (-1), 1) := by decide +kernel
theorem dX11_medal_8 : decode cX11_medal 8 = .ok (.ireturn, 1) := by decide +kernel
theorem dX11_medal_9 : decode cX11_medal 9 = .ok (.aload_n 0, 1) := by decide +kernel
theorem dX11_medal_10 : decode cX11_medal 10 = .ok (.getfield 51, 3) := by decide +kernel
theorem dX11_medal_13 : decode cX11_medal 13 = .ok (.iload_n 1, 1) := by decide +kernel
theorem dX11_medal_14 : decode cX11_medal 14 = .ok (.invokevirtual 210, 3) := by decide +kernel
theorem dX11_medal_17 : decode cX11_medal 17 = .ok (.lookupswitch 47 #[(1, 27), (2, 37)], 27) := by decide +kernel
theorem dX11_medal_44 : decode cX11_medal 44 = .ok (.aload_n 0, 1) := by decide +kernel
theorem dX11_medal_45 : decode cX11_medal 45 = .ok (.getfield 67, 3) := by decide +kernel
theorem dX11_medal_48 : decode cX11_medal 48 = .ok (.iload_n 1, 1) := by decide +kernel
theorem dX11_medal_49 : decode cX11_medal 49 = .ok (.iload_n 2, 1) := by decide +kernel
theorem dX11_medal_50 : decode cX11_medal 50 = .ok (.invokevirtual 302, 3) := by decide +kernel
theorem dX11_medal_53 : decode cX11_medal 53 = .ok (.ireturn, 1) := by decide +kernel
theorem dX11_medal_54 : decode cX11_medal 54 = .ok (.aload_n 0, 1) := by decide +kernel
theorem dX11_medal_55 : decode cX11_medal 55 = .ok (.getfield 67, 3) := by decide +kernel
theorem dX11_medal_58 : decode cX11_medal 58 = .ok (.iload_n 1, 1) := by decide +kernel
theorem dX11_medal_59 : decode cX11_medal 59 = .ok (.iload_n 2, 1) := by decide +kernel
theorem dX11_medal_60 : decode cX11_medal 60 = .ok (.invokevirtual 305, 3) := by decide +kernel
theorem dX11_medal_63 : decode cX11_medal 63 = .ok (.ireturn, 1) := by decide +kernel
theorem dX11_medal_64 : decode cX11_medal 64 = .ok (.iconst (-1), 1) := by decide +kernel
theorem dX11_medal_65 : decode cX11_medal 65 = .ok (.ireturn, 1) := by decide +kernel
theorem dX11_plan_0 : decode cX11_plan 0 = .ok (.iload_n 1, 1) := by decide +kernel
theorem dX11_plan_1 : decode cX11_plan 1 = .ok (.iconst 1, 1) := by decide +kernel
theorem dX11_plan_2 : decode cX11_plan 2 = .ok (.if_icmp .lt 19, 3) := by decide +kernel
theorem dX11_plan_5 : decode cX11_plan 5 = .ok (.iload_n 1, 1) := by decide +kernel
theorem dX11_plan_6 : decode cX11_plan 6 = .ok (.iconst 4, 1) := by decide +kernel
theorem dX11_plan_7 : decode cX11_plan 7 = .ok (.if_icmp .gt 14, 3) := by decide +kernel
theorem dX11_plan_10 : decode cX11_plan 10 = .ok (.iload_n 2, 1) := by decide +kernel
theorem dX11_plan_11 : decode cX11_plan 11 = .ok (.iconst 1, 1) := by decide +kernel
theorem dX11_plan_12 : decode cX11_plan 12 = .ok (.if_icmp .lt 9, 3) := by decide +kernel
theorem dX11_plan_15 : decode cX11_plan 15 = .ok (.iload_n 2, 1) := by decide +kernel
theorem dX11_plan_16 : decode cX11_plan 16 = .ok (.bipush 60, 2) := by decide +kernel
theorem dX11_plan_18 : decode cX11_plan 18 = .ok (.if_icmp .le 6, 3) := by decide +kernel
theorem dX11_plan_21 : decode cX11_plan 21 = .ok (.bipush (-2), 2) := by decide +kernel
theorem dX11_plan_23 : decode cX11_plan 23 = .ok (.ireturn, 1) := by decide +kernel
theorem dX11_plan_24 : decode cX11_plan 24 = .ok (.aload_n 0, 1) := by decide +kernel
theorem dX11_plan_25 : decode cX11_plan 25 = .ok (.getfield 74, 3) := by decide +kernel
theorem dX11_plan_28 : decode cX11_plan 28 = .ok (.iload_n 1, 1) := by decide +kernel
theorem dX11_plan_29 : decode cX11_plan 29 = .ok (.iload_n 2, 1) := by decide +kernel
theorem dX11_plan_30 : decode cX11_plan 30 = .ok (.invokevirtual 308, 3) := by decide +kernel
theorem dX11_plan_33 : decode cX11_plan 33 = .ok (.ireturn, 1) := by decide +kernel
theorem dX11_planned_0 : decode cX11_planned 0 = .ok (.aload_n 0, 1) := by decide +kernel
theorem dX11_planned_1 : decode cX11_planned 1 = .ok (.getfield 51, 3) := by decide +kernel
theorem dX11_planned_4 : decode cX11_planned 4 = .ok (.iload_n 1, 1) := by decide +kernel
theorem dX11_planned_5 : decode cX11_planned 5 = .ok (.iload_n 2, 1) := by decide +kernel
theorem dX11_planned_6 : decode cX11_planned 6 = .ok (.invokevirtual 222, 3) := by decide +kernel
theorem dX11_planned_9 : decode cX11_planned 9 = .ok (.ifCond .ne 5, 3) := by decide +kernel
theorem dX11_planned_12 : decode cX11_planned 12 = .ok (.iconst (-1), 1) := by decide +kernel
theorem dX11_planned_13 : decode cX11_planned 13 = .ok (.ireturn, 1) := by decide +kernel
theorem dX11_planned_14 : decode cX11_planned 14 = .ok (.aload_n 0, 1) := by decide +kernel
theorem dX11_planned_15 : decode cX11_planned 15 = .ok (.getfield 74, 3) := by decide +kernel
theorem dX11_planned_18 : decode cX11_planned 18 = .ok (.iload_n 1, 1) := by decide +kernel
theorem dX11_planned_19 : decode cX11_planned 19 = .ok (.iload_n 2, 1) := by decide +kernel
theorem dX11_planned_20 : decode cX11_planned 20 = .ok (.iload_n 3, 1) := by decide +kernel
theorem dX11_planned_21 : decode cX11_planned 21 = .ok (.invokevirtual 311, 3) := by decide +kernel
theorem dX11_planned_24 : decode cX11_planned 24 = .ok (.ireturn, 1) := by decide +kernel
theorem dX11_undo_0 : decode cX11_undo 0 = .ok (.aload_n 0, 1) := by decide +kernel
theorem dX11_undo_1 : decode cX11_undo 1 = .ok (.getfield 10, 3) := by decide +kernel
theorem dX11_undo_4 : decode cX11_undo 4 = .ok (.getfield 314, 3) := by decide +kernel
theorem dX11_undo_7 : decode cX11_undo 7 = .ok (.ifCond .ne 5, 3) := by decide +kernel
theorem dX11_undo_10 : decode cX11_undo 10 = .ok (.iconst (-1), 1) := by decide +kernel
theorem dX11_undo_11 : decode cX11_undo 11 = .ok (.ireturn, 1) := by decide +kernel
theorem dX11_undo_12 : decode cX11_undo 12 = .ok (.aload_n 0, 1) := by decide +kernel
theorem dX11_undo_13 : decode cX11_undo 13 = .ok (.getfield 10, 3) := by decide +kernel
theorem dX11_undo_16 : decode cX11_undo 16 = .ok (.invokevirtual 317, 3) := by decide +kernel
theorem dX11_undo_19 : decode cX11_undo 19 = .ok (.iconst 0, 1) := by decide +kernel
theorem dX11_undo_20 : decode cX11_undo 20 = .ok (.istore_n 1, 1) := by decide +kernel
theorem dX11_undo_21 : decode cX11_undo 21 = .ok (.iload_n 1, 1) := by decide +kernel
theorem dX11_undo_22 : decode cX11_undo 22 = .ok (.iconst 4, 1) := by decide +kernel
theorem dX11_undo_23 : decode cX11_undo 23 = .ok (.if_icmp .ge 17, 3) := by decide +kernel
theorem dX11_undo_26 : decode cX11_undo 26 = .ok (.aload_n 0, 1) := by decide +kernel
theorem dX11_undo_27 : decode cX11_undo 27 = .ok (.getfield 51, 3) := by decide +kernel
theorem dX11_undo_30 : decode cX11_undo 30 = .ok (.iload_n 1, 1) := by decide +kernel
theorem dX11_undo_31 : decode cX11_undo 31 = .ok (.invokevirtual 201, 3) := by decide +kernel
theorem dX11_undo_34 : decode cX11_undo 34 = .ok (.iinc 1 1, 3) := by decide +kernel
theorem dX11_undo_37 : decode cX11_undo 37 = .ok (.goto (-16), 3) := by decide +kernel
theorem dX11_undo_40 : decode cX11_undo 40 = .ok (.aload_n 0, 1) := by decide +kernel
theorem dX11_undo_41 : decode cX11_undo 41 = .ok (.getfield 10, 3) := by decide +kernel
theorem dX11_undo_44 : decode cX11_undo 44 = .ok (.getfield 314, 3) := by decide +kernel
theorem dX11_undo_47 : decode cX11_undo 47 = .ok (.ireturn, 1) := by decide +kernel
theorem dX11_count_0 : decode cX11_count 0 = .ok (.iload_n 1, 1) := by decide +kernel
theorem dX11_count_1 : decode cX11_count 1 = .ok (.tableswitch 125 0 8 #[51, 59, 68, 77, 85, 93, 101, 109, 117], 51) := by decide +kernel
theorem dX11_count_52 : decode cX11_count 52 = .ok (.aload_n 0, 1) := by decide +kernel
theorem dX11_count_53 : decode cX11_count 53 = .ok (.getfield 37, 3) := by decide +kernel
theorem dX11_count_56 : decode cX11_count 56 = .ok (.invokevirtual 174, 3) := by decide +kernel
theorem dX11_count_59 : decode cX11_count 59 = .ok (.ireturn, 1) := by decide +kernel
theorem dX11_count_60 : decode cX11_count 60 = .ok (.aload_n 0, 1) := by decide +kernel
theorem dX11_count_61 : decode cX11_count 61 = .ok (.getfield 10, 3) := by decide +kernel
theorem dX11_count_64 : decode cX11_count 64 = .ok (.iconst 0, 1) := by decide +kernel
theorem dX11_count_65 : decode cX11_count 65 = .ok (.invokevirtual 134, 3) := by decide +kernel
theorem dX11_count_68 : decode cX11_count 68 = .ok (.ireturn, 1) := by decide +kernel
theorem dX11_count_69 : decode cX11_count 69 = .ok (.aload_n 0, 1) := by decide +kernel
theorem dX11_count_70 : decode cX11_count 70 = .ok (.getfield 10, 3) := by decide +kernel
theorem dX11_count_73 : decode cX11_count 73 = .ok (.iconst 1, 1) := by decide +kernel
theorem dX11_count_74 : decode cX11_count 74 = .ok (.invokevirtual 134, 3) := by decide +kernel
theorem dX11_count_77 : decode cX11_count 77 = .ok (.ireturn, 1) := by decide +kernel
theorem dX11_count_78 : decode cX11_count 78 = .ok (.aload_n 0, 1) := by decide +kernel
theorem dX11_count_79 : decode cX11_count 79 = .ok (.invokevirtual 122, 3) := by decide +kernel
theorem dX11_count_82 : decode cX11_count 82 = .ok (.getfield 263, 3) := by decide +kernel
theorem dX11_count_85 : decode cX11_count 85 = .ok (.ireturn, 1) := by decide +kernel
theorem dX11_count_86 : decode cX11_count 86 = .ok (.aload_n 0, 1) := by decide +kernel
theorem dX11_count_87 : decode cX11_count 87 = .ok (.invokevirtual 122, 3) := by decide +kernel
theorem dX11_count_90 : decode cX11_count 90 = .ok (.getfield 125, 3) := by decide +kernel
theorem dX11_count_93 : decode cX11_count 93 = .ok (.ireturn, 1) := by decide +kernel
theorem dX11_count_94 : decode cX11_count 94 = .ok (.aload_n 0, 1) := by decide +kernel
theorem dX11_count_95 : decode cX11_count 95 = .ok (.invokevirtual 122, 3) := by decide +kernel
theorem dX11_count_98 : decode cX11_count 98 = .ok (.getfield 320, 3) := by decide +kernel
theorem dX11_count_101 : decode cX11_count 101 = .ok (.ireturn, 1) := by decide +kernel
theorem dX11_count_102 : decode cX11_count 102 = .ok (.aload_n 0, 1) := by decide +kernel
theorem dX11_count_103 : decode cX11_count 103 = .ok (.getfield 60, 3) := by decide +kernel
theorem dX11_count_106 : decode cX11_count 106 = .ok (.invokevirtual 100, 3) := by decide +kernel
theorem dX11_count_109 : decode cX11_count 109 = .ok (.ireturn, 1) := by decide +kernel
theorem dX11_count_110 : decode cX11_count 110 = .ok (.aload_n 0, 1) := by decide +kernel
theorem dX11_count_111 : decode cX11_count 111 = .ok (.getfield 10, 3) := by decide +kernel
theorem dX11_count_114 : decode cX11_count 114 = .ok (.getfield 314, 3) := by decide +kernel
theorem dX11_count_117 : decode cX11_count 117 = .ok (.ireturn, 1) := by decide +kernel
theorem dX11_count_118 : decode cX11_count 118 = .ok (.aload_n 0, 1) := by decide +kernel
theorem dX11_count_119 : decode cX11_count 119 = .ok (.getfield 19, 3) := by decide +kernel
theorem dX11_count_122 : decode cX11_count 122 = .ok (.getfield 92, 3) := by decide +kernel
theorem dX11_count_125 : decode cX11_count 125 = .ok (.ireturn, 1) := by decide +kernel
theorem dX11_count_126 : decode cX11_count 126 = .ok (.iconst (-1), 1) := by decide +kernel
theorem dX11_count_127 : decode cX11_count 127 = .ok (.ireturn, 1) := by decide +kernel
theorem dX11_isClass_0 : decode cX11_isClass 0 = .ok (.iload_n 0, 1) := by decide +kernel
theorem dX11_isClass_1 : decode cX11_isClass 1 = .ok (.ifCond .lt 12, 3) := by decide +kernel
theorem dX11_isClass_4 : decode cX11_isClass 4 = .ok (.iload_n 0, 1) := by decide +kernel
theorem dX11_isClass_5 : decode cX11_isClass 5 = .ok (.iconst 4, 1) := by decide +kernel
theorem dX11_isClass_6 : decode cX11_isClass 6 = .ok (.if_icmp .ge 7, 3) := by decide +kernel
theorem dX11_isClass_9 : decode cX11_isClass 9 = .ok (.iconst 1, 1) := by decide +kernel
theorem dX11_isClass_10 : decode cX11_isClass 10 = .ok (.goto 4, 3) := by decide +kernel
theorem dX11_isClass_13 : decode cX11_isClass 13 = .ok (.iconst 0, 1) := by decide +kernel
theorem dX11_isClass_14 : decode cX11_isClass 14 = .ok (.ireturn, 1) := by decide +kernel
theorem dX11_isMat_0 : decode cX11_isMat 0 = .ok (.iload_n 0, 1) := by decide +kernel
theorem dX11_isMat_1 : decode cX11_isMat 1 = .ok (.ifCond .lt 12, 3) := by decide +kernel
theorem dX11_isMat_4 : decode cX11_isMat 4 = .ok (.iload_n 0, 1) := by decide +kernel
theorem dX11_isMat_5 : decode cX11_isMat 5 = .ok (.iconst 4, 1) := by decide +kernel
theorem dX11_isMat_6 : decode cX11_isMat 6 = .ok (.if_icmp .ge 7, 3) := by decide +kernel
theorem dX11_isMat_9 : decode cX11_isMat 9 = .ok (.iconst 1, 1) := by decide +kernel
theorem dX11_isMat_10 : decode cX11_isMat 10 = .ok (.goto 4, 3) := by decide +kernel
theorem dX11_isMat_13 : decode cX11_isMat 13 = .ok (.iconst 0, 1) := by decide +kernel
theorem dX11_isMat_14 : decode cX11_isMat 14 = .ok (.ireturn, 1) := by decide +kernel
theorem dX11_isSide_0 : decode cX11_isSide 0 = .ok (.iload_n 0, 1) := by decide +kernel
theorem dX11_isSide_1 : decode cX11_isSide 1 = .ok (.ifCond .eq 8, 3) := by decide +kernel
theorem dX11_isSide_4 : decode cX11_isSide 4 = .ok (.iload_n 0, 1) := by decide +kernel
theorem dX11_isSide_5 : decode cX11_isSide 5 = .ok (.iconst 1, 1) := by decide +kernel
theorem dX11_isSide_6 : decode cX11_isSide 6 = .ok (.if_icmp .ne 7, 3) := by decide +kernel
theorem dX11_isSide_9 : decode cX11_isSide 9 = .ok (.iconst 1, 1) := by decide +kernel
theorem dX11_isSide_10 : decode cX11_isSide 10 = .ok (.goto 4, 3) := by decide +kernel
theorem dX11_isSide_13 : decode cX11_isSide 13 = .ok (.iconst 0, 1) := by decide +kernel
theorem dX11_isSide_14 : decode cX11_isSide 14 = .ok (.ireturn, 1) := by decide +kernel
theorem dX11_isGrams_0 : decode cX11_isGrams 0 = .ok (.iload_n 0, 1) := by decide +kernel
theorem dX11_isGrams_1 : decode cX11_isGrams 1 = .ok (.ifCond .lt 14, 3) := by decide +kernel
theorem dX11_isGrams_4 : decode cX11_isGrams 4 = .ok (.iload_n 0, 1) := by decide +kernel
theorem dX11_isGrams_5 : decode cX11_isGrams 5 = .ok (.ldc_w 323, 3) := by decide +kernel
theorem dX11_isGrams_8 : decode cX11_isGrams 8 = .ok (.if_icmp .gt 7, 3) := by decide +kernel
theorem dX11_isGrams_11 : decode cX11_isGrams 11 = .ok (.iconst 1, 1) := by decide +kernel
theorem dX11_isGrams_12 : decode cX11_isGrams 12 = .ok (.goto 4, 3) := by decide +kernel
theorem dX11_isGrams_15 : decode cX11_isGrams 15 = .ok (.iconst 0, 1) := by decide +kernel
theorem dX11_isGrams_16 : decode cX11_isGrams 16 = .ok (.ireturn, 1) := by decide +kernel
theorem dX12_init_0 : decode cX12_init 0 = .ok (.aload_n 0, 1) := by decide +kernel
theorem dX12_init_1 : decode cX12_init 1 = .ok (.aconst_null, 1) := by decide +kernel
theorem dX12_init_2 : decode cX12_init 2 = .ok (.aconst_null, 1) := by decide +kernel
theorem dX12_init_3 : decode cX12_init 3 = .ok (.iconst 0, 1) := by decide +kernel
theorem dX12_init_4 : decode cX12_init 4 = .ok (.iconst 0, 1) := by decide +kernel
theorem dX12_init_5 : decode cX12_init 5 = .ok (.invokespecial 1, 3) := by decide +kernel
theorem dX12_init_8 : decode cX12_init 8 = .ok (.return_, 1) := by decide +kernel
theorem dX13_in_0 : decode cX13_in 0 = .ok (.lload_n 0, 1) := by decide +kernel
theorem dX13_in_1 : decode cX13_in 1 = .ok (.lload_n 2, 1) := by decide +kernel
theorem dX13_in_2 : decode cX13_in 2 = .ok (.lcmp, 1) := by decide +kernel
theorem dX13_in_3 : decode cX13_in 3 = .ok (.ifCond .lt 14, 3) := by decide +kernel
theorem dX13_in_6 : decode cX13_in 6 = .ok (.lload_n 0, 1) := by decide +kernel
theorem dX13_in_7 : decode cX13_in 7 = .ok (.lload 4, 2) := by decide +kernel
theorem dX13_in_9 : decode cX13_in 9 = .ok (.lcmp, 1) := by decide +kernel
theorem dX13_in_10 : decode cX13_in 10 = .ok (.ifCond .gt 7, 3) := by decide +kernel
theorem dX13_in_13 : decode cX13_in 13 = .ok (.iconst 1, 1) := by decide +kernel
theorem dX13_in_14 : decode cX13_in 14 = .ok (.goto 4, 3) := by decide +kernel
theorem dX13_in_17 : decode cX13_in 17 = .ok (.iconst 0, 1) := by decide +kernel
theorem dX13_in_18 : decode cX13_in 18 = .ok (.ireturn, 1) := by decide +kernel
theorem dX13_init_0 : decode cX13_init 0 = .ok (.aload_n 0, 1) := by decide +kernel
theorem dX13_init_1 : decode cX13_init 1 = .ok (.invokespecial 1, 3) := by decide +kernel
theorem dX13_init_4 : decode cX13_init 4 = .ok (.aload_n 0, 1) := by decide +kernel
theorem dX13_init_5 : decode cX13_init 5 = .ok (.iconst 4, 1) := by decide +kernel
theorem dX13_init_6 : decode cX13_init 6 = .ok (.newarray .int, 2) := by decide +kernel
theorem dX13_init_8 : decode cX13_init 8 = .ok (.putfield 9, 3) := by decide +kernel
theorem dX13_init_11 : decode cX13_init 11 = .ok (.aload_n 0, 1) := by decide +kernel
theorem dX13_init_12 : decode cX13_init 12 = .ok (.iconst 4, 1) := by decide +kernel
theorem dX13_init_13 : decode cX13_init 13 = .ok (.newarray .int, 2) := by decide +kernel
theorem dX13_init_15 : decode cX13_init 15 = .ok (.putfield 13, 3) := by decide +kernel
theorem dX13_init_18 : decode cX13_init 18 = .ok (.aload_n 0, 1) := by decide +kernel
theorem dX13_init_19 : decode cX13_init 19 = .ok (.bipush 96, 2) := by decide +kernel
theorem dX13_init_21 : decode cX13_init 21 = .ok (.newarray .int, 2) := by decide +kernel
theorem dX13_init_23 : decode cX13_init 23 = .ok (.putfield 16, 3) := by decide +kernel
theorem dX13_init_26 : decode cX13_init 26 = .ok (.aload_n 0, 1) := by decide +kernel
theorem dX13_init_27 : decode cX13_init 27 = .ok (.bipush 96, 2) := by decide +kernel
theorem dX13_init_29 : decode cX13_init 29 = .ok (.newarray .int, 2) := by decide +kernel
theorem dX13_init_31 : decode cX13_init 31 = .ok (.putfield 19, 3) := by decide +kernel
theorem dX13_init_34 : decode cX13_init 34 = .ok (.aload_n 0, 1) := by decide +kernel
theorem dX13_init_35 : decode cX13_init 35 = .ok (.bipush 96, 2) := by decide +kernel
theorem dX13_init_37 : decode cX13_init 37 = .ok (.newarray .int, 2) := by decide +kernel
theorem dX13_init_39 : decode cX13_init 39 = .ok (.putfield 22, 3) := by decide +kernel
theorem dX13_init_42 : decode cX13_init 42 = .ok (.aload_n 0, 1) := by decide +kernel
theorem dX13_init_43 : decode cX13_init 43 = .ok (.bipush 96, 2) := by decide +kernel
theorem dX13_init_45 : decode cX13_init 45 = .ok (.newarray .int, 2) := by decide +kernel
theorem dX13_init_47 : decode cX13_init 47 = .ok (.putfield 25, 3) := by decide +kernel
theorem dX13_init_50 : decode cX13_init 50 = .ok (.aload_n 0, 1) := by decide +kernel
theorem dX13_init_51 : decode cX13_init 51 = .ok (.bipush 96, 2) := by decide +kernel
theorem dX13_init_53 : decode cX13_init 53 = .ok (.newarray .int, 2) := by decide +kernel
theorem dX13_init_55 : decode cX13_init 55 = .ok (.putfield 28, 3) := by decide +kernel
theorem dX13_init_58 : decode cX13_init 58 = .ok (.aload_n 0, 1) := by decide +kernel
theorem dX13_init_59 : decode cX13_init 59 = .ok (.bipush 96, 2) := by decide +kernel
theorem dX13_init_61 : decode cX13_init 61 = .ok (.newarray .int, 2) := by decide +kernel
theorem dX13_init_63 : decode cX13_init 63 = .ok (.putfield 31, 3) := by decide +kernel
theorem dX13_init_66 : decode cX13_init 66 = .ok (.aload_n 0, 1) := by decide +kernel
theorem dX13_init_67 : decode cX13_init 67 = .ok (.bipush 96, 2) := by decide +kernel
theorem dX13_init_69 : decode cX13_init 69 = .ok (.newarray .int, 2) := by decide +kernel
theorem dX13_init_71 : decode cX13_init 71 = .ok (.putfield 34, 3) := by decide +kernel
theorem dX13_init_74 : decode cX13_init 74 = .ok (.aload_n 0, 1) := by decide +kernel
theorem dX13_init_75 : decode cX13_init 75 = .ok (.iconst 4, 1) := by decide +kernel
theorem dX13_init_76 : decode cX13_init 76 = .ok (.newarray .int, 2) := by decide +kernel
theorem dX13_init_78 : decode cX13_init 78 = .ok (.putfield 37, 3) := by decide +kernel
theorem dX13_init_81 : decode cX13_init 81 = .ok (.aload_n 0, 1) := by decide +kernel
theorem dX13_init_82 : decode cX13_init 82 = .ok (.iconst 4, 1) := by decide +kernel
theorem dX13_init_83 : decode cX13_init 83 = .ok (.newarray .int, 2) := by decide +kernel
theorem dX13_init_85 : decode cX13_init 85 = .ok (.putfield 40, 3) := by decide +kernel
theorem dX13_init_88 : decode cX13_init 88 = .ok (.aload_n 0, 1) := by decide +kernel
theorem dX13_init_89 : decode cX13_init 89 = .ok (.sipush 128, 3) := by decide +kernel
theorem dX13_init_92 : decode cX13_init 92 = .ok (.newarray .int, 2) := by decide +kernel
theorem dX13_init_94 : decode cX13_init 94 = .ok (.putfield 43, 3) := by decide +kernel
theorem dX13_init_97 : decode cX13_init 97 = .ok (.aload_n 0, 1) := by decide +kernel
theorem dX13_init_98 : decode cX13_init 98 = .ok (.sipush 160, 3) := by decide +kernel
theorem dX13_init_101 : decode cX13_init 101 = .ok (.newarray .int, 2) := by decide +kernel
theorem dX13_init_103 : decode cX13_init 103 = .ok (.putfield 46, 3) := by decide +kernel
theorem dX13_init_106 : decode cX13_init 106 = .ok (.aload_n 0, 1) := by decide +kernel
theorem dX13_init_107 : decode cX13_init 107 = .ok (.sipush 160, 3) := by decide +kernel
theorem dX13_init_110 : decode cX13_init 110 = .ok (.newarray .int, 2) := by decide +kernel
theorem dX13_init_112 : decode cX13_init 112 = .ok (.putfield 49, 3) := by decide +kernel
theorem dX13_init_115 : decode cX13_init 115 = .ok (.aload_n 0, 1) := by decide +kernel
theorem dX13_init_116 : decode cX13_init 116 = .ok (.sipush 160, 3) := by decide +kernel
theorem dX13_init_119 : decode cX13_init 119 = .ok (.newarray .int, 2) := by decide +kernel
theorem dX13_init_121 : decode cX13_init 121 = .ok (.putfield 52, 3) := by decide +kernel
theorem dX13_init_124 : decode cX13_init 124 = .ok (.aload_n 0, 1) := by decide +kernel
theorem dX13_init_125 : decode cX13_init 125 = .ok (.sipush 160, 3) := by decide +kernel
theorem dX13_init_128 : decode cX13_init 128 = .ok (.newarray .int, 2) := by decide +kernel
theorem dX13_init_130 : decode cX13_init 130 = .ok (.putfield 55, 3) := by decide +kernel
theorem dX13_init_133 : decode cX13_init 133 = .ok (.aload_n 0, 1) := by decide +kernel
theorem dX13_init_134 : decode cX13_init 134 = .ok (.sipush 160, 3) := by decide +kernel
theorem dX13_init_137 : decode cX13_init 137 = .ok (.newarray .int, 2) := by decide +kernel
theorem dX13_init_139 : decode cX13_init 139 = .ok (.putfield 58, 3) := by decide +kernel
theorem dX13_init_142 : decode cX13_init 142 = .ok (.aload_n 0, 1) := by decide +kernel
theorem dX13_init_143 : decode cX13_init 143 = .ok (.sipush 160, 3) := by decide +kernel
theorem dX13_init_146 : decode cX13_init 146 = .ok (.newarray .int, 2) := by decide +kernel
theorem dX13_init_148 : decode cX13_init 148 = .ok (.putfield 61, 3) := by decide +kernel
theorem dX13_init_151 : decode cX13_init 151 = .ok (.aload_n 0, 1) := by decide +kernel
theorem dX13_init_152 : decode cX13_init 152 = .ok (.sipush 160, 3) := by decide +kernel
theorem dX13_init_155 : decode cX13_init 155 = .ok (.newarray .int, 2) := by decide +kernel
theorem dX13_init_157 : decode cX13_init 157 = .ok (.putfield 64, 3) := by decide +kernel
theorem dX13_init_160 : decode cX13_init 160 = .ok (.aload_n 0, 1) := by decide +kernel
theorem dX13_init_161 : decode cX13_init 161 = .ok (.iconst 4, 1) := by decide +kernel
theorem dX13_init_162 : decode cX13_init 162 = .ok (.newarray .int, 2) := by decide +kernel
theorem dX13_init_164 : decode cX13_init 164 = .ok (.putfield 67, 3) := by decide +kernel
theorem dX13_init_167 : decode cX13_init 167 = .ok (.aload_n 0, 1) := by decide +kernel
theorem dX13_init_168 : decode cX13_init 168 = .ok (.iconst 4, 1) := by decide +kernel
theorem dX13_init_169 : decode cX13_init 169 = .ok (.newarray .int, 2) := by decide +kernel
theorem dX13_init_171 : decode cX13_init 171 = .ok (.putfield 70, 3) := by decide +kernel
theorem dX13_init_174 : decode cX13_init 174 = .ok (.aload_n 0, 1) := by decide +kernel
theorem dX13_init_175 : decode cX13_init 175 = .ok (.bipush 64, 2) := by decide +kernel
theorem dX13_init_177 : decode cX13_init 177 = .ok (.newarray .int, 2) := by decide +kernel
theorem dX13_init_179 : decode cX13_init 179 = .ok (.putfield 73, 3) := by decide +kernel
theorem dX13_init_182 : decode cX13_init 182 = .ok (.aload_n 0, 1) := by decide +kernel
theorem dX13_init_183 : decode cX13_init 183 = .ok (.iconst 4, 1) := by decide +kernel
theorem dX13_init_184 : decode cX13_init 184 = .ok (.newarray .boolean, 2) := by decide +kernel
theorem dX13_init_186 : decode cX13_init 186 = .ok (.putfield 76, 3) := by decide +kernel
theorem dX13_init_189 : decode cX13_init 189 = .ok (.aload_n 0, 1) := by decide +kernel
theorem dX13_init_190 : decode cX13_init 190 = .ok (.iconst 4, 1) := by decide +kernel
theorem dX13_init_191 : decode cX13_init 191 = .ok (.newarray .boolean, 2) := by decide +kernel
theorem dX13_init_193 : decode cX13_init 193 = .ok (.putfield 80, 3) := by decide +kernel
theorem dX13_init_196 : decode cX13_init 196 = .ok (.aload_n 0, 1) := by decide +kernel
theorem dX13_init_197 : decode cX13_init 197 = .ok (.bipush 80, 2) := by decide +kernel
theorem dX13_init_199 : decode cX13_init 199 = .ok (.newarray .byte, 2) := by decide +kernel
theorem dX13_init_201 : decode cX13_init 201 = .ok (.putfield 83, 3) := by decide +kernel
theorem dX13_init_204 : decode cX13_init 204 = .ok (.aload_n 0, 1) := by decide +kernel
theorem dX13_init_205 : decode cX13_init 205 = .ok (.bipush 8, 2) := by decide +kernel
theorem dX13_init_207 : decode cX13_init 207 = .ok (.newarray .int, 2) := by decide +kernel
theorem dX13_init_209 : decode cX13_init 209 = .ok (.putfield 87, 3) := by decide +kernel
theorem dX13_init_212 : decode cX13_init 212 = .ok (.aload_n 0, 1) := by decide +kernel
theorem dX13_init_213 : decode cX13_init 213 = .ok (.bipush 21, 2) := by decide +kernel
theorem dX13_init_215 : decode cX13_init 215 = .ok (.newarray .int, 2) := by decide +kernel
theorem dX13_init_217 : decode cX13_init 217 = .ok (.putfield 90, 3) := by decide +kernel
theorem dX13_init_220 : decode cX13_init 220 = .ok (.aload_n 0, 1) := by decide +kernel
theorem dX13_init_221 : decode cX13_init 221 = .ok (.bipush 20, 2) := by decide +kernel
theorem dX13_init_223 : decode cX13_init 223 = .ok (.newarray .int, 2) := by decide +kernel
theorem dX13_init_225 : decode cX13_init 225 = .ok (.putfield 93, 3) := by decide +kernel
theorem dX13_init_228 : decode cX13_init 228 = .ok (.aload_n 0, 1) := by decide +kernel
theorem dX13_init_229 : decode cX13_init 229 = .ok (.sipush 300, 3) := by decide +kernel
theorem dX13_init_232 : decode cX13_init 232 = .ok (.newarray .int, 2) := by decide +kernel
theorem dX13_init_234 : decode cX13_init 234 = .ok (.putfield 96, 3) := by decide +kernel
theorem dX13_init_237 : decode cX13_init 237 = .ok (.aload_n 0, 1) := by decide +kernel
theorem dX13_init_238 : decode cX13_init 238 = .ok (.sipush 300, 3) := by decide +kernel
theorem dX13_init_241 : decode cX13_init 241 = .ok (.newarray .int, 2) := by decide +kernel
theorem dX13_init_243 : decode cX13_init 243 = .ok (.putfield 99, 3) := by decide +kernel
theorem dX13_init_246 : decode cX13_init 246 = .ok (.aload_n 0, 1) := by decide +kernel
theorem dX13_init_247 : decode cX13_init 247 = .ok (.sipush 301, 3) := by decide +kernel
theorem dX13_init_250 : decode cX13_init 250 = .ok (.newarray .int, 2) := by decide +kernel
theorem dX13_init_252 : decode cX13_init 252 = .ok (.putfield 102, 3) := by decide +kernel
theorem dX13_init_255 : decode cX13_init 255 = .ok (.aload_n 0, 1) := by decide +kernel
theorem dX13_init_256 : decode cX13_init 256 = .ok (.new 105, 3) := by decide +kernel
theorem dX13_init_259 : decode cX13_init 259 = .ok (.dup, 1) := by decide +kernel
theorem dX13_init_260 : decode cX13_init 260 = .ok (.invokespecial 107, 3) := by decide +kernel
theorem dX13_init_263 : decode cX13_init 263 = .ok (.putfield 108, 3) := by decide +kernel
theorem dX13_init_266 : decode cX13_init 266 = .ok (.aload_n 0, 1) := by decide +kernel
theorem dX13_init_267 : decode cX13_init 267 = .ok (.sipush 3000, 3) := by decide +kernel
theorem dX13_init_270 : decode cX13_init 270 = .ok (.newarray .byte, 2) := by decide +kernel
theorem dX13_init_272 : decode cX13_init 272 = .ok (.putfield 112, 3) := by decide +kernel
theorem dX13_init_275 : decode cX13_init 275 = .ok (.aload_n 0, 1) := by decide +kernel
theorem dX13_init_276 : decode cX13_init 276 = .ok (.aload_n 0, 1) := by decide +kernel
theorem dX13_init_277 : decode cX13_init 277 = .ok (.getfield 112, 3) := by decide +kernel
theorem dX13_init_280 : decode cX13_init 280 = .ok (.putfield 115, 3) := by decide +kernel
theorem dX13_init_283 : decode cX13_init 283 = .ok (.aload_n 0, 1) := by decide +kernel
theorem dX13_init_284 : decode cX13_init 284 = .ok (.iconst (-1), 1) := by decide +kernel
theorem dX13_init_285 : decode cX13_init 285 = .ok (.putfield 118, 3) := by decide +kernel
theorem dX13_init_288 : decode cX13_init 288 = .ok (.aload_n 0, 1) := by decide +kernel
theorem dX13_init_289 : decode cX13_init 289 = .ok (.sipush 2000, 3) := by decide +kernel
theorem dX13_init_292 : decode cX13_init 292 = .ok (.newarray .int, 2) := by decide +kernel
theorem dX13_init_294 : decode cX13_init 294 = .ok (.putfield 122, 3) := by decide +kernel
theorem dX13_init_297 : decode cX13_init 297 = .ok (.aload_n 0, 1) := by decide +kernel
theorem dX13_init_298 : decode cX13_init 298 = .ok (.sipush 24000, 3) := by decide +kernel
theorem dX13_init_301 : decode cX13_init 301 = .ok (.newarray .byte, 2) := by decide +kernel
theorem dX13_init_303 : decode cX13_init 303 = .ok (.putfield 125, 3) := by decide +kernel
theorem dX13_init_306 : decode cX13_init 306 = .ok (.aload_n 0, 1) := by decide +kernel
theorem dX13_init_307 : decode cX13_init 307 = .ok (.sipush 3000, 3) := by decide +kernel
theorem dX13_init_310 : decode cX13_init 310 = .ok (.newarray .byte, 2) := by decide +kernel
theorem dX13_init_312 : decode cX13_init 312 = .ok (.putfield 128, 3) := by decide +kernel
theorem dX13_init_315 : decode cX13_init 315 = .ok (.aload_n 0, 1) := by decide +kernel
theorem dX13_init_316 : decode cX13_init 316 = .ok (.bipush 32, 2) := by decide +kernel
theorem dX13_init_318 : decode cX13_init 318 = .ok (.newarray .int, 2) := by decide +kernel
theorem dX13_init_320 : decode cX13_init 320 = .ok (.putfield 131, 3) := by decide +kernel
theorem dX13_init_323 : decode cX13_init 323 = .ok (.aload_n 0, 1) := by decide +kernel
theorem dX13_init_324 : decode cX13_init 324 = .ok (.bipush 32, 2) := by decide +kernel
theorem dX13_init_326 : decode cX13_init 326 = .ok (.newarray .int, 2) := by decide +kernel
theorem dX13_init_328 : decode cX13_init 328 = .ok (.putfield 134, 3) := by decide +kernel
theorem dX13_init_331 : decode cX13_init 331 = .ok (.aload_n 0, 1) := by decide +kernel
theorem dX13_init_332 : decode cX13_init 332 = .ok (.bipush 16, 2) := by decide +kernel
theorem dX13_init_334 : decode cX13_init 334 = .ok (.newarray .int, 2) := by decide +kernel
theorem dX13_init_336 : decode cX13_init 336 = .ok (.putfield 137, 3) := by decide +kernel
theorem dX13_init_339 : decode cX13_init 339 = .ok (.aload_n 0, 1) := by decide +kernel
theorem dX13_init_340 : decode cX13_init 340 = .ok (.bipush 32, 2) := by decide +kernel
theorem dX13_init_342 : decode cX13_init 342 = .ok (.newarray .boolean, 2) := by decide +kernel
theorem dX13_init_344 : decode cX13_init 344 = .ok (.putfield 140, 3) := by decide +kernel
theorem dX13_init_347 : decode cX13_init 347 = .ok (.aload_n 0, 1) := by decide +kernel
theorem dX13_init_348 : decode cX13_init 348 = .ok (.sipush 160, 3) := by decide +kernel
theorem dX13_init_351 : decode cX13_init 351 = .ok (.newarray .int, 2) := by decide +kernel
theorem dX13_init_353 : decode cX13_init 353 = .ok (.putfield 143, 3) := by decide +kernel
theorem dX13_init_356 : decode cX13_init 356 = .ok (.aload_n 0, 1) := by decide +kernel
theorem dX13_init_357 : decode cX13_init 357 = .ok (.sipush 160, 3) := by decide +kernel
theorem dX13_init_360 : decode cX13_init 360 = .ok (.newarray .int, 2) := by decide +kernel
theorem dX13_init_362 : decode cX13_init 362 = .ok (.putfield 146, 3) := by decide +kernel
theorem dX13_init_365 : decode cX13_init 365 = .ok (.aload_n 0, 1) := by decide +kernel
theorem dX13_init_366 : decode cX13_init 366 = .ok (.sipush 160, 3) := by decide +kernel
theorem dX13_init_369 : decode cX13_init 369 = .ok (.newarray .int, 2) := by decide +kernel
theorem dX13_init_371 : decode cX13_init 371 = .ok (.putfield 149, 3) := by decide +kernel
theorem dX13_init_374 : decode cX13_init 374 = .ok (.aload_n 0, 1) := by decide +kernel
theorem dX13_init_375 : decode cX13_init 375 = .ok (.sipush 160, 3) := by decide +kernel
theorem dX13_init_378 : decode cX13_init 378 = .ok (.newarray .int, 2) := by decide +kernel
theorem dX13_init_380 : decode cX13_init 380 = .ok (.putfield 152, 3) := by decide +kernel
theorem dX13_init_383 : decode cX13_init 383 = .ok (.aload_n 0, 1) := by decide +kernel
theorem dX13_init_384 : decode cX13_init 384 = .ok (.sipush 160, 3) := by decide +kernel
theorem dX13_init_387 : decode cX13_init 387 = .ok (.newarray .int, 2) := by decide +kernel
theorem dX13_init_389 : decode cX13_init 389 = .ok (.putfield 155, 3) := by decide +kernel
theorem dX13_init_392 : decode cX13_init 392 = .ok (.aload_n 0, 1) := by decide +kernel
theorem dX13_init_393 : decode cX13_init 393 = .ok (.sipush 160, 3) := by decide +kernel
theorem dX13_init_396 : decode cX13_init 396 = .ok (.newarray .int, 2) := by decide +kernel
theorem dX13_init_398 : decode cX13_init 398 = .ok (.putfield 158, 3) := by decide +kernel
theorem dX13_init_401 : decode cX13_init 401 = .ok (.aload_n 0, 1) := by decide +kernel
theorem dX13_init_402 : decode cX13_init 402 = .ok (.sipush 160, 3) := by decide +kernel
theorem dX13_init_405 : decode cX13_init 405 = .ok (.newarray .int, 2) := by decide +kernel
theorem dX13_init_407 : decode cX13_init 407 = .ok (.putfield 161, 3) := by decide +kernel
theorem dX13_init_410 : decode cX13_init 410 = .ok (.aload_n 0, 1) := by decide +kernel
theorem dX13_init_411 : decode cX13_init 411 = .ok (.sipush 160, 3) := by decide +kernel
theorem dX13_init_414 : decode cX13_init 414 = .ok (.newarray .int, 2) := by decide +kernel
theorem dX13_init_416 : decode cX13_init 416 = .ok (.putfield 164, 3) := by decide +kernel
theorem dX13_init_419 : decode cX13_init 419 = .ok (.aload_n 0, 1) := by decide +kernel
theorem dX13_init_420 : decode cX13_init 420 = .ok (.bipush 96, 2) := by decide +kernel
theorem dX13_init_422 : decode cX13_init 422 = .ok (.newarray .int, 2) := by decide +kernel
theorem dX13_init_424 : decode cX13_init 424 = .ok (.putfield 167, 3) := by decide +kernel
theorem dX13_init_427 : decode cX13_init 427 = .ok (.aload_n 0, 1) := by decide +kernel
theorem dX13_init_428 : decode cX13_init 428 = .ok (.iconst 4, 1) := by decide +kernel
theorem dX13_init_429 : decode cX13_init 429 = .ok (.newarray .int, 2) := by decide +kernel
theorem dX13_init_431 : decode cX13_init 431 = .ok (.putfield 170, 3) := by decide +kernel
theorem dX13_init_434 : decode cX13_init 434 = .ok (.aload_n 0, 1) := by decide +kernel
theorem dX13_init_435 : decode cX13_init 435 = .ok (.invokevirtual 173, 3) := by decide +kernel
theorem dX13_init_438 : decode cX13_init 438 = .ok (.return_, 1) := by decide +kernel
theorem dX13_anew_0 : decode cX13_anew 0 = .ok (.aload_n 0, 1) := by decide +kernel
theorem dX13_anew_1 : decode cX13_anew 1 = .ok (.iconst 0, 1) := by decide +kernel
theorem dX13_anew_2 : decode cX13_anew 2 = .ok (.putfield 176, 3) := by decide +kernel
theorem dX13_anew_5 : decode cX13_anew 5 = .ok (.aload_n 0, 1) := by decide +kernel
theorem dX13_anew_6 : decode cX13_anew 6 = .ok (.iconst 0, 1) := by decide +kernel
theorem dX13_anew_7 : decode cX13_anew 7 = .ok (.putfield 179, 3) := by decide +kernel
theorem dX13_anew_10 : decode cX13_anew 10 = .ok (.aload_n 0, 1) := by decide +kernel
theorem dX13_anew_11 : decode cX13_anew 11 = .ok (.bipush 10, 2) := by decide +kernel
theorem dX13_anew_13 : decode cX13_anew 13 = .ok (.putfield 182, 3) := by decide +kernel
theorem dX13_anew_16 : decode cX13_anew 16 = .ok (.iconst 0, 1) := by decide +kernel
theorem dX13_anew_17 : decode cX13_anew 17 = .ok (.istore_n 1, 1) := by decide +kernel
theorem dX13_anew_18 : decode cX13_anew 18 = .ok (.iload_n 1, 1) := by decide +kernel
theorem dX13_anew_19 : decode cX13_anew 19 = .ok (.iconst 4, 1) := by decide +kernel
theorem dX13_anew_20 : decode cX13_anew 20 = .ok (.if_icmp .ge 57, 3) := by decide +kernel
theorem dX13_anew_23 : decode cX13_anew 23 = .ok (.aload_n 0, 1) := by decide +kernel
theorem dX13_anew_24 : decode cX13_anew 24 = .ok (.getfield 9, 3) := by decide +kernel
theorem dX13_anew_27 : decode cX13_anew 27 = .ok (.iload_n 1, 1) := by decide +kernel
theorem dX13_anew_28 : decode cX13_anew 28 = .ok (.iconst 0, 1) := by decide +kernel
theorem dX13_anew_29 : decode cX13_anew 29 = .ok (.iastore, 1) := by decide +kernel
theorem dX13_anew_30 : decode cX13_anew 30 = .ok (.aload_n 0, 1) := by decide +kernel
theorem dX13_anew_31 : decode cX13_anew 31 = .ok (.getfield 13, 3) := by decide +kernel
theorem dX13_anew_34 : decode cX13_anew 34 = .ok (.iload_n 1, 1) := by decide +kernel
theorem dX13_anew_35 : decode cX13_anew 35 = .ok (.ldc 185, 2) := by decide +kernel
theorem dX13_anew_37 : decode cX13_anew 37 = .ok (.iastore, 1) := by decide +kernel
theorem dX13_anew_38 : decode cX13_anew 38 = .ok (.aload_n 0, 1) := by decide +kernel
theorem dX13_anew_39 : decode cX13_anew 39 = .ok (.getfield 37, 3) := by decide +kernel
theorem dX13_anew_42 : decode cX13_anew 42 = .ok (.iload_n 1, 1) := by decide +kernel
theorem dX13_anew_43 : decode cX13_anew 43 = .ok (.iconst 0, 1) := by decide +kernel
theorem dX13_anew_44 : decode cX13_anew 44 = .ok (.iastore, 1) := by decide +kernel
theorem dX13_anew_45 : decode cX13_anew 45 = .ok (.iconst 0, 1) := by decide +kernel
theorem dX13_anew_46 : decode cX13_anew 46 = .ok (.istore_n 2, 1) := by decide +kernel
theorem dX13_anew_47 : decode cX13_anew 47 = .ok (.iload_n 2, 1) := by decide +kernel
theorem dX13_anew_48 : decode cX13_anew 48 = .ok (.bipush 40, 2) := by decide +kernel
theorem dX13_anew_50 : decode cX13_anew 50 = .ok (.if_icmp .ge 21, 3) := by decide +kernel
theorem dX13_anew_53 : decode cX13_anew 53 = .ok (.aload_n 0, 1) := by decide +kernel
theorem dX13_anew_54 : decode cX13_anew 54 = .ok (.getfield 46, 3) := by decide +kernel
theorem dX13_anew_57 : decode cX13_anew 57 = .ok (.bipush 40, 2) := by decide +kernel
theorem dX13_anew_59 : decode cX13_anew 59 = .ok (.iload_n 1, 1) := by decide +kernel
theorem dX13_anew_60 : decode cX13_anew 60 = .ok (.imul, 1) := by decide +kernel
theorem dX13_anew_61 : decode cX13_anew 61 = .ok (.iload_n 2, 1) := by decide +kernel
theorem dX13_anew_62 : decode cX13_anew 62 = .ok (.iadd, 1) := by decide +kernel
theorem dX13_anew_63 : decode cX13_anew 63 = .ok (.iconst 0, 1) := by decide +kernel
theorem dX13_anew_64 : decode cX13_anew 64 = .ok (.iastore, 1) := by decide +kernel
theorem dX13_anew_65 : decode cX13_anew 65 = .ok (.iinc 2 1, 3) := by decide +kernel
theorem dX13_anew_68 : decode cX13_anew 68 = .ok (.goto (-21), 3) := by decide +kernel
theorem dX13_anew_71 : decode cX13_anew 71 = .ok (.iinc 1 1, 3) := by decide +kernel
theorem dX13_anew_74 : decode cX13_anew 74 = .ok (.goto (-56), 3) := by decide +kernel
theorem dX13_anew_77 : decode cX13_anew 77 = .ok (.iconst 0, 1) := by decide +kernel
theorem dX13_anew_78 : decode cX13_anew 78 = .ok (.istore_n 1, 1) := by decide +kernel
theorem dX13_anew_79 : decode cX13_anew 79 = .ok (.iload_n 1, 1) := by decide +kernel
theorem dX13_anew_80 : decode cX13_anew 80 = .ok (.iconst 4, 1) := by decide +kernel
theorem dX13_anew_81 : decode cX13_anew 81 = .ok (.if_icmp .ge 16, 3) := by decide +kernel
theorem dX13_anew_84 : decode cX13_anew 84 = .ok (.aload_n 0, 1) := by decide +kernel
theorem dX13_anew_85 : decode cX13_anew 85 = .ok (.getfield 67, 3) := by decide +kernel
theorem dX13_anew_88 : decode cX13_anew 88 = .ok (.iload_n 1, 1) := by decide +kernel
theorem dX13_anew_89 : decode cX13_anew 89 = .ok (.iconst (-1), 1) := by decide +kernel
theorem dX13_anew_90 : decode cX13_anew 90 = .ok (.iastore, 1) := by decide +kernel
theorem dX13_anew_91 : decode cX13_anew 91 = .ok (.iinc 1 1, 3) := by decide +kernel
theorem dX13_anew_94 : decode cX13_anew 94 = .ok (.goto (-15), 3) := by decide +kernel
theorem dX13_anew_97 : decode cX13_anew 97 = .ok (.aload_n 0, 1) := by decide +kernel
theorem dX13_anew_98 : decode cX13_anew 98 = .ok (.iconst 0, 1) := by decide +kernel
theorem dX13_anew_99 : decode cX13_anew 99 = .ok (.putfield 186, 3) := by decide +kernel
theorem dX13_anew_102 : decode cX13_anew 102 = .ok (.aload_n 0, 1) := by decide +kernel
theorem dX13_anew_103 : decode cX13_anew 103 = .ok (.iconst 0, 1) := by decide +kernel
theorem dX13_anew_104 : decode cX13_anew 104 = .ok (.putfield 189, 3) := by decide +kernel
theorem dX13_anew_107 : decode cX13_anew 107 = .ok (.aload_n 0, 1) := by decide +kernel
theorem dX13_anew_108 : decode cX13_anew 108 = .ok (.iconst 0, 1) := by decide +kernel
theorem dX13_anew_109 : decode cX13_anew 109 = .ok (.putfield 192, 3) := by decide +kernel
theorem dX13_anew_112 : decode cX13_anew 112 = .ok (.aload_n 0, 1) := by decide +kernel
theorem dX13_anew_113 : decode cX13_anew 113 = .ok (.iconst 0, 1) := by decide +kernel
theorem dX13_anew_114 : decode cX13_anew 114 = .ok (.putfield 195, 3) := by decide +kernel
theorem dX13_anew_117 : decode cX13_anew 117 = .ok (.aload_n 0, 1) := by decide +kernel
theorem dX13_anew_118 : decode cX13_anew 118 = .ok (.iconst 0, 1) := by decide +kernel
theorem dX13_anew_119 : decode cX13_anew 119 = .ok (.putfield 198, 3) := by decide +kernel
theorem dX13_anew_122 : decode cX13_anew 122 = .ok (.return_, 1) := by decide +kernel
theorem dX13_isClass_0 : decode cX13_isClass 0 = .ok (.iload_n 0, 1) := by decide +kernel
theorem dX13_isClass_1 : decode cX13_isClass 1 = .ok (.i2l, 1) := by decide +kernel
theorem dX13_isClass_2 : decode cX13_isClass 2 = .ok (.lconst 0, 1) := by decide +kernel
theorem dX13_isClass_3 : decode cX13_isClass 3 = .ok (.ldc2_w 201, 3) := by decide +kernel
theorem dX13_isClass_6 : decode cX13_isClass 6 = .ok (.invokestatic 203, 3) := by decide +kernel
theorem dX13_isClass_9 : decode cX13_isClass 9 = .ok (.ireturn, 1) := by decide +kernel
theorem dX13_halving_0 : decode cX13_halving 0 = .ok (.iconst 0, 1) := by decide +kernel
theorem dX13_halving_1 : decode cX13_halving 1 = .ok (.istore_n 2, 1) := by decide +kernel
theorem dX13_halving_2 : decode cX13_halving 2 = .ok (.iconst 1, 1) := by decide +kernel
theorem dX13_halving_3 : decode cX13_halving 3 = .ok (.iload_n 2, 1) := by decide +kernel
theorem dX13_halving_4 : decode cX13_halving 4 = .ok (.ishl, 1) := by decide +kernel
theorem dX13_halving_5 : decode cX13_halving 5 = .ok (.aload_n 0, 1) := by decide +kernel
theorem dX13_halving_6 : decode cX13_halving 6 = .ok (.getfield 40, 3) := by decide +kernel
theorem dX13_halving_9 : decode cX13_halving 9 = .ok (.iload_n 1, 1) := by decide +kernel
theorem dX13_halving_10 : decode cX13_halving 10 = .ok (.iaload, 1) := by decide +kernel
theorem dX13_halving_11 : decode cX13_halving 11 = .ok (.if_icmp .ge 9, 3) := by decide +kernel
theorem dX13_halving_14 : decode cX13_halving 14 = .ok (.iinc 2 1, 3) := by decide +kernel
theorem dX13_halving_17 : decode cX13_halving 17 = .ok (.goto (-15), 3) := by decide +kernel
theorem dX13_halving_20 : decode cX13_halving 20 = .ok (.iload_n 2, 1) := by decide +kernel
theorem dX13_halving_21 : decode cX13_halving 21 = .ok (.ireturn, 1) := by decide +kernel
theorem dX13_rounds_0 : decode cX13_rounds 0 = .ok (.aload_n 0, 1) := by decide +kernel
theorem dX13_rounds_1 : decode cX13_rounds 1 = .ok (.iload_n 1, 1) := by decide +kernel
theorem dX13_rounds_2 : decode cX13_rounds 2 = .ok (.invokevirtual 207, 3) := by decide +kernel
theorem dX13_rounds_5 : decode cX13_rounds 5 = .ok (.iconst 1, 1) := by decide +kernel
theorem dX13_rounds_6 : decode cX13_rounds 6 = .ok (.isub, 1) := by decide +kernel
theorem dX13_rounds_7 : decode cX13_rounds 7 = .ok (.ireturn, 1) := by decide +kernel
theorem dX13_fights_0 : decode cX13_fights 0 = .ok (.aload_n 0, 1) := by decide +kernel
theorem dX13_fights_1 : decode cX13_fights 1 = .ok (.getfield 40, 3) := by decide +kernel
theorem dX13_fights_4 : decode cX13_fights 4 = .ok (.iload_n 1, 1) := by decide +kernel
theorem dX13_fights_5 : decode cX13_fights 5 = .ok (.iaload, 1) := by decide +kernel
theorem dX13_fights_6 : decode cX13_fights 6 = .ok (.istore_n 2, 1) := by decide +kernel
theorem dX13_fights_7 : decode cX13_fights 7 = .ok (.aload_n 0, 1) := by decide +kernel
theorem dX13_fights_8 : decode cX13_fights 8 = .ok (.getfield 37, 3) := by decide +kernel
theorem dX13_fights_11 : decode cX13_fights 11 = .ok (.iload_n 1, 1) := by decide +kernel
theorem dX13_fights_12 : decode cX13_fights 12 = .ok (.iaload, 1) := by decide +kernel
theorem dX13_fights_13 : decode cX13_fights 13 = .ok (.ifCond .ne 7, 3) := by decide +kernel
theorem dX13_fights_16 : decode cX13_fights 16 = .ok (.iconst 0, 1) := by decide +kernel
theorem dX13_fights_17 : decode cX13_fights 17 = .ok (.goto 36, 3) := by decide +kernel
theorem dX13_fights_20 : decode cX13_fights 20 = .ok (.aload_n 0, 1) := by decide +kernel
theorem dX13_fights_21 : decode cX13_fights 21 = .ok (.getfield 37, 3) := by decide +kernel
theorem dX13_fights_24 : decode cX13_fights 24 = .ok (.iload_n 1, 1) := by decide +kernel
theorem dX13_fights_25 : decode cX13_fights 25 = .ok (.iaload, 1) := by decide +kernel
theorem dX13_fights_26 : decode cX13_fights 26 = .ok (.iconst 1, 1) := by decide +kernel
theorem dX13_fights_27 : decode cX13_fights 27 = .ok (.if_icmp .ne 13, 3) := by decide +kernel
theorem dX13_fights_30 : decode cX13_fights 30 = .ok (.iload_n 2, 1) := by decide +kernel
theorem dX13_fights_31 : decode cX13_fights 31 = .ok (.iload_n 2, 1) := by decide +kernel
theorem dX13_fights_32 : decode cX13_fights 32 = .ok (.iconst 1, 1) := by decide +kernel
theorem dX13_fights_33 : decode cX13_fights 33 = .ok (.isub, 1) := by decide +kernel
theorem dX13_fights_34 : decode cX13_fights 34 = .ok (.imul, 1) := by decide +kernel
theorem dX13_fights_35 : decode cX13_fights 35 = .ok (.iconst 2, 1) := by decide +kernel
theorem dX13_fights_36 : decode cX13_fights 36 = .ok (.idiv, 1) := by decide +kernel
theorem dX13_fights_37 : decode cX13_fights 37 = .ok (.goto 16, 3) := by decide +kernel
theorem dX13_fights_40 : decode cX13_fights 40 = .ok (.iload_n 2, 1) := by decide +kernel
theorem dX13_fights_41 : decode cX13_fights 41 = .ok (.iconst 1, 1) := by decide +kernel
theorem dX13_fights_42 : decode cX13_fights 42 = .ok (.isub, 1) := by decide +kernel
theorem dX13_fights_43 : decode cX13_fights 43 = .ok (.iconst 2, 1) := by decide +kernel
theorem dX13_fights_44 : decode cX13_fights 44 = .ok (.aload_n 0, 1) := by decide +kernel
theorem dX13_fights_45 : decode cX13_fights 45 = .ok (.iload_n 1, 1) := by decide +kernel
theorem dX13_fights_46 : decode cX13_fights 46 = .ok (.invokevirtual 211, 3) := by decide +kernel
theorem dX13_fights_49 : decode cX13_fights 49 = .ok (.iconst 1, 1) := by decide +kernel
theorem dX13_fights_50 : decode cX13_fights 50 = .ok (.isub, 1) := by decide +kernel
theorem dX13_fights_51 : decode cX13_fights 51 = .ok (.imul, 1) := by decide +kernel
theorem dX13_fights_52 : decode cX13_fights 52 = .ok (.iadd, 1) := by decide +kernel
theorem dX13_fights_53 : decode cX13_fights 53 = .ok (.ireturn, 1) := by decide +kernel
theorem dX13_isFight_0 : decode cX13_isFight 0 = .ok (.iload_n 1, 1) := by decide +kernel
theorem dX13_isFight_1 : decode cX13_isFight 1 = .ok (.invokestatic 214, 3) := by decide +kernel
theorem dX13_isFight_4 : decode cX13_isFight 4 = .ok (.ifCond .eq 24, 3) := by decide +kernel
theorem dX13_isFight_7 : decode cX13_isFight 7 = .ok (.iload_n 2, 1) := by decide +kernel
theorem dX13_isFight_8 : decode cX13_isFight 8 = .ok (.i2l, 1) := by decide +kernel
theorem dX13_isFight_9 : decode cX13_isFight 9 = .ok (.lconst 0, 1) := by decide +kernel
theorem dX13_isFight_10 : decode cX13_isFight 10 = .ok (.aload_n 0, 1) := by decide +kernel
theorem dX13_isFight_11 : decode cX13_isFight 11 = .ok (.iload_n 1, 1) := by decide +kernel
theorem dX13_isFight_12 : decode cX13_isFight 12 = .ok (.invokevirtual 218, 3) := by decide +kernel
theorem dX13_isFight_15 : decode cX13_isFight 15 = .ok (.i2l, 1) := by decide +kernel
theorem dX13_isFight_16 : decode cX13_isFight 16 = .ok (.lconst 1, 1) := by decide +kernel
theorem dX13_isFight_17 : decode cX13_isFight 17 = .ok (.lsub, 1) := by decide +kernel
theorem dX13_isFight_18 : decode cX13_isFight 18 = .ok (.invokestatic 203, 3) := by decide +kernel
theorem dX13_isFight_21 : decode cX13_isFight 21 = .ok (.ifCond .eq 7, 3) := by decide +kernel
theorem dX13_isFight_24 : decode cX13_isFight 24 = .ok (.iconst 1, 1) := by decide +kernel
theorem dX13_isFight_25 : decode cX13_isFight 25 = .ok (.goto 4, 3) := by decide +kernel
theorem dX13_isFight_28 : decode cX13_isFight 28 = .ok (.iconst 0, 1) := by decide +kernel
theorem dX13_isFight_29 : decode cX13_isFight 29 = .ok (.ireturn, 1) := by decide +kernel
theorem dX13_wrong_0 : decode cX13_wrong 0 = .ok (.aload_n 0, 1) := by decide +kernel
theorem dX13_wrong_1 : decode cX13_wrong 1 = .ok (.iload_n 1, 1) := by decide +kernel
theorem dX13_wrong_2 : decode cX13_wrong 2 = .ok (.putfield 262, 3) := by decide +kernel
theorem dX13_wrong_5 : decode cX13_wrong 5 = .ok (.aload_n 0, 1) := by decide +kernel
theorem dX13_wrong_6 : decode cX13_wrong 6 = .ok (.iload_n 2, 1) := by decide +kernel
theorem dX13_wrong_7 : decode cX13_wrong 7 = .ok (.putfield 118, 3) := by decide +kernel
theorem dX13_wrong_10 : decode cX13_wrong 10 = .ok (.aload_n 0, 1) := by decide +kernel
theorem dX13_wrong_11 : decode cX13_wrong 11 = .ok (.getfield 108, 3) := by decide +kernel
theorem dX13_wrong_14 : decode cX13_wrong 14 = .ok (.areturn, 1) := by decide +kernel
theorem dX13_byteAt_0 : decode cX13_byteAt 0 = .ok (.iload_n 1, 1) := by decide +kernel
theorem dX13_byteAt_1 : decode cX13_byteAt 1 = .ok (.aload_n 0, 1) := by decide +kernel
theorem dX13_byteAt_2 : decode cX13_byteAt 2 = .ok (.getfield 265, 3) := by decide +kernel
theorem dX13_byteAt_5 : decode cX13_byteAt 5 = .ok (.if_icmp .ge 16, 3) := by decide +kernel
theorem dX13_byteAt_8 : decode cX13_byteAt 8 = .ok (.aload_n 0, 1) := by decide +kernel
theorem dX13_byteAt_9 : decode cX13_byteAt 9 = .ok (.getfield 115, 3) := by decide +kernel
theorem dX13_byteAt_12 : decode cX13_byteAt 12 = .ok (.iload_n 1, 1) := by decide +kernel
theorem dX13_byteAt_13 : decode cX13_byteAt 13 = .ok (.baload, 1) := by decide +kernel
theorem dX13_byteAt_14 : decode cX13_byteAt 14 = .ok (.sipush 255, 3) := by decide +kernel
theorem dX13_byteAt_17 : decode cX13_byteAt 17 = .ok (.iand, 1) := by decide +kernel
theorem dX13_byteAt_18 : decode cX13_byteAt 18 = .ok (.goto 4, 3) := by decide +kernel
theorem dX13_byteAt_21 : decode cX13_byteAt 21 = .ok (.iconst 0, 1) := by decide +kernel
theorem dX13_byteAt_22 : decode cX13_byteAt 22 = .ok (.ireturn, 1) := by decide +kernel
theorem dX13_isLetter_0 : decode cX13_isLetter 0 = .ok (.iload_n 0, 1) := by decide +kernel
theorem dX13_isLetter_1 : decode cX13_isLetter 1 = .ok (.bipush 97, 2) := by decide +kernel
theorem dX13_isLetter_3 : decode cX13_isLetter 3 = .ok (.if_icmp .lt 13, 3) := by decide +kernel
theorem dX13_isLetter_6 : decode cX13_isLetter 6 = .ok (.iload_n 0, 1) := by decide +kernel
theorem dX13_isLetter_7 : decode cX13_isLetter 7 = .ok (.bipush 122, 2) := by decide +kernel
theorem dX13_isLetter_9 : decode cX13_isLetter 9 = .ok (.if_icmp .gt 7, 3) := by decide +kernel
theorem dX13_isLetter_12 : decode cX13_isLetter 12 = .ok (.iconst 1, 1) := by decide +kernel
theorem dX13_isLetter_13 : decode cX13_isLetter 13 = .ok (.goto 4, 3) := by decide +kernel
theorem dX13_isLetter_16 : decode cX13_isLetter 16 = .ok (.iconst 0, 1) := by decide +kernel
theorem dX13_isLetter_17 : decode cX13_isLetter 17 = .ok (.ireturn, 1) := by decide +kernel
theorem dX13_isDigit_0 : decode cX13_isDigit 0 = .ok (.iload_n 0, 1) := by decide +kernel
theorem dX13_isDigit_1 : decode cX13_isDigit 1 = .ok (.bipush 48, 2) := by decide +kernel
theorem dX13_isDigit_3 : decode cX13_isDigit 3 = .ok (.if_icmp .lt 13, 3) := by decide +kernel
theorem dX13_isDigit_6 : decode cX13_isDigit 6 = .ok (.iload_n 0, 1) := by decide +kernel
theorem dX13_isDigit_7 : decode cX13_isDigit 7 = .ok (.bipush 57, 2) := by decide +kernel
theorem dX13_isDigit_9 : decode cX13_isDigit 9 = .ok (.if_icmp .gt 7, 3) := by decide +kernel
theorem dX13_isDigit_12 : decode cX13_isDigit 12 = .ok (.iconst 1, 1) := by decide +kernel
theorem dX13_isDigit_13 : decode cX13_isDigit 13 = .ok (.goto 4, 3) := by decide +kernel
theorem dX13_isDigit_16 : decode cX13_isDigit 16 = .ok (.iconst 0, 1) := by decide +kernel
theorem dX13_isDigit_17 : decode cX13_isDigit 17 = .ok (.ireturn, 1) := by decide +kernel
theorem dX13_scan_0 : decode cX13_scan 0 = .ok (.aload_n 0, 1) := by decide +kernel
theorem dX13_scan_1 : decode cX13_scan 1 = .ok (.getfield 268, 3) := by decide +kernel
theorem dX13_scan_4 : decode cX13_scan 4 = .ok (.aload_n 0, 1) := by decide +kernel
theorem dX13_scan_5 : decode cX13_scan 5 = .ok (.getfield 265, 3) := by decide +kernel
theorem dX13_scan_8 : decode cX13_scan 8 = .ok (.if_icmp .ge 44, 3) := by decide +kernel
theorem dX13_scan_11 : decode cX13_scan 11 = .ok (.aload_n 0, 1) := by decide +kernel
theorem dX13_scan_12 : decode cX13_scan 12 = .ok (.getfield 115, 3) := by decide +kernel
theorem dX13_scan_15 : decode cX13_scan 15 = .ok (.aload_n 0, 1) := by decide +kernel
theorem dX13_scan_16 : decode cX13_scan 16 = .ok (.getfield 268, 3) := by decide +kernel
theorem dX13_scan_19 : decode cX13_scan 19 = .ok (.baload, 1) := by decide +kernel
theorem dX13_scan_20 : decode cX13_scan 20 = .ok (.bipush 32, 2) := by decide +kernel
theorem dX13_scan_22 : decode cX13_scan 22 = .ok (.if_icmp .eq 17, 3) := by decide +kernel
theorem dX13_scan_25 : decode cX13_scan 25 = .ok (.aload_n 0, 1) := by decide +kernel
theorem dX13_scan_26 : decode cX13_scan 26 = .ok (.getfield 115, 3) := by decide +kernel
theorem dX13_scan_29 : decode cX13_scan 29 = .ok (.aload_n 0, 1) := by decide +kernel
theorem dX13_scan_30 : decode cX13_scan 30 = .ok (.getfield 268, 3) := by decide +kernel
theorem dX13_scan_33 : decode cX13_scan 33 = .ok (.baload, 1) := by decide +kernel
theorem dX13_scan_34 : decode cX13_scan 34 = .ok (.bipush 10, 2) := by decide +kernel
theorem dX13_scan_36 : decode cX13_scan 36 = .ok (.if_icmp .ne 16, 3) := by decide +kernel
theorem dX13_scan_39 : decode cX13_scan 39 = .ok (.aload_n 0, 1) := by decide +kernel
theorem dX13_scan_40 : decode cX13_scan 40 = .ok (.dup, 1) := by decide +kernel
theorem dX13_scan_41 : decode cX13_scan 41 = .ok (.getfield 268, 3) := by decide +kernel
theorem dX13_scan_44 : decode cX13_scan 44 = .ok (.iconst 1, 1) := by decide +kernel
theorem dX13_scan_45 : decode cX13_scan 45 = .ok (.iadd, 1) := by decide +kernel
theorem dX13_scan_46 : decode cX13_scan 46 = .ok (.putfield 268, 3) := by decide +kernel
theorem dX13_scan_49 : decode cX13_scan 49 = .ok (.goto (-49), 3) := by decide +kernel
theorem dX13_scan_52 : decode cX13_scan 52 = .ok (.aload_n 0, 1) := by decide +kernel
theorem dX13_scan_53 : decode cX13_scan 53 = .ok (.aload_n 0, 1) := by decide +kernel
theorem dX13_scan_54 : decode cX13_scan 54 = .ok (.getfield 268, 3) := by decide +kernel
theorem dX13_scan_57 : decode cX13_scan 57 = .ok (.putfield 271, 3) := by decide +kernel
theorem dX13_scan_60 : decode cX13_scan 60 = .ok (.aload_n 0, 1) := by decide +kernel
theorem dX13_scan_61 : decode cX13_scan 61 = .ok (.aload_n 0, 1) := by decide +kernel
theorem dX13_scan_62 : decode cX13_scan 62 = .ok (.getfield 271, 3) := by decide +kernel
theorem dX13_scan_65 : decode cX13_scan 65 = .ok (.invokevirtual 274, 3) := by decide +kernel
theorem dX13_scan_68 : decode cX13_scan 68 = .ok (.istore_n 1, 1) := by decide +kernel
theorem dX13_scan_69 : decode cX13_scan 69 = .ok (.aload_n 0, 1) := by decide +kernel
theorem dX13_scan_70 : decode cX13_scan 70 = .ok (.getfield 271, 3) := by decide +kernel
theorem dX13_scan_73 : decode cX13_scan 73 = .ok (.aload_n 0, 1) := by decide +kernel
theorem dX13_scan_74 : decode cX13_scan 74 = .ok (.getfield 265, 3) := by decide +kernel
theorem dX13_scan_77 : decode cX13_scan 77 = .ok (.if_icmp .ne 11, 3) := by decide +kernel
theorem dX13_scan_80 : decode cX13_scan 80 = .ok (.aload_n 0, 1) := by decide +kernel
theorem dX13_scan_81 : decode cX13_scan 81 = .ok (.iconst 0, 1) := by decide +kernel
theorem dX13_scan_82 : decode cX13_scan 82 = .ok (.putfield 277, 3) := by decide +kernel
theorem dX13_scan_85 : decode cX13_scan 85 = .ok (.goto 244, 3) := by decide +kernel
theorem dX13_scan_88 : decode cX13_scan 88 = .ok (.iload_n 1, 1) := by decide +kernel
theorem dX13_scan_89 : decode cX13_scan 89 = .ok (.invokestatic 280, 3) := by decide +kernel
theorem dX13_scan_92 : decode cX13_scan 92 = .ok (.ifCond .eq 56, 3) := by decide +kernel
theorem dX13_scan_95 : decode cX13_scan 95 = .ok (.aload_n 0, 1) := by decide +kernel
theorem dX13_scan_96 : decode cX13_scan 96 = .ok (.aload_n 0, 1) := by decide +kernel
theorem dX13_scan_97 : decode cX13_scan 97 = .ok (.getfield 268, 3) := by decide +kernel
theorem dX13_scan_100 : decode cX13_scan 100 = .ok (.invokevirtual 274, 3) := by decide +kernel
theorem dX13_scan_103 : decode cX13_scan 103 = .ok (.invokestatic 280, 3) := by decide +kernel
theorem dX13_scan_106 : decode cX13_scan 106 = .ok (.ifCond .eq 16, 3) := by decide +kernel
theorem dX13_scan_109 : decode cX13_scan 109 = .ok (.aload_n 0, 1) := by decide +kernel
theorem dX13_scan_110 : decode cX13_scan 110 = .ok (.dup, 1) := by decide +kernel
theorem dX13_scan_111 : decode cX13_scan 111 = .ok (.getfield 268, 3) := by decide +kernel
theorem dX13_scan_114 : decode cX13_scan 114 = .ok (.iconst 1, 1) := by decide +kernel
theorem dX13_scan_115 : decode cX13_scan 115 = .ok (.iadd, 1) := by decide +kernel
theorem dX13_scan_116 : decode cX13_scan 116 = .ok (.putfield 268, 3) := by decide +kernel
theorem dX13_scan_119 : decode cX13_scan 119 = .ok (.goto (-24), 3) := by decide +kernel
theorem dX13_scan_122 : decode cX13_scan 122 = .ok (.aload_n 0, 1) := by decide +kernel
theorem dX13_scan_123 : decode cX13_scan 123 = .ok (.aload_n 0, 1) := by decide +kernel
theorem dX13_scan_124 : decode cX13_scan 124 = .ok (.getfield 268, 3) := by decide +kernel
theorem dX13_scan_127 : decode cX13_scan 127 = .ok (.aload_n 0, 1) := by decide +kernel
theorem dX13_scan_128 : decode cX13_scan 128 = .ok (.getfield 271, 3) := by decide +kernel
theorem dX13_scan_131 : decode cX13_scan 131 = .ok (.isub, 1) := by decide +kernel
theorem dX13_scan_132 : decode cX13_scan 132 = .ok (.bipush 10, 2) := by decide +kernel
theorem dX13_scan_134 : decode cX13_scan 134 = .ok (.if_icmp .le 7, 3) := by decide +kernel
theorem dX13_scan_137 : decode cX13_scan 137 = .ok (.iconst 4, 1) := by decide +kernel
theorem dX13_scan_138 : decode cX13_scan 138 = .ok (.goto 4, 3) := by decide +kernel
theorem dX13_scan_141 : decode cX13_scan 141 = .ok (.iconst 1, 1) := by decide +kernel
theorem dX13_scan_142 : decode cX13_scan 142 = .ok (.putfield 277, 3) := by decide +kernel
theorem dX13_scan_145 : decode cX13_scan 145 = .ok (.goto 184, 3) := by decide +kernel
theorem dX13_scan_148 : decode cX13_scan 148 = .ok (.iload_n 1, 1) := by decide +kernel
theorem dX13_scan_149 : decode cX13_scan 149 = .ok (.invokestatic 283, 3) := by decide +kernel
theorem dX13_scan_152 : decode cX13_scan 152 = .ok (.ifCond .eq 96, 3) := by decide +kernel
theorem dX13_scan_155 : decode cX13_scan 155 = .ok (.aload_n 0, 1) := by decide +kernel
theorem dX13_scan_156 : decode cX13_scan 156 = .ok (.iconst 0, 1) := by decide +kernel
theorem dX13_scan_157 : decode cX13_scan 157 = .ok (.putfield 286, 3) := by decide +kernel
theorem dX13_scan_160 : decode cX13_scan 160 = .ok (.aload_n 0, 1) := by decide +kernel
theorem dX13_scan_161 : decode cX13_scan 161 = .ok (.aload_n 0, 1) := by decide +kernel
theorem dX13_scan_162 : decode cX13_scan 162 = .ok (.getfield 268, 3) := by decide +kernel
theorem dX13_scan_165 : decode cX13_scan 165 = .ok (.invokevirtual 274, 3) := by decide +kernel
theorem dX13_scan_168 : decode cX13_scan 168 = .ok (.invokestatic 283, 3) := by decide +kernel
theorem dX13_scan_171 : decode cX13_scan 171 = .ok (.ifCond .eq 52, 3) := by decide +kernel
theorem dX13_scan_174 : decode cX13_scan 174 = .ok (.aload_n 0, 1) := by decide +kernel
theorem dX13_scan_175 : decode cX13_scan 175 = .ok (.getfield 268, 3) := by decide +kernel
theorem dX13_scan_178 : decode cX13_scan 178 = .ok (.aload_n 0, 1) := by decide +kernel
theorem dX13_scan_179 : decode cX13_scan 179 = .ok (.getfield 271, 3) := by decide +kernel
theorem dX13_scan_182 : decode cX13_scan 182 = .ok (.isub, 1) := by decide +kernel
theorem dX13_scan_183 : decode cX13_scan 183 = .ok (.iconst 4, 1) := by decide +kernel
theorem dX13_scan_184 : decode cX13_scan 184 = .ok (.if_icmp .ge 26, 3) := by decide +kernel
theorem dX13_scan_187 : decode cX13_scan 187 = .ok (.aload_n 0, 1) := by decide +kernel
theorem dX13_scan_188 : decode cX13_scan 188 = .ok (.bipush 10, 2) := by decide +kernel
theorem dX13_scan_190 : decode cX13_scan 190 = .ok (.aload_n 0, 1) := by decide +kernel
theorem dX13_scan_191 : decode cX13_scan 191 = .ok (.getfield 286, 3) := by decide +kernel
theorem dX13_scan_194 : decode cX13_scan 194 = .ok (.imul, 1) := by decide +kernel
theorem dX13_scan_195 : decode cX13_scan 195 = .ok (.aload_n 0, 1) := by decide +kernel
theorem dX13_scan_196 : decode cX13_scan 196 = .ok (.aload_n 0, 1) := by decide +kernel
theorem dX13_scan_197 : decode cX13_scan 197 = .ok (.getfield 268, 3) := by decide +kernel
theorem dX13_scan_200 : decode cX13_scan 200 = .ok (.invokevirtual 274, 3) := by decide +kernel
theorem dX13_scan_203 : decode cX13_scan 203 = .ok (.iadd, 1) := by decide +kernel
theorem dX13_scan_204 : decode cX13_scan 204 = .ok (.bipush 48, 2) := by decide +kernel
theorem dX13_scan_206 : decode cX13_scan 206 = .ok (.isub, 1) := by decide +kernel
theorem dX13_scan_207 : decode cX13_scan 207 = .ok (.putfield 286, 3) := by decide +kernel
theorem dX13_scan_210 : decode cX13_scan 210 = .ok (.aload_n 0, 1) := by decide +kernel
theorem dX13_scan_211 : decode cX13_scan 211 = .ok (.dup, 1) := by decide +kernel
theorem dX13_scan_212 : decode cX13_scan 212 = .ok (.getfield 268, 3) := by decide +kernel
theorem dX13_scan_215 : decode cX13_scan 215 = .ok (.iconst 1, 1) := by decide +kernel
theorem dX13_scan_216 : decode cX13_scan 216 = .ok (.iadd, 1) := by decide +kernel
theorem dX13_scan_217 : decode cX13_scan 217 = .ok (.putfield 268, 3) := by decide +kernel
theorem dX13_scan_220 : decode cX13_scan 220 = .ok (.goto (-60), 3) := by decide +kernel
theorem dX13_scan_223 : decode cX13_scan 223 = .ok (.aload_n 0, 1) := by decide +kernel
theorem dX13_scan_224 : decode cX13_scan 224 = .ok (.aload_n 0, 1) := by decide +kernel
theorem dX13_scan_225 : decode cX13_scan 225 = .ok (.getfield 268, 3) := by decide +kernel
theorem dX13_scan_228 : decode cX13_scan 228 = .ok (.aload_n 0, 1) := by decide +kernel
theorem dX13_scan_229 : decode cX13_scan 229 = .ok (.getfield 271, 3) := by decide +kernel
theorem dX13_scan_232 : decode cX13_scan 232 = .ok (.isub, 1) := by decide +kernel
theorem dX13_scan_233 : decode cX13_scan 233 = .ok (.iconst 4, 1) := by decide +kernel
theorem dX13_scan_234 : decode cX13_scan 234 = .ok (.if_icmp .le 7, 3) := by decide +kernel
theorem dX13_scan_237 : decode cX13_scan 237 = .ok (.iconst 4, 1) := by decide +kernel
theorem dX13_scan_238 : decode cX13_scan 238 = .ok (.goto 4, 3) := by decide +kernel
theorem dX13_scan_241 : decode cX13_scan 241 = .ok (.iconst 2, 1) := by decide +kernel
theorem dX13_scan_242 : decode cX13_scan 242 = .ok (.putfield 277, 3) := by decide +kernel
theorem dX13_scan_245 : decode cX13_scan 245 = .ok (.goto 84, 3) := by decide +kernel
theorem dX13_scan_248 : decode cX13_scan 248 = .ok (.aload_n 0, 1) := by decide +kernel
theorem dX13_scan_249 : decode cX13_scan 249 = .ok (.aload_n 0, 1) := by decide +kernel
theorem dX13_scan_250 : decode cX13_scan 250 = .ok (.getfield 271, 3) := by decide +kernel
theorem dX13_scan_253 : decode cX13_scan 253 = .ok (.iconst 1, 1) := by decide +kernel
theorem dX13_scan_254 : decode cX13_scan 254 = .ok (.iadd, 1) := by decide +kernel
theorem dX13_scan_255 : decode cX13_scan 255 = .ok (.invokevirtual 274, 3) := by decide +kernel
theorem dX13_scan_258 : decode cX13_scan 258 = .ok (.bipush 61, 2) := by decide +kernel
theorem dX13_scan_260 : decode cX13_scan 260 = .ok (.if_icmp .ne 25, 3) := by decide +kernel
theorem dX13_scan_263 : decode cX13_scan 263 = .ok (.iload_n 1, 1) := by decide +kernel
theorem dX13_scan_264 : decode cX13_scan 264 = .ok (.bipush 60, 2) := by decide +kernel
theorem dX13_scan_266 : decode cX13_scan 266 = .ok (.if_icmp .eq 15, 3) := by decide +kernel
theorem dX13_scan_269 : decode cX13_scan 269 = .ok (.iload_n 1, 1) := by decide +kernel
theorem dX13_scan_270 : decode cX13_scan 270 = .ok (.bipush 62, 2) := by decide +kernel
theorem dX13_scan_272 : decode cX13_scan 272 = .ok (.if_icmp .eq 9, 3) := by decide +kernel
theorem dX13_scan_275 : decode cX13_scan 275 = .ok (.iload_n 1, 1) := by decide +kernel
theorem dX13_scan_276 : decode cX13_scan 276 = .ok (.bipush 33, 2) := by decide +kernel
theorem dX13_scan_278 : decode cX13_scan 278 = .ok (.if_icmp .ne 7, 3) := by decide +kernel
theorem dX13_scan_281 : decode cX13_scan 281 = .ok (.iconst 1, 1) := by decide +kernel
theorem dX13_scan_282 : decode cX13_scan 282 = .ok (.goto 4, 3) := by decide +kernel
theorem dX13_scan_285 : decode cX13_scan 285 = .ok (.iconst 0, 1) := by decide +kernel
theorem dX13_scan_286 : decode cX13_scan 286 = .ok (.istore_n 2, 1) := by decide +kernel
theorem dX13_scan_287 : decode cX13_scan 287 = .ok (.aload_n 0, 1) := by decide +kernel
theorem dX13_scan_288 : decode cX13_scan 288 = .ok (.iload_n 2, 1) := by decide +kernel
theorem dX13_scan_289 : decode cX13_scan 289 = .ok (.ifCond .ne 14, 3) := by decide +kernel
theorem dX13_scan_292 : decode cX13_scan 292 = .ok (.ldc_w 289, 3) := by decide +kernel
theorem dX13_scan_295 : decode cX13_scan 295 = .ok (.iload_n 1, 1) := by decide +kernel
theorem dX13_scan_296 : decode cX13_scan 296 = .ok (.i2c, 1) := by decide +kernel
theorem dX13_scan_297 : decode cX13_scan 297 = .ok (.invokevirtual 291, 3) := by decide +kernel
theorem dX13_scan_300 : decode cX13_scan 300 = .ok (.ifCond .lt 7, 3) := by decide +kernel
theorem dX13_scan_303 : decode cX13_scan 303 = .ok (.iconst 3, 1) := by decide +kernel
theorem dX13_scan_304 : decode cX13_scan 304 = .ok (.goto 4, 3) := by decide +kernel
theorem dX13_scan_307 : decode cX13_scan 307 = .ok (.iconst 4, 1) := by decide +kernel
theorem dX13_scan_308 : decode cX13_scan 308 = .ok (.putfield 277, 3) := by decide +kernel
theorem dX13_scan_311 : decode cX13_scan 311 = .ok (.aload_n 0, 1) := by decide +kernel
theorem dX13_scan_312 : decode cX13_scan 312 = .ok (.dup, 1) := by decide +kernel
theorem dX13_scan_313 : decode cX13_scan 313 = .ok (.getfield 268, 3) := by decide +kernel
theorem dX13_scan_316 : decode cX13_scan 316 = .ok (.iload_n 2, 1) := by decide +kernel
theorem dX13_scan_317 : decode cX13_scan 317 = .ok (.ifCond .eq 7, 3) := by decide +kernel
theorem dX13_scan_320 : decode cX13_scan 320 = .ok (.iconst 2, 1) := by decide +kernel
theorem dX13_scan_321 : decode cX13_scan 321 = .ok (.goto 4, 3) := by decide +kernel
theorem dX13_scan_324 : decode cX13_scan 324 = .ok (.iconst 1, 1) := by decide +kernel
theorem dX13_scan_325 : decode cX13_scan 325 = .ok (.iadd, 1) := by decide +kernel
theorem dX13_scan_326 : decode cX13_scan 326 = .ok (.putfield 268, 3) := by decide +kernel
theorem dX13_scan_329 : decode cX13_scan 329 = .ok (.return_, 1) := by decide +kernel
theorem dX13_is_0 : decode cX13_is 0 = .ok (.aload_n 0, 1) := by decide +kernel
theorem dX13_is_1 : decode cX13_is 1 = .ok (.getfield 277, 3) := by decide +kernel
theorem dX13_is_4 : decode cX13_is 4 = .ok (.iconst 1, 1) := by decide +kernel
theorem dX13_is_5 : decode cX13_is 5 = .ok (.if_icmp .eq 11, 3) := by decide +kernel
theorem dX13_is_8 : decode cX13_is 8 = .ok (.aload_n 0, 1) := by decide +kernel
theorem dX13_is_9 : decode cX13_is 9 = .ok (.getfield 277, 3) := by decide +kernel
theorem dX13_is_12 : decode cX13_is 12 = .ok (.iconst 3, 1) := by decide +kernel
theorem dX13_is_13 : decode cX13_is 13 = .ok (.if_icmp .ne 15, 3) := by decide +kernel
theorem dX13_is_16 : decode cX13_is 16 = .ok (.aload_n 0, 1) := by decide +kernel
theorem dX13_is_17 : decode cX13_is 17 = .ok (.aload_n 1, 1) := by decide +kernel
theorem dX13_is_18 : decode cX13_is 18 = .ok (.invokevirtual 304, 3) := by decide +kernel
theorem dX13_is_21 : decode cX13_is 21 = .ok (.ifCond .eq 7, 3) := by decide +kernel
theorem dX13_is_24 : decode cX13_is 24 = .ok (.iconst 1, 1) := by decide +kernel
theorem dX13_is_25 : decode cX13_is 25 = .ok (.goto 4, 3) := by decide +kernel
theorem dX13_is_28 : decode cX13_is 28 = .ok (.iconst 0, 1) := by decide +kernel
theorem dX13_is_29 : decode cX13_is 29 = .ok (.ireturn, 1) := by decide +kernel
theorem dX13_need_0 : decode cX13_need 0 = .ok (.aload_n 0, 1) := by decide +kernel
theorem dX13_need_1 : decode cX13_need 1 = .ok (.aload_n 1, 1) := by decide +kernel
theorem dX13_need_2 : decode cX13_need 2 = .ok (.invokevirtual 308, 3) := by decide +kernel
theorem dX13_need_5 : decode cX13_need 5 = .ok (.ifCond .ne 13, 3) := by decide +kernel
theorem dX13_need_8 : decode cX13_need 8 = .ok (.aload_n 0, 1) := by decide +kernel
theorem dX13_need_9 : decode cX13_need 9 = .ok (.iconst 1, 1) := by decide +kernel
theorem dX13_need_10 : decode cX13_need 10 = .ok (.aload_n 0, 1) := by decide +kernel
theorem dX13_need_11 : decode cX13_need 11 = .ok (.getfield 271, 3) := by decide +kernel
theorem dX13_need_14 : decode cX13_need 14 = .ok (.invokevirtual 311, 3) := by decide +kernel
theorem dX13_need_17 : decode cX13_need 17 = .ok (.athrow, 1) := by decide +kernel
theorem dX13_need_18 : decode cX13_need 18 = .ok (.aload_n 0, 1) := by decide +kernel
theorem dX13_need_19 : decode cX13_need 19 = .ok (.invokevirtual 315, 3) := by decide +kernel
theorem dX13_need_22 : decode cX13_need 22 = .ok (.return_, 1) := by decide +kernel
theorem dX13_number_0 : decode cX13_number 0 = .ok (.aload_n 0, 1) := by decide +kernel
theorem dX13_number_1 : decode cX13_number 1 = .ok (.getfield 277, 3) := by decide +kernel
theorem dX13_number_4 : decode cX13_number 4 = .ok (.iconst 2, 1) := by decide +kernel
theorem dX13_number_5 : decode cX13_number 5 = .ok (.if_icmp .eq 13, 3) := by decide +kernel
theorem dX13_number_8 : decode cX13_number 8 = .ok (.aload_n 0, 1) := by decide +kernel
theorem dX13_number_9 : decode cX13_number 9 = .ok (.iconst 1, 1) := by decide +kernel
theorem dX13_number_10 : decode cX13_number 10 = .ok (.aload_n 0, 1) := by decide +kernel
theorem dX13_number_11 : decode cX13_number 11 = .ok (.getfield 271, 3) := by decide +kernel
theorem dX13_number_14 : decode cX13_number 14 = .ok (.invokevirtual 311, 3) := by decide +kernel
theorem dX13_number_17 : decode cX13_number 17 = .ok (.athrow, 1) := by decide +kernel
theorem dX13_number_18 : decode cX13_number 18 = .ok (.aload_n 0, 1) := by decide +kernel
theorem dX13_number_19 : decode cX13_number 19 = .ok (.getfield 286, 3) := by decide +kernel
theorem dX13_number_22 : decode cX13_number 22 = .ok (.istore_n 1, 1) := by decide +kernel
theorem dX13_number_23 : decode cX13_number 23 = .ok (.aload_n 0, 1) := by decide +kernel
theorem dX13_number_24 : decode cX13_number 24 = .ok (.invokevirtual 315, 3) := by decide +kernel
theorem dX13_number_27 : decode cX13_number 27 = .ok (.iload_n 1, 1) := by decide +kernel
theorem dX13_number_28 : decode cX13_number 28 = .ok (.ireturn, 1) := by decide +kernel
theorem dX13_readLaws_0 : decode cX13_readLaws 0 = .ok (.aload_n 0, 1) := by decide +kernel
theorem dX13_readLaws_1 : decode cX13_readLaws 1 = .ok (.iconst 0, 1) := by decide +kernel
theorem dX13_readLaws_2 : decode cX13_readLaws 2 = .ok (.putfield 186, 3) := by decide +kernel
theorem dX13_readLaws_5 : decode cX13_readLaws 5 = .ok (.aload_n 0, 1) := by decide +kernel
theorem dX13_readLaws_6 : decode cX13_readLaws 6 = .ok (.iconst 0, 1) := by decide +kernel
theorem dX13_readLaws_7 : decode cX13_readLaws 7 = .ok (.putfield 189, 3) := by decide +kernel
theorem dX13_readLaws_10 : decode cX13_readLaws 10 = .ok (.aload_n 0, 1) := by decide +kernel
theorem dX13_readLaws_11 : decode cX13_readLaws 11 = .ok (.iconst 0, 1) := by decide +kernel
theorem dX13_readLaws_12 : decode cX13_readLaws 12 = .ok (.putfield 192, 3) := by decide +kernel
theorem dX13_readLaws_15 : decode cX13_readLaws 15 = .ok (.aload_n 0, 1) := by decide +kernel
theorem dX13_readLaws_16 : decode cX13_readLaws 16 = .ok (.iconst 0, 1) := by decide +kernel
theorem dX13_readLaws_17 : decode cX13_readLaws 17 = .ok (.putfield 345, 3) := by decide +kernel
theorem dX13_readLaws_20 : decode cX13_readLaws 20 = .ok (.aload_n 0, 1) := by decide +kernel
theorem dX13_readLaws_21 : decode cX13_readLaws 21 = .ok (.iconst 0, 1) := by decide +kernel
theorem dX13_readLaws_22 : decode cX13_readLaws 22 = .ok (.putfield 268, 3) := by decide +kernel
theorem dX13_readLaws_25 : decode cX13_readLaws 25 = .ok (.aload_n 0, 1) := by decide +kernel
theorem dX13_readLaws_26 : decode cX13_readLaws 26 = .ok (.invokevirtual 315, 3) := by decide +kernel
theorem dX13_readLaws_29 : decode cX13_readLaws 29 = .ok (.aload_n 0, 1) := by decide +kernel
theorem dX13_readLaws_30 : decode cX13_readLaws 30 = .ok (.ldc_w 318, 3) := by decide +kernel
theorem dX13_readLaws_33 : decode cX13_readLaws 33 = .ok (.invokevirtual 348, 3) := by decide +kernel
theorem dX13_readLaws_36 : decode cX13_readLaws 36 = .ok (.aload_n 0, 1) := by decide +kernel
theorem dX13_readLaws_37 : decode cX13_readLaws 37 = .ok (.aload_n 0, 1) := by decide +kernel
theorem dX13_readLaws_38 : decode cX13_readLaws 38 = .ok (.invokevirtual 352, 3) := by decide +kernel
theorem dX13_readLaws_41 : decode cX13_readLaws 41 = .ok (.putfield 195, 3) := by decide +kernel
theorem dX13_readLaws_44 : decode cX13_readLaws 44 = .ok (.aload_n 0, 1) := by decide +kernel
theorem dX13_readLaws_45 : decode cX13_readLaws 45 = .ok (.ldc_w 355, 3) := by decide +kernel
theorem dX13_readLaws_48 : decode cX13_readLaws 48 = .ok (.invokevirtual 348, 3) := by decide +kernel
theorem dX13_readLaws_51 : decode cX13_readLaws 51 = .ok (.aload_n 0, 1) := by decide +kernel
theorem dX13_readLaws_52 : decode cX13_readLaws 52 = .ok (.ldc_w 319, 3) := by decide +kernel
theorem dX13_readLaws_55 : decode cX13_readLaws 55 = .ok (.invokevirtual 348, 3) := by decide +kernel
theorem dX13_readLaws_58 : decode cX13_readLaws 58 = .ok (.aload_n 0, 1) := by decide +kernel
theorem dX13_readLaws_59 : decode cX13_readLaws 59 = .ok (.aload_n 0, 1) := by decide +kernel
theorem dX13_readLaws_60 : decode cX13_readLaws 60 = .ok (.invokevirtual 352, 3) := by decide +kernel
theorem dX13_readLaws_63 : decode cX13_readLaws 63 = .ok (.putfield 198, 3) := by decide +kernel
theorem dX13_readLaws_66 : decode cX13_readLaws 66 = .ok (.aload_n 0, 1) := by decide +kernel
theorem dX13_readLaws_67 : decode cX13_readLaws 67 = .ok (.ldc_w 355, 3) := by decide +kernel
theorem dX13_readLaws_70 : decode cX13_readLaws 70 = .ok (.invokevirtual 348, 3) := by decide +kernel
theorem dX13_readLaws_73 : decode cX13_readLaws 73 = .ok (.aload_n 0, 1) := by decide +kernel
theorem dX13_readLaws_74 : decode cX13_readLaws 74 = .ok (.ldc_w 320, 3) := by decide +kernel
theorem dX13_readLaws_77 : decode cX13_readLaws 77 = .ok (.invokevirtual 308, 3) := by decide +kernel
theorem dX13_readLaws_80 : decode cX13_readLaws 80 = .ok (.ifCond .eq 136, 3) := by decide +kernel
theorem dX13_readLaws_83 : decode cX13_readLaws 83 = .ok (.aload_n 0, 1) := by decide +kernel
theorem dX13_readLaws_84 : decode cX13_readLaws 84 = .ok (.getfield 186, 3) := by decide +kernel
theorem dX13_readLaws_87 : decode cX13_readLaws 87 = .ok (.bipush 8, 2) := by decide +kernel
theorem dX13_readLaws_89 : decode cX13_readLaws 89 = .ok (.if_icmp .ne 13, 3) := by decide +kernel
theorem dX13_readLaws_92 : decode cX13_readLaws 92 = .ok (.aload_n 0, 1) := by decide +kernel
theorem dX13_readLaws_93 : decode cX13_readLaws 93 = .ok (.iconst 3, 1) := by decide +kernel
theorem dX13_readLaws_94 : decode cX13_readLaws 94 = .ok (.aload_n 0, 1) := by decide +kernel
theorem dX13_readLaws_95 : decode cX13_readLaws 95 = .ok (.getfield 271, 3) := by decide +kernel
theorem dX13_readLaws_98 : decode cX13_readLaws 98 = .ok (.invokevirtual 311, 3) := by decide +kernel
theorem dX13_readLaws_101 : decode cX13_readLaws 101 = .ok (.athrow, 1) := by decide +kernel
theorem dX13_readLaws_102 : decode cX13_readLaws 102 = .ok (.aload_n 0, 1) := by decide +kernel
theorem dX13_readLaws_103 : decode cX13_readLaws 103 = .ok (.invokevirtual 315, 3) := by decide +kernel
theorem dX13_readLaws_106 : decode cX13_readLaws 106 = .ok (.aload_n 0, 1) := by decide +kernel
theorem dX13_readLaws_107 : decode cX13_readLaws 107 = .ok (.invokevirtual 357, 3) := by decide +kernel
theorem dX13_readLaws_110 : decode cX13_readLaws 110 = .ok (.aload_n 0, 1) := by decide +kernel
theorem dX13_readLaws_111 : decode cX13_readLaws 111 = .ok (.invokevirtual 360, 3) := by decide +kernel
theorem dX13_readLaws_114 : decode cX13_readLaws 114 = .ok (.iconst (-1), 1) := by decide +kernel
theorem dX13_readLaws_115 : decode cX13_readLaws 115 = .ok (.if_icmp .eq 13, 3) := by decide +kernel
theorem dX13_readLaws_118 : decode cX13_readLaws 118 = .ok (.aload_n 0, 1) := by decide +kernel
theorem dX13_readLaws_119 : decode cX13_readLaws 119 = .ok (.iconst 2, 1) := by decide +kernel
theorem dX13_readLaws_120 : decode cX13_readLaws 120 = .ok (.aload_n 0, 1) := by decide +kernel
theorem dX13_readLaws_121 : decode cX13_readLaws 121 = .ok (.getfield 271, 3) := by decide +kernel
theorem dX13_readLaws_124 : decode cX13_readLaws 124 = .ok (.invokevirtual 311, 3) := by decide +kernel
theorem dX13_readLaws_127 : decode cX13_readLaws 127 = .ok (.athrow, 1) := by decide +kernel
theorem dX13_readLaws_128 : decode cX13_readLaws 128 = .ok (.aload_n 0, 1) := by decide +kernel
theorem dX13_readLaws_129 : decode cX13_readLaws 129 = .ok (.getfield 87, 3) := by decide +kernel
theorem dX13_readLaws_132 : decode cX13_readLaws 132 = .ok (.aload_n 0, 1) := by decide +kernel
theorem dX13_readLaws_133 : decode cX13_readLaws 133 = .ok (.getfield 186, 3) := by decide +kernel
theorem dX13_readLaws_136 : decode cX13_readLaws 136 = .ok (.aload_n 0, 1) := by decide +kernel
theorem dX13_readLaws_137 : decode cX13_readLaws 137 = .ok (.getfield 268, 3) := by decide +kernel
theorem dX13_readLaws_140 : decode cX13_readLaws 140 = .ok (.aload_n 0, 1) := by decide +kernel
theorem dX13_readLaws_141 : decode cX13_readLaws 141 = .ok (.getfield 271, 3) := by decide +kernel
theorem dX13_readLaws_144 : decode cX13_readLaws 144 = .ok (.isub, 1) := by decide +kernel
theorem dX13_readLaws_145 : decode cX13_readLaws 145 = .ok (.iastore, 1) := by decide +kernel
theorem dX13_readLaws_146 : decode cX13_readLaws 146 = .ok (.iconst 0, 1) := by decide +kernel
theorem dX13_readLaws_147 : decode cX13_readLaws 147 = .ok (.istore_n 1, 1) := by decide +kernel
theorem dX13_readLaws_148 : decode cX13_readLaws 148 = .ok (.iload_n 1, 1) := by decide +kernel
theorem dX13_readLaws_149 : decode cX13_readLaws 149 = .ok (.aload_n 0, 1) := by decide +kernel
theorem dX13_readLaws_150 : decode cX13_readLaws 150 = .ok (.getfield 87, 3) := by decide +kernel
theorem dX13_readLaws_153 : decode cX13_readLaws 153 = .ok (.aload_n 0, 1) := by decide +kernel
theorem dX13_readLaws_154 : decode cX13_readLaws 154 = .ok (.getfield 186, 3) := by decide +kernel
theorem dX13_readLaws_157 : decode cX13_readLaws 157 = .ok (.iaload, 1) := by decide +kernel
theorem dX13_readLaws_158 : decode cX13_readLaws 158 = .ok (.if_icmp .ge 34, 3) := by decide +kernel
theorem dX13_readLaws_161 : decode cX13_readLaws 161 = .ok (.aload_n 0, 1) := by decide +kernel
theorem dX13_readLaws_162 : decode cX13_readLaws 162 = .ok (.getfield 83, 3) := by decide +kernel
theorem dX13_readLaws_165 : decode cX13_readLaws 165 = .ok (.bipush 10, 2) := by decide +kernel
theorem dX13_readLaws_167 : decode cX13_readLaws 167 = .ok (.aload_n 0, 1) := by decide +kernel
theorem dX13_readLaws_168 : decode cX13_readLaws 168 = .ok (.getfield 186, 3) := by decide +kernel
theorem dX13_readLaws_171 : decode cX13_readLaws 171 = .ok (.imul, 1) := by decide +kernel
theorem dX13_readLaws_172 : decode cX13_readLaws 172 = .ok (.iload_n 1, 1) := by decide +kernel
theorem dX13_readLaws_173 : decode cX13_readLaws 173 = .ok (.iadd, 1) := by decide +kernel
theorem dX13_readLaws_174 : decode cX13_readLaws 174 = .ok (.aload_n 0, 1) := by decide +kernel
theorem dX13_readLaws_175 : decode cX13_readLaws 175 = .ok (.getfield 115, 3) := by decide +kernel
theorem dX13_readLaws_178 : decode cX13_readLaws 178 = .ok (.aload_n 0, 1) := by decide +kernel
theorem dX13_readLaws_179 : decode cX13_readLaws 179 = .ok (.getfield 271, 3) := by decide +kernel
theorem dX13_readLaws_182 : decode cX13_readLaws 182 = .ok (.iload_n 1, 1) := by decide +kernel
theorem dX13_readLaws_183 : decode cX13_readLaws 183 = .ok (.iadd, 1) := by decide +kernel
theorem dX13_readLaws_184 : decode cX13_readLaws 184 = .ok (.baload, 1) := by decide +kernel
theorem dX13_readLaws_185 : decode cX13_readLaws 185 = .ok (.bastore, 1) := by decide +kernel
theorem dX13_readLaws_186 : decode cX13_readLaws 186 = .ok (.iinc 1 1, 3) := by decide +kernel
theorem dX13_readLaws_189 : decode cX13_readLaws 189 = .ok (.goto (-41), 3) := by decide +kernel
theorem dX13_readLaws_192 : decode cX13_readLaws 192 = .ok (.aload_n 0, 1) := by decide +kernel
theorem dX13_readLaws_193 : decode cX13_readLaws 193 = .ok (.dup, 1) := by decide +kernel
theorem dX13_readLaws_194 : decode cX13_readLaws 194 = .ok (.getfield 186, 3) := by decide +kernel
theorem dX13_readLaws_197 : decode cX13_readLaws 197 = .ok (.iconst 1, 1) := by decide +kernel
theorem dX13_readLaws_198 : decode cX13_readLaws 198 = .ok (.iadd, 1) := by decide +kernel
theorem dX13_readLaws_199 : decode cX13_readLaws 199 = .ok (.putfield 186, 3) := by decide +kernel
theorem dX13_readLaws_202 : decode cX13_readLaws 202 = .ok (.aload_n 0, 1) := by decide +kernel
theorem dX13_readLaws_203 : decode cX13_readLaws 203 = .ok (.invokevirtual 315, 3) := by decide +kernel
theorem dX13_readLaws_206 : decode cX13_readLaws 206 = .ok (.aload_n 0, 1) := by decide +kernel
theorem dX13_readLaws_207 : decode cX13_readLaws 207 = .ok (.ldc_w 355, 3) := by decide +kernel
theorem dX13_readLaws_210 : decode cX13_readLaws 210 = .ok (.invokevirtual 348, 3) := by decide +kernel
theorem dX13_readLaws_213 : decode cX13_readLaws 213 = .ok (.goto (-140), 3) := by decide +kernel
theorem dX13_readLaws_216 : decode cX13_readLaws 216 = .ok (.aload_n 0, 1) := by decide +kernel
theorem dX13_readLaws_217 : decode cX13_readLaws 217 = .ok (.getfield 90, 3) := by decide +kernel
theorem dX13_readLaws_220 : decode cX13_readLaws 220 = .ok (.iconst 0, 1) := by decide +kernel
theorem dX13_readLaws_221 : decode cX13_readLaws 221 = .ok (.iconst 0, 1) := by decide +kernel
theorem dX13_readLaws_222 : decode cX13_readLaws 222 = .ok (.iastore, 1) := by decide +kernel
theorem dX13_readLaws_223 : decode cX13_readLaws 223 = .ok (.aload_n 0, 1) := by decide +kernel
theorem dX13_readLaws_224 : decode cX13_readLaws 224 = .ok (.ldc_w 322, 3) := by decide +kernel
theorem dX13_readLaws_227 : decode cX13_readLaws 227 = .ok (.invokevirtual 308, 3) := by decide +kernel
theorem dX13_readLaws_230 : decode cX13_readLaws 230 = .ok (.ifCond .eq 106, 3) := by decide +kernel
theorem dX13_readLaws_233 : decode cX13_readLaws 233 = .ok (.aload_n 0, 1) := by decide +kernel
theorem dX13_readLaws_234 : decode cX13_readLaws 234 = .ok (.getfield 189, 3) := by decide +kernel
theorem dX13_readLaws_237 : decode cX13_readLaws 237 = .ok (.bipush 20, 2) := by decide +kernel
theorem dX13_readLaws_239 : decode cX13_readLaws 239 = .ok (.if_icmp .ne 13, 3) := by decide +kernel
theorem dX13_readLaws_242 : decode cX13_readLaws 242 = .ok (.aload_n 0, 1) := by decide +kernel
theorem dX13_readLaws_243 : decode cX13_readLaws 243 = .ok (.iconst 3, 1) := by decide +kernel
theorem dX13_readLaws_244 : decode cX13_readLaws 244 = .ok (.aload_n 0, 1) := by decide +kernel
theorem dX13_readLaws_245 : decode cX13_readLaws 245 = .ok (.getfield 271, 3) := by decide +kernel
theorem dX13_readLaws_248 : decode cX13_readLaws 248 = .ok (.invokevirtual 311, 3) := by decide +kernel
theorem dX13_readLaws_251 : decode cX13_readLaws 251 = .ok (.athrow, 1) := by decide +kernel
theorem dX13_readLaws_252 : decode cX13_readLaws 252 = .ok (.aload_n 0, 1) := by decide +kernel
theorem dX13_readLaws_253 : decode cX13_readLaws 253 = .ok (.invokevirtual 315, 3) := by decide +kernel
theorem dX13_readLaws_256 : decode cX13_readLaws 256 = .ok (.aload_n 0, 1) := by decide +kernel
theorem dX13_readLaws_257 : decode cX13_readLaws 257 = .ok (.getfield 93, 3) := by decide +kernel
theorem dX13_readLaws_260 : decode cX13_readLaws 260 = .ok (.aload_n 0, 1) := by decide +kernel
theorem dX13_readLaws_261 : decode cX13_readLaws 261 = .ok (.getfield 189, 3) := by decide +kernel
theorem dX13_readLaws_264 : decode cX13_readLaws 264 = .ok (.iconst 1, 1) := by decide +kernel
theorem dX13_readLaws_265 : decode cX13_readLaws 265 = .ok (.iastore, 1) := by decide +kernel
theorem dX13_readLaws_266 : decode cX13_readLaws 266 = .ok (.aload_n 0, 1) := by decide +kernel
theorem dX13_readLaws_267 : decode cX13_readLaws 267 = .ok (.getfield 277, 3) := by decide +kernel
theorem dX13_readLaws_270 : decode cX13_readLaws 270 = .ok (.iconst 2, 1) := by decide +kernel
theorem dX13_readLaws_271 : decode cX13_readLaws 271 = .ok (.if_icmp .ne 16, 3) := by decide +kernel
theorem dX13_readLaws_274 : decode cX13_readLaws 274 = .ok (.aload_n 0, 1) := by decide +kernel
theorem dX13_readLaws_275 : decode cX13_readLaws 275 = .ok (.getfield 93, 3) := by decide +kernel
theorem dX13_readLaws_278 : decode cX13_readLaws 278 = .ok (.aload_n 0, 1) := by decide +kernel
theorem dX13_readLaws_279 : decode cX13_readLaws 279 = .ok (.getfield 189, 3) := by decide +kernel
theorem dX13_readLaws_282 : decode cX13_readLaws 282 = .ok (.aload_n 0, 1) := by decide +kernel
theorem dX13_readLaws_283 : decode cX13_readLaws 283 = .ok (.invokevirtual 352, 3) := by decide +kernel
theorem dX13_readLaws_286 : decode cX13_readLaws 286 = .ok (.iastore, 1) := by decide +kernel
theorem dX13_readLaws_287 : decode cX13_readLaws 287 = .ok (.aload_n 0, 1) := by decide +kernel
theorem dX13_readLaws_288 : decode cX13_readLaws 288 = .ok (.ldc_w 324, 3) := by decide +kernel
theorem dX13_readLaws_291 : decode cX13_readLaws 291 = .ok (.invokevirtual 348, 3) := by decide +kernel
theorem dX13_readLaws_294 : decode cX13_readLaws 294 = .ok (.aload_n 0, 1) := by decide +kernel
theorem dX13_readLaws_295 : decode cX13_readLaws 295 = .ok (.iconst 0, 1) := by decide +kernel
theorem dX13_readLaws_296 : decode cX13_readLaws 296 = .ok (.putfield 363, 3) := by decide +kernel
theorem dX13_readLaws_299 : decode cX13_readLaws 299 = .ok (.aload_n 0, 1) := by decide +kernel
theorem dX13_readLaws_300 : decode cX13_readLaws 300 = .ok (.invokevirtual 366, 3) := by decide +kernel
theorem dX13_readLaws_303 : decode cX13_readLaws 303 = .ok (.aload_n 0, 1) := by decide +kernel
theorem dX13_readLaws_304 : decode cX13_readLaws 304 = .ok (.ldc_w 355, 3) := by decide +kernel
theorem dX13_readLaws_307 : decode cX13_readLaws 307 = .ok (.invokevirtual 348, 3) := by decide +kernel
theorem dX13_readLaws_310 : decode cX13_readLaws 310 = .ok (.aload_n 0, 1) := by decide +kernel
theorem dX13_readLaws_311 : decode cX13_readLaws 311 = .ok (.dup, 1) := by decide +kernel
theorem dX13_readLaws_312 : decode cX13_readLaws 312 = .ok (.getfield 189, 3) := by decide +kernel
theorem dX13_readLaws_315 : decode cX13_readLaws 315 = .ok (.iconst 1, 1) := by decide +kernel
theorem dX13_readLaws_316 : decode cX13_readLaws 316 = .ok (.iadd, 1) := by decide +kernel
theorem dX13_readLaws_317 : decode cX13_readLaws 317 = .ok (.putfield 189, 3) := by decide +kernel
theorem dX13_readLaws_320 : decode cX13_readLaws 320 = .ok (.aload_n 0, 1) := by decide +kernel
theorem dX13_readLaws_321 : decode cX13_readLaws 321 = .ok (.getfield 90, 3) := by decide +kernel
theorem dX13_readLaws_324 : decode cX13_readLaws 324 = .ok (.aload_n 0, 1) := by decide +kernel
theorem dX13_readLaws_325 : decode cX13_readLaws 325 = .ok (.getfield 189, 3) := by decide +kernel
theorem dX13_readLaws_328 : decode cX13_readLaws 328 = .ok (.aload_n 0, 1) := by decide +kernel
theorem dX13_readLaws_329 : decode cX13_readLaws 329 = .ok (.getfield 192, 3) := by decide +kernel
theorem dX13_readLaws_332 : decode cX13_readLaws 332 = .ok (.iastore, 1) := by decide +kernel
theorem dX13_readLaws_333 : decode cX13_readLaws 333 = .ok (.goto (-110), 3) := by decide +kernel
theorem dX13_readLaws_336 : decode cX13_readLaws 336 = .ok (.aload_n 0, 1) := by decide +kernel
theorem dX13_readLaws_337 : decode cX13_readLaws 337 = .ok (.getfield 277, 3) := by decide +kernel
theorem dX13_readLaws_340 : decode cX13_readLaws 340 = .ok (.ifCond .eq 13, 3) := by decide +kernel
theorem dX13_readLaws_343 : decode cX13_readLaws 343 = .ok (.aload_n 0, 1) := by decide +kernel
theorem dX13_readLaws_344 : decode cX13_readLaws 344 = .ok (.iconst 1, 1) := by decide +kernel
theorem dX13_readLaws_345 : decode cX13_readLaws 345 = .ok (.aload_n 0, 1) := by decide +kernel
theorem dX13_readLaws_346 : decode cX13_readLaws 346 = .ok (.getfield 271, 3) := by decide +kernel
theorem dX13_readLaws_349 : decode cX13_readLaws 349 = .ok (.invokevirtual 311, 3) := by decide +kernel
theorem dX13_readLaws_352 : decode cX13_readLaws 352 = .ok (.athrow, 1) := by decide +kernel
theorem dX13_readLaws_353 : decode cX13_readLaws 353 = .ok (.return_, 1) := by decide +kernel
theorem dX13_act_0 : decode cX13_act 0 = .ok (.aload_n 0, 1) := by decide +kernel
theorem dX13_act_1 : decode cX13_act 1 = .ok (.getfield 418, 3) := by decide +kernel
theorem dX13_act_4 : decode cX13_act 4 = .ok (.sipush 500, 3) := by decide +kernel
theorem dX13_act_7 : decode cX13_act 7 = .ok (.if_icmp .ne 6, 3) := by decide +kernel
theorem dX13_act_10 : decode cX13_act 10 = .ok (.bipush (-4), 2) := by decide +kernel
theorem dX13_act_12 : decode cX13_act 12 = .ok (.ireturn, 1) := by decide +kernel
theorem dX13_act_13 : decode cX13_act 13 = .ok (.aload_n 0, 1) := by decide +kernel
theorem dX13_act_14 : decode cX13_act 14 = .ok (.getfield 122, 3) := by decide +kernel
theorem dX13_act_17 : decode cX13_act 17 = .ok (.iconst 4, 1) := by decide +kernel
theorem dX13_act_18 : decode cX13_act 18 = .ok (.aload_n 0, 1) := by decide +kernel
theorem dX13_act_19 : decode cX13_act 19 = .ok (.getfield 418, 3) := by decide +kernel
theorem dX13_act_22 : decode cX13_act 22 = .ok (.imul, 1) := by decide +kernel
theorem dX13_act_23 : decode cX13_act 23 = .ok (.iload_n 1, 1) := by decide +kernel
theorem dX13_act_24 : decode cX13_act 24 = .ok (.iastore, 1) := by decide +kernel
theorem dX13_act_25 : decode cX13_act 25 = .ok (.aload_n 0, 1) := by decide +kernel
theorem dX13_act_26 : decode cX13_act 26 = .ok (.getfield 122, 3) := by decide +kernel
theorem dX13_act_29 : decode cX13_act 29 = .ok (.iconst 4, 1) := by decide +kernel
theorem dX13_act_30 : decode cX13_act 30 = .ok (.aload_n 0, 1) := by decide +kernel
theorem dX13_act_31 : decode cX13_act 31 = .ok (.getfield 418, 3) := by decide +kernel
theorem dX13_act_34 : decode cX13_act 34 = .ok (.imul, 1) := by decide +kernel
theorem dX13_act_35 : decode cX13_act 35 = .ok (.iconst 1, 1) := by decide +kernel
theorem dX13_act_36 : decode cX13_act 36 = .ok (.iadd, 1) := by decide +kernel
theorem dX13_act_37 : decode cX13_act 37 = .ok (.iload_n 2, 1) := by decide +kernel
theorem dX13_act_38 : decode cX13_act 38 = .ok (.iastore, 1) := by decide +kernel
theorem dX13_act_39 : decode cX13_act 39 = .ok (.aload_n 0, 1) := by decide +kernel
theorem dX13_act_40 : decode cX13_act 40 = .ok (.getfield 122, 3) := by decide +kernel
theorem dX13_act_43 : decode cX13_act 43 = .ok (.iconst 4, 1) := by decide +kernel
theorem dX13_act_44 : decode cX13_act 44 = .ok (.aload_n 0, 1) := by decide +kernel
theorem dX13_act_45 : decode cX13_act 45 = .ok (.getfield 418, 3) := by decide +kernel
theorem dX13_act_48 : decode cX13_act 48 = .ok (.imul, 1) := by decide +kernel
theorem dX13_act_49 : decode cX13_act 49 = .ok (.iconst 2, 1) := by decide +kernel
theorem dX13_act_50 : decode cX13_act 50 = .ok (.iadd, 1) := by decide +kernel
theorem dX13_act_51 : decode cX13_act 51 = .ok (.iload_n 3, 1) := by decide +kernel
theorem dX13_act_52 : decode cX13_act 52 = .ok (.iastore, 1) := by decide +kernel
theorem dX13_act_53 : decode cX13_act 53 = .ok (.aload_n 0, 1) := by decide +kernel
theorem dX13_act_54 : decode cX13_act 54 = .ok (.getfield 122, 3) := by decide +kernel
theorem dX13_act_57 : decode cX13_act 57 = .ok (.iconst 4, 1) := by decide +kernel
theorem dX13_act_58 : decode cX13_act 58 = .ok (.aload_n 0, 1) := by decide +kernel
theorem dX13_act_59 : decode cX13_act 59 = .ok (.getfield 418, 3) := by decide +kernel
theorem dX13_act_62 : decode cX13_act 62 = .ok (.imul, 1) := by decide +kernel
theorem dX13_act_63 : decode cX13_act 63 = .ok (.iconst 3, 1) := by decide +kernel
theorem dX13_act_64 : decode cX13_act 64 = .ok (.iadd, 1) := by decide +kernel
theorem dX13_act_65 : decode cX13_act 65 = .ok (.iload 4, 2) := by decide +kernel
theorem dX13_act_67 : decode cX13_act 67 = .ok (.iastore, 1) := by decide +kernel
theorem dX13_act_68 : decode cX13_act 68 = .ok (.aload_n 0, 1) := by decide +kernel
theorem dX13_act_69 : decode cX13_act 69 = .ok (.dup, 1) := by decide +kernel
theorem dX13_act_70 : decode cX13_act 70 = .ok (.getfield 418, 3) := by decide +kernel
theorem dX13_act_73 : decode cX13_act 73 = .ok (.iconst 1, 1) := by decide +kernel
theorem dX13_act_74 : decode cX13_act 74 = .ok (.iadd, 1) := by decide +kernel
theorem dX13_act_75 : decode cX13_act 75 = .ok (.putfield 418, 3) := by decide +kernel
theorem dX13_act_78 : decode cX13_act 78 = .ok (.aload_n 0, 1) := by decide +kernel
theorem dX13_act_79 : decode cX13_act 79 = .ok (.iload_n 1, 1) := by decide +kernel
theorem dX13_act_80 : decode cX13_act 80 = .ok (.iload_n 2, 1) := by decide +kernel
theorem dX13_act_81 : decode cX13_act 81 = .ok (.iload_n 3, 1) := by decide +kernel
theorem dX13_act_82 : decode cX13_act 82 = .ok (.iload 4, 2) := by decide +kernel
theorem dX13_act_84 : decode cX13_act 84 = .ok (.invokevirtual 421, 3) := by decide +kernel
theorem dX13_act_87 : decode cX13_act 87 = .ok (.ireturn, 1) := by decide +kernel
theorem dX13_does_0 : decode cX13_does 0 = .ok (.iload_n 1, 1) := by decide +kernel
theorem dX13_does_1 : decode cX13_does 1 = .ok (.tableswitch 276 0 11 #[63, 70, 87, 94, 160, 178, 184, 191, 205, 214, 260, 267], 63) := by decide +kernel
theorem dX13_does_64 : decode cX13_does 64 = .ok (.aload_n 0, 1) := by decide +kernel
theorem dX13_does_65 : decode cX13_does 65 = .ok (.iload_n 2, 1) := by decide +kernel
theorem dX13_does_66 : decode cX13_does 66 = .ok (.iload_n 3, 1) := by decide +kernel
theorem dX13_does_67 : decode cX13_does 67 = .ok (.invokevirtual 424, 3) := by decide +kernel
theorem dX13_does_70 : decode cX13_does 70 = .ok (.ireturn, 1) := by decide +kernel
theorem dX13_does_71 : decode cX13_does 71 = .ok (.aload_n 0, 1) := by decide +kernel
theorem dX13_does_72 : decode cX13_does 72 = .ok (.getfield 9, 3) := by decide +kernel
theorem dX13_does_75 : decode cX13_does 75 = .ok (.iload_n 2, 1) := by decide +kernel
theorem dX13_does_76 : decode cX13_does 76 = .ok (.iload_n 3, 1) := by decide +kernel
theorem dX13_does_77 : decode cX13_does 77 = .ok (.iastore, 1) := by decide +kernel
theorem dX13_does_78 : decode cX13_does 78 = .ok (.aload_n 0, 1) := by decide +kernel
theorem dX13_does_79 : decode cX13_does 79 = .ok (.getfield 13, 3) := by decide +kernel
theorem dX13_does_82 : decode cX13_does 82 = .ok (.iload_n 2, 1) := by decide +kernel
theorem dX13_does_83 : decode cX13_does 83 = .ok (.iload 4, 2) := by decide +kernel
theorem dX13_does_85 : decode cX13_does 85 = .ok (.iastore, 1) := by decide +kernel
theorem dX13_does_86 : decode cX13_does 86 = .ok (.iconst 1, 1) := by decide +kernel
theorem dX13_does_87 : decode cX13_does 87 = .ok (.ireturn, 1) := by decide +kernel
theorem dX13_does_88 : decode cX13_does 88 = .ok (.aload_n 0, 1) := by decide +kernel
theorem dX13_does_89 : decode cX13_does 89 = .ok (.iload_n 2, 1) := by decide +kernel
theorem dX13_does_90 : decode cX13_does 90 = .ok (.iload_n 3, 1) := by decide +kernel
theorem dX13_does_91 : decode cX13_does 91 = .ok (.invokevirtual 427, 3) := by decide +kernel
theorem dX13_does_94 : decode cX13_does 94 = .ok (.ireturn, 1) := by decide +kernel
theorem dX13_does_95 : decode cX13_does 95 = .ok (.aload_n 0, 1) := by decide +kernel
theorem dX13_does_96 : decode cX13_does 96 = .ok (.getfield 22, 3) := by decide +kernel
theorem dX13_does_99 : decode cX13_does 99 = .ok (.iload_n 2, 1) := by decide +kernel
theorem dX13_does_100 : decode cX13_does 100 = .ok (.iload_n 3, 1) := by decide +kernel
theorem dX13_does_101 : decode cX13_does 101 = .ok (.iastore, 1) := by decide +kernel
theorem dX13_does_102 : decode cX13_does 102 = .ok (.aload_n 0, 1) := by decide +kernel
theorem dX13_does_103 : decode cX13_does 103 = .ok (.getfield 25, 3) := by decide +kernel
theorem dX13_does_106 : decode cX13_does 106 = .ok (.iload_n 2, 1) := by decide +kernel
theorem dX13_does_107 : decode cX13_does 107 = .ok (.iload_n 3, 1) := by decide +kernel
theorem dX13_does_108 : decode cX13_does 108 = .ok (.i2l, 1) := by decide +kernel
theorem dX13_does_109 : decode cX13_does 109 = .ok (.aload_n 0, 1) := by decide +kernel
theorem dX13_does_110 : decode cX13_does 110 = .ok (.getfield 9, 3) := by decide +kernel
theorem dX13_does_113 : decode cX13_does 113 = .ok (.aload_n 0, 1) := by decide +kernel
theorem dX13_does_114 : decode cX13_does 114 = .ok (.getfield 16, 3) := by decide +kernel
theorem dX13_does_117 : decode cX13_does 117 = .ok (.iload_n 2, 1) := by decide +kernel
theorem dX13_does_118 : decode cX13_does 118 = .ok (.iaload, 1) := by decide +kernel
theorem dX13_does_119 : decode cX13_does 119 = .ok (.iaload, 1) := by decide +kernel
theorem dX13_does_120 : decode cX13_does 120 = .ok (.i2l, 1) := by decide +kernel
theorem dX13_does_121 : decode cX13_does 121 = .ok (.aload_n 0, 1) := by decide +kernel
theorem dX13_does_122 : decode cX13_does 122 = .ok (.getfield 13, 3) := by decide +kernel
theorem dX13_does_125 : decode cX13_does 125 = .ok (.aload_n 0, 1) := by decide +kernel
theorem dX13_does_126 : decode cX13_does 126 = .ok (.getfield 16, 3) := by decide +kernel
theorem dX13_does_129 : decode cX13_does 129 = .ok (.iload_n 2, 1) := by decide +kernel
theorem dX13_does_130 : decode cX13_does 130 = .ok (.iaload, 1) := by decide +kernel
theorem dX13_does_131 : decode cX13_does 131 = .ok (.iaload, 1) := by decide +kernel
theorem dX13_does_132 : decode cX13_does 132 = .ok (.i2l, 1) := by decide +kernel
theorem dX13_does_133 : decode cX13_does 133 = .ok (.invokestatic 203, 3) := by decide +kernel
theorem dX13_does_136 : decode cX13_does 136 = .ok (.ifCond .eq 7, 3) := by decide +kernel
theorem dX13_does_139 : decode cX13_does 139 = .ok (.iconst 1, 1) := by decide +kernel
theorem dX13_does_140 : decode cX13_does 140 = .ok (.goto 4, 3) := by decide +kernel
theorem dX13_does_143 : decode cX13_does 143 = .ok (.iconst 2, 1) := by decide +kernel
theorem dX13_does_144 : decode cX13_does 144 = .ok (.iastore, 1) := by decide +kernel
theorem dX13_does_145 : decode cX13_does 145 = .ok (.aload_n 0, 1) := by decide +kernel
theorem dX13_does_146 : decode cX13_does 146 = .ok (.getfield 25, 3) := by decide +kernel
theorem dX13_does_149 : decode cX13_does 149 = .ok (.iload_n 2, 1) := by decide +kernel
theorem dX13_does_150 : decode cX13_does 150 = .ok (.iaload, 1) := by decide +kernel
theorem dX13_does_151 : decode cX13_does 151 = .ok (.iconst 1, 1) := by decide +kernel
theorem dX13_does_152 : decode cX13_does 152 = .ok (.if_icmp .ne 7, 3) := by decide +kernel
theorem dX13_does_155 : decode cX13_does 155 = .ok (.iconst 1, 1) := by decide +kernel
theorem dX13_does_156 : decode cX13_does 156 = .ok (.goto 4, 3) := by decide +kernel
theorem dX13_does_159 : decode cX13_does 159 = .ok (.iconst 0, 1) := by decide +kernel
theorem dX13_does_160 : decode cX13_does 160 = .ok (.ireturn, 1) := by decide +kernel
theorem dX13_does_161 : decode cX13_does 161 = .ok (.aload_n 0, 1) := by decide +kernel
theorem dX13_does_162 : decode cX13_does 162 = .ok (.getfield 28, 3) := by decide +kernel
theorem dX13_does_165 : decode cX13_does 165 = .ok (.iload_n 2, 1) := by decide +kernel
theorem dX13_does_166 : decode cX13_does 166 = .ok (.iaload, 1) := by decide +kernel
theorem dX13_does_167 : decode cX13_does 167 = .ok (.istore 5, 2) := by decide +kernel
theorem dX13_does_169 : decode cX13_does 169 = .ok (.aload_n 0, 1) := by decide +kernel
theorem dX13_does_170 : decode cX13_does 170 = .ok (.getfield 28, 3) := by decide +kernel
theorem dX13_does_173 : decode cX13_does 173 = .ok (.iload_n 2, 1) := by decide +kernel
theorem dX13_does_174 : decode cX13_does 174 = .ok (.iload_n 3, 1) := by decide +kernel
theorem dX13_does_175 : decode cX13_does 175 = .ok (.iastore, 1) := by decide +kernel
theorem dX13_does_176 : decode cX13_does 176 = .ok (.iload 5, 2) := by decide +kernel
theorem dX13_does_178 : decode cX13_does 178 = .ok (.ireturn, 1) := by decide +kernel
theorem dX13_does_179 : decode cX13_does 179 = .ok (.aload_n 0, 1) := by decide +kernel
theorem dX13_does_180 : decode cX13_does 180 = .ok (.iload_n 2, 1) := by decide +kernel
theorem dX13_does_181 : decode cX13_does 181 = .ok (.invokevirtual 430, 3) := by decide +kernel
theorem dX13_does_184 : decode cX13_does 184 = .ok (.ireturn, 1) := by decide +kernel
theorem dX13_does_185 : decode cX13_does 185 = .ok (.aload_n 0, 1) := by decide +kernel
theorem dX13_does_186 : decode cX13_does 186 = .ok (.iload_n 2, 1) := by decide +kernel
theorem dX13_does_187 : decode cX13_does 187 = .ok (.putfield 179, 3) := by decide +kernel
theorem dX13_does_190 : decode cX13_does 190 = .ok (.iload_n 2, 1) := by decide +kernel
theorem dX13_does_191 : decode cX13_does 191 = .ok (.ireturn, 1) := by decide +kernel
theorem dX13_does_192 : decode cX13_does 192 = .ok (.aload_n 0, 1) := by decide +kernel
theorem dX13_does_193 : decode cX13_does 193 = .ok (.getfield 182, 3) := by decide +kernel
theorem dX13_does_196 : decode cX13_does 196 = .ok (.istore 5, 2) := by decide +kernel
theorem dX13_does_198 : decode cX13_does 198 = .ok (.aload_n 0, 1) := by decide +kernel
theorem dX13_does_199 : decode cX13_does 199 = .ok (.iload_n 2, 1) := by decide +kernel
theorem dX13_does_200 : decode cX13_does 200 = .ok (.putfield 182, 3) := by decide +kernel
theorem dX13_does_203 : decode cX13_does 203 = .ok (.iload 5, 2) := by decide +kernel
theorem dX13_does_205 : decode cX13_does 205 = .ok (.ireturn, 1) := by decide +kernel
theorem dX13_does_206 : decode cX13_does 206 = .ok (.aload_n 0, 1) := by decide +kernel
theorem dX13_does_207 : decode cX13_does 207 = .ok (.iload_n 2, 1) := by decide +kernel
theorem dX13_does_208 : decode cX13_does 208 = .ok (.iload_n 3, 1) := by decide +kernel
theorem dX13_does_209 : decode cX13_does 209 = .ok (.iload 4, 2) := by decide +kernel
theorem dX13_does_211 : decode cX13_does 211 = .ok (.invokevirtual 433, 3) := by decide +kernel
theorem dX13_does_214 : decode cX13_does 214 = .ok (.ireturn, 1) := by decide +kernel
theorem dX13_does_215 : decode cX13_does 215 = .ok (.iconst 2, 1) := by decide +kernel
theorem dX13_does_216 : decode cX13_does 216 = .ok (.iload_n 2, 1) := by decide +kernel
theorem dX13_does_217 : decode cX13_does 217 = .ok (.imul, 1) := by decide +kernel
theorem dX13_does_218 : decode cX13_does 218 = .ok (.iload_n 3, 1) := by decide +kernel
theorem dX13_does_219 : decode cX13_does 219 = .ok (.iadd, 1) := by decide +kernel
theorem dX13_does_220 : decode cX13_does 220 = .ok (.bipush 8, 2) := by decide +kernel
theorem dX13_does_222 : decode cX13_does 222 = .ok (.imul, 1) := by decide +kernel
theorem dX13_does_223 : decode cX13_does 223 = .ok (.iload 4, 2) := by decide +kernel
theorem dX13_does_225 : decode cX13_does 225 = .ok (.iadd, 1) := by decide +kernel
theorem dX13_does_226 : decode cX13_does 226 = .ok (.istore 6, 2) := by decide +kernel
theorem dX13_does_228 : decode cX13_does 228 = .ok (.aload_n 0, 1) := by decide +kernel
theorem dX13_does_229 : decode cX13_does 229 = .ok (.getfield 73, 3) := by decide +kernel
theorem dX13_does_232 : decode cX13_does 232 = .ok (.iload 6, 2) := by decide +kernel
theorem dX13_does_234 : decode cX13_does 234 = .ok (.bipush 99, 2) := by decide +kernel
theorem dX13_does_236 : decode cX13_does 236 = .ok (.aload_n 0, 1) := by decide +kernel
theorem dX13_does_237 : decode cX13_does 237 = .ok (.getfield 73, 3) := by decide +kernel
theorem dX13_does_240 : decode cX13_does 240 = .ok (.iload 6, 2) := by decide +kernel
theorem dX13_does_242 : decode cX13_does 242 = .ok (.iaload, 1) := by decide +kernel
theorem dX13_does_243 : decode cX13_does 243 = .ok (.iconst 1, 1) := by decide +kernel
theorem dX13_does_244 : decode cX13_does 244 = .ok (.iadd, 1) := by decide +kernel
theorem dX13_does_245 : decode cX13_does 245 = .ok (.invokestatic 436, 3) := by decide +kernel
theorem dX13_does_248 : decode cX13_does 248 = .ok (.iastore, 1) := by decide +kernel
theorem dX13_does_249 : decode cX13_does 249 = .ok (.aload_n 0, 1) := by decide +kernel
theorem dX13_does_250 : decode cX13_does 250 = .ok (.iload_n 2, 1) := by decide +kernel
theorem dX13_does_251 : decode cX13_does 251 = .ok (.aload_n 0, 1) := by decide +kernel
theorem dX13_does_252 : decode cX13_does 252 = .ok (.getfield 76, 3) := by decide +kernel
theorem dX13_does_255 : decode cX13_does 255 = .ok (.iload_n 2, 1) := by decide +kernel
theorem dX13_does_256 : decode cX13_does 256 = .ok (.baload, 1) := by decide +kernel
theorem dX13_does_257 : decode cX13_does 257 = .ok (.invokevirtual 441, 3) := by decide +kernel
theorem dX13_does_260 : decode cX13_does 260 = .ok (.ireturn, 1) := by decide +kernel
theorem dX13_does_261 : decode cX13_does 261 = .ok (.aload_n 0, 1) := by decide +kernel
theorem dX13_does_262 : decode cX13_does 262 = .ok (.iload_n 2, 1) := by decide +kernel
theorem dX13_does_263 : decode cX13_does 263 = .ok (.iload_n 3, 1) := by decide +kernel
theorem dX13_does_264 : decode cX13_does 264 = .ok (.invokevirtual 445, 3) := by decide +kernel
theorem dX13_does_267 : decode cX13_does 267 = .ok (.ireturn, 1) := by decide +kernel
theorem dX13_does_268 : decode cX13_does 268 = .ok (.aload_n 0, 1) := by decide +kernel
theorem dX13_does_269 : decode cX13_does 269 = .ok (.iload_n 2, 1) := by decide +kernel
theorem dX13_does_270 : decode cX13_does 270 = .ok (.iload_n 3, 1) := by decide +kernel
theorem dX13_does_271 : decode cX13_does 271 = .ok (.iconst (-1), 1) := by decide +kernel
theorem dX13_does_272 : decode cX13_does 272 = .ok (.iconst 0, 1) := by decide +kernel
theorem dX13_does_273 : decode cX13_does 273 = .ok (.invokevirtual 448, 3) := by decide +kernel
theorem dX13_does_276 : decode cX13_does 276 = .ok (.ireturn, 1) := by decide +kernel
theorem dX13_does_277 : decode cX13_does 277 = .ok (.aload_n 0, 1) := by decide +kernel
theorem dX13_does_278 : decode cX13_does 278 = .ok (.iload_n 2, 1) := by decide +kernel
theorem dX13_does_279 : decode cX13_does 279 = .ok (.iload_n 3, 1) := by decide +kernel
theorem dX13_does_280 : decode cX13_does 280 = .ok (.invokevirtual 451, 3) := by decide +kernel
theorem dX13_does_283 : decode cX13_does 283 = .ok (.ireturn, 1) := by decide +kernel
theorem dX13_undo_0 : decode cX13_undo 0 = .ok (.aload_n 0, 1) := by decide +kernel
theorem dX13_undo_1 : decode cX13_undo 1 = .ok (.getfield 418, 3) := by decide +kernel
theorem dX13_undo_4 : decode cX13_undo 4 = .ok (.ifCond .ne 5, 3) := by decide +kernel
theorem dX13_undo_7 : decode cX13_undo 7 = .ok (.iconst (-1), 1) := by decide +kernel
theorem dX13_undo_8 : decode cX13_undo 8 = .ok (.ireturn, 1) := by decide +kernel
theorem dX13_undo_9 : decode cX13_undo 9 = .ok (.aload_n 0, 1) := by decide +kernel
theorem dX13_undo_10 : decode cX13_undo 10 = .ok (.dup, 1) := by decide +kernel
theorem dX13_undo_11 : decode cX13_undo 11 = .ok (.getfield 418, 3) := by decide +kernel
theorem dX13_undo_14 : decode cX13_undo 14 = .ok (.iconst 1, 1) := by decide +kernel
theorem dX13_undo_15 : decode cX13_undo 15 = .ok (.isub, 1) := by decide +kernel
theorem dX13_undo_16 : decode cX13_undo 16 = .ok (.putfield 418, 3) := by decide +kernel
theorem dX13_undo_19 : decode cX13_undo 19 = .ok (.aload_n 0, 1) := by decide +kernel
theorem dX13_undo_20 : decode cX13_undo 20 = .ok (.invokevirtual 173, 3) := by decide +kernel
theorem dX13_undo_23 : decode cX13_undo 23 = .ok (.iconst 0, 1) := by decide +kernel
theorem dX13_undo_24 : decode cX13_undo 24 = .ok (.istore_n 1, 1) := by decide +kernel
theorem dX13_undo_25 : decode cX13_undo 25 = .ok (.iload_n 1, 1) := by decide +kernel
theorem dX13_undo_26 : decode cX13_undo 26 = .ok (.aload_n 0, 1) := by decide +kernel
theorem dX13_undo_27 : decode cX13_undo 27 = .ok (.getfield 418, 3) := by decide +kernel
theorem dX13_undo_30 : decode cX13_undo 30 = .ok (.if_icmp .ge 52, 3) := by decide +kernel
theorem dX13_undo_33 : decode cX13_undo 33 = .ok (.aload_n 0, 1) := by decide +kernel
theorem dX13_undo_34 : decode cX13_undo 34 = .ok (.aload_n 0, 1) := by decide +kernel
theorem dX13_undo_35 : decode cX13_undo 35 = .ok (.getfield 122, 3) := by decide +kernel
theorem dX13_undo_38 : decode cX13_undo 38 = .ok (.iconst 4, 1) := by decide +kernel
theorem dX13_undo_39 : decode cX13_undo 39 = .ok (.iload_n 1, 1) := by decide +kernel
theorem dX13_undo_40 : decode cX13_undo 40 = .ok (.imul, 1) := by decide +kernel
theorem dX13_undo_41 : decode cX13_undo 41 = .ok (.iaload, 1) := by decide +kernel
theorem dX13_undo_42 : decode cX13_undo 42 = .ok (.aload_n 0, 1) := by decide +kernel
theorem dX13_undo_43 : decode cX13_undo 43 = .ok (.getfield 122, 3) := by decide +kernel
theorem dX13_undo_46 : decode cX13_undo 46 = .ok (.iconst 4, 1) := by decide +kernel
theorem dX13_undo_47 : decode cX13_undo 47 = .ok (.iload_n 1, 1) := by decide +kernel
theorem dX13_undo_48 : decode cX13_undo 48 = .ok (.imul, 1) := by decide +kernel
theorem dX13_undo_49 : decode cX13_undo 49 = .ok (.iconst 1, 1) := by decide +kernel
theorem dX13_undo_50 : decode cX13_undo 50 = .ok (.iadd, 1) := by decide +kernel
theorem dX13_undo_51 : decode cX13_undo 51 = .ok (.iaload, 1) := by decide +kernel
theorem dX13_undo_52 : decode cX13_undo 52 = .ok (.aload_n 0, 1) := by decide +kernel
theorem dX13_undo_53 : decode cX13_undo 53 = .ok (.getfield 122, 3) := by decide +kernel
theorem dX13_undo_56 : decode cX13_undo 56 = .ok (.iconst 4, 1) := by decide +kernel
theorem dX13_undo_57 : decode cX13_undo 57 = .ok (.iload_n 1, 1) := by decide +kernel
theorem dX13_undo_58 : decode cX13_undo 58 = .ok (.imul, 1) := by decide +kernel
theorem dX13_undo_59 : decode cX13_undo 59 = .ok (.iconst 2, 1) := by decide +kernel
theorem dX13_undo_60 : decode cX13_undo 60 = .ok (.iadd, 1) := by decide +kernel
theorem dX13_undo_61 : decode cX13_undo 61 = .ok (.iaload, 1) := by decide +kernel
theorem dX13_undo_62 : decode cX13_undo 62 = .ok (.aload_n 0, 1) := by decide +kernel
theorem dX13_undo_63 : decode cX13_undo 63 = .ok (.getfield 122, 3) := by decide +kernel
theorem dX13_undo_66 : decode cX13_undo 66 = .ok (.iconst 4, 1) := by decide +kernel
theorem dX13_undo_67 : decode cX13_undo 67 = .ok (.iload_n 1, 1) := by decide +kernel
theorem dX13_undo_68 : decode cX13_undo 68 = .ok (.imul, 1) := by decide +kernel
theorem dX13_undo_69 : decode cX13_undo 69 = .ok (.iconst 3, 1) := by decide +kernel
theorem dX13_undo_70 : decode cX13_undo 70 = .ok (.iadd, 1) := by decide +kernel
theorem dX13_undo_71 : decode cX13_undo 71 = .ok (.iaload, 1) := by decide +kernel
theorem dX13_undo_72 : decode cX13_undo 72 = .ok (.invokevirtual 421, 3) := by decide +kernel
theorem dX13_undo_75 : decode cX13_undo 75 = .ok (.istore_n 2, 1) := by decide +kernel
theorem dX13_undo_76 : decode cX13_undo 76 = .ok (.iinc 1 1, 3) := by decide +kernel
theorem dX13_undo_79 : decode cX13_undo 79 = .ok (.goto (-54), 3) := by decide +kernel
theorem dX13_undo_82 : decode cX13_undo 82 = .ok (.aload_n 0, 1) := by decide +kernel
theorem dX13_undo_83 : decode cX13_undo 83 = .ok (.getfield 418, 3) := by decide +kernel
theorem dX13_undo_86 : decode cX13_undo 86 = .ok (.ireturn, 1) := by decide +kernel
theorem dX13_lawsAgain_0 : decode cX13_lawsAgain 0 = .ok (.aload_n 0, 1) := by decide +kernel
theorem dX13_lawsAgain_1 : decode cX13_lawsAgain 1 = .ok (.iconst 0, 1) := by decide +kernel
theorem dX13_lawsAgain_2 : decode cX13_lawsAgain 2 = .ok (.putfield 186, 3) := by decide +kernel
theorem dX13_lawsAgain_5 : decode cX13_lawsAgain 5 = .ok (.aload_n 0, 1) := by decide +kernel
theorem dX13_lawsAgain_6 : decode cX13_lawsAgain 6 = .ok (.iconst 0, 1) := by decide +kernel
theorem dX13_lawsAgain_7 : decode cX13_lawsAgain 7 = .ok (.putfield 189, 3) := by decide +kernel
theorem dX13_lawsAgain_10 : decode cX13_lawsAgain 10 = .ok (.aload_n 0, 1) := by decide +kernel
theorem dX13_lawsAgain_11 : decode cX13_lawsAgain 11 = .ok (.iconst 0, 1) := by decide +kernel
theorem dX13_lawsAgain_12 : decode cX13_lawsAgain 12 = .ok (.putfield 192, 3) := by decide +kernel
theorem dX13_lawsAgain_15 : decode cX13_lawsAgain 15 = .ok (.aload_n 0, 1) := by decide +kernel
theorem dX13_lawsAgain_16 : decode cX13_lawsAgain 16 = .ok (.iconst 0, 1) := by decide +kernel
theorem dX13_lawsAgain_17 : decode cX13_lawsAgain 17 = .ok (.putfield 195, 3) := by decide +kernel
theorem dX13_lawsAgain_20 : decode cX13_lawsAgain 20 = .ok (.aload_n 0, 1) := by decide +kernel
theorem dX13_lawsAgain_21 : decode cX13_lawsAgain 21 = .ok (.iconst 0, 1) := by decide +kernel
theorem dX13_lawsAgain_22 : decode cX13_lawsAgain 22 = .ok (.putfield 198, 3) := by decide +kernel
theorem dX13_lawsAgain_25 : decode cX13_lawsAgain 25 = .ok (.aload_n 0, 1) := by decide +kernel
theorem dX13_lawsAgain_26 : decode cX13_lawsAgain 26 = .ok (.getfield 418, 3) := by decide +kernel
theorem dX13_lawsAgain_29 : decode cX13_lawsAgain 29 = .ok (.iconst 1, 1) := by decide +kernel
theorem dX13_lawsAgain_30 : decode cX13_lawsAgain 30 = .ok (.isub, 1) := by decide +kernel
theorem dX13_lawsAgain_31 : decode cX13_lawsAgain 31 = .ok (.istore_n 1, 1) := by decide +kernel
theorem dX13_lawsAgain_32 : decode cX13_lawsAgain 32 = .ok (.iload_n 1, 1) := by decide +kernel
theorem dX13_lawsAgain_33 : decode cX13_lawsAgain 33 = .ok (.ifCond .lt 49, 3) := by decide +kernel
theorem dX13_lawsAgain_36 : decode cX13_lawsAgain 36 = .ok (.aload_n 0, 1) := by decide +kernel
theorem dX13_lawsAgain_37 : decode cX13_lawsAgain 37 = .ok (.getfield 122, 3) := by decide +kernel
theorem dX13_lawsAgain_40 : decode cX13_lawsAgain 40 = .ok (.iconst 4, 1) := by decide +kernel
theorem dX13_lawsAgain_41 : decode cX13_lawsAgain 41 = .ok (.iload_n 1, 1) := by decide +kernel
theorem dX13_lawsAgain_42 : decode cX13_lawsAgain 42 = .ok (.imul, 1) := by decide +kernel
theorem dX13_lawsAgain_43 : decode cX13_lawsAgain 43 = .ok (.iaload, 1) := by decide +kernel
theorem dX13_lawsAgain_44 : decode cX13_lawsAgain 44 = .ok (.ifCond .eq 6, 3) := by decide +kernel
theorem dX13_lawsAgain_47 : decode cX13_lawsAgain 47 = .ok (.goto 29, 3) := by decide +kernel
theorem dX13_lawsAgain_50 : decode cX13_lawsAgain 50 = .ok (.aload_n 0, 1) := by decide +kernel
theorem dX13_lawsAgain_51 : decode cX13_lawsAgain 51 = .ok (.aload_n 0, 1) := by decide +kernel
theorem dX13_lawsAgain_52 : decode cX13_lawsAgain 52 = .ok (.getfield 122, 3) := by decide +kernel
theorem dX13_lawsAgain_55 : decode cX13_lawsAgain 55 = .ok (.iconst 4, 1) := by decide +kernel
theorem dX13_lawsAgain_56 : decode cX13_lawsAgain 56 = .ok (.iload_n 1, 1) := by decide +kernel
theorem dX13_lawsAgain_57 : decode cX13_lawsAgain 57 = .ok (.imul, 1) := by decide +kernel
theorem dX13_lawsAgain_58 : decode cX13_lawsAgain 58 = .ok (.iconst 1, 1) := by decide +kernel
theorem dX13_lawsAgain_59 : decode cX13_lawsAgain 59 = .ok (.iadd, 1) := by decide +kernel
theorem dX13_lawsAgain_60 : decode cX13_lawsAgain 60 = .ok (.iaload, 1) := by decide +kernel
theorem dX13_lawsAgain_61 : decode cX13_lawsAgain 61 = .ok (.aload_n 0, 1) := by decide +kernel
theorem dX13_lawsAgain_62 : decode cX13_lawsAgain 62 = .ok (.getfield 122, 3) := by decide +kernel
theorem dX13_lawsAgain_65 : decode cX13_lawsAgain 65 = .ok (.iconst 4, 1) := by decide +kernel
theorem dX13_lawsAgain_66 : decode cX13_lawsAgain 66 = .ok (.iload_n 1, 1) := by decide +kernel
theorem dX13_lawsAgain_67 : decode cX13_lawsAgain 67 = .ok (.imul, 1) := by decide +kernel
theorem dX13_lawsAgain_68 : decode cX13_lawsAgain 68 = .ok (.iconst 2, 1) := by decide +kernel
theorem dX13_lawsAgain_69 : decode cX13_lawsAgain 69 = .ok (.iadd, 1) := by decide +kernel
theorem dX13_lawsAgain_70 : decode cX13_lawsAgain 70 = .ok (.iaload, 1) := by decide +kernel
theorem dX13_lawsAgain_71 : decode cX13_lawsAgain 71 = .ok (.invokevirtual 424, 3) := by decide +kernel
theorem dX13_lawsAgain_74 : decode cX13_lawsAgain 74 = .ok (.istore_n 2, 1) := by decide +kernel
theorem dX13_lawsAgain_75 : decode cX13_lawsAgain 75 = .ok (.return_, 1) := by decide +kernel
theorem dX13_lawsAgain_76 : decode cX13_lawsAgain 76 = .ok (.iinc 1 (-1), 3) := by decide +kernel
theorem dX13_lawsAgain_79 : decode cX13_lawsAgain 79 = .ok (.goto (-47), 3) := by decide +kernel
theorem dX13_lawsAgain_82 : decode cX13_lawsAgain 82 = .ok (.return_, 1) := by decide +kernel
theorem dX13_laws_0 : decode cX13_laws 0 = .ok (.iconst 0, 1) := by decide +kernel
theorem dX13_laws_1 : decode cX13_laws 1 = .ok (.istore_n 1, 1) := by decide +kernel
theorem dX13_laws_2 : decode cX13_laws 2 = .ok (.iconst 0, 1) := by decide +kernel
theorem dX13_laws_3 : decode cX13_laws 3 = .ok (.istore_n 2, 1) := by decide +kernel
theorem dX13_laws_4 : decode cX13_laws 4 = .ok (.iload_n 2, 1) := by decide +kernel
theorem dX13_laws_5 : decode cX13_laws 5 = .ok (.iconst 4, 1) := by decide +kernel
theorem dX13_laws_6 : decode cX13_laws 6 = .ok (.if_icmp .ge 29, 3) := by decide +kernel
theorem dX13_laws_9 : decode cX13_laws 9 = .ok (.iload_n 1, 1) := by decide +kernel
theorem dX13_laws_10 : decode cX13_laws 10 = .ok (.ifCond .ne 13, 3) := by decide +kernel
theorem dX13_laws_13 : decode cX13_laws 13 = .ok (.aload_n 0, 1) := by decide +kernel
theorem dX13_laws_14 : decode cX13_laws 14 = .ok (.getfield 67, 3) := by decide +kernel
theorem dX13_laws_17 : decode cX13_laws 17 = .ok (.iload_n 2, 1) := by decide +kernel
theorem dX13_laws_18 : decode cX13_laws 18 = .ok (.iaload, 1) := by decide +kernel
theorem dX13_laws_19 : decode cX13_laws 19 = .ok (.iconst (-1), 1) := by decide +kernel
theorem dX13_laws_20 : decode cX13_laws 20 = .ok (.if_icmp .eq 7, 3) := by decide +kernel
theorem dX13_laws_23 : decode cX13_laws 23 = .ok (.iconst 1, 1) := by decide +kernel
theorem dX13_laws_24 : decode cX13_laws 24 = .ok (.goto 4, 3) := by decide +kernel
theorem dX13_laws_27 : decode cX13_laws 27 = .ok (.iconst 0, 1) := by decide +kernel
theorem dX13_laws_28 : decode cX13_laws 28 = .ok (.istore_n 1, 1) := by decide +kernel
theorem dX13_laws_29 : decode cX13_laws 29 = .ok (.iinc 2 1, 3) := by decide +kernel
theorem dX13_laws_32 : decode cX13_laws 32 = .ok (.goto (-28), 3) := by decide +kernel
theorem dX13_laws_35 : decode cX13_laws 35 = .ok (.aload_n 0, 1) := by decide +kernel
theorem dX13_laws_36 : decode cX13_laws 36 = .ok (.aload_n 0, 1) := by decide +kernel
theorem dX13_laws_37 : decode cX13_laws 37 = .ok (.getfield 112, 3) := by decide +kernel
theorem dX13_laws_40 : decode cX13_laws 40 = .ok (.putfield 115, 3) := by decide +kernel
theorem dX13_laws_43 : decode cX13_laws 43 = .ok (.aload_n 0, 1) := by decide +kernel
theorem dX13_laws_44 : decode cX13_laws 44 = .ok (.aload_n 0, 1) := by decide +kernel
theorem dX13_laws_45 : decode cX13_laws 45 = .ok (.getfield 457, 3) := by decide +kernel
theorem dX13_laws_48 : decode cX13_laws 48 = .ok (.putfield 265, 3) := by decide +kernel
theorem dX13_laws_51 : decode cX13_laws 51 = .ok (.aload_n 0, 1) := by decide +kernel
theorem dX13_laws_52 : decode cX13_laws 52 = .ok (.iconst 0, 1) := by decide +kernel
theorem dX13_laws_53 : decode cX13_laws 53 = .ok (.putfield 457, 3) := by decide +kernel
theorem dX13_laws_56 : decode cX13_laws 56 = .ok (.iload_n 1, 1) := by decide +kernel
theorem dX13_laws_57 : decode cX13_laws 57 = .ok (.ifCond .eq 6, 3) := by decide +kernel
theorem dX13_laws_60 : decode cX13_laws 60 = .ok (.bipush (-3), 2) := by decide +kernel
theorem dX13_laws_62 : decode cX13_laws 62 = .ok (.ireturn, 1) := by decide +kernel
theorem dX13_laws_63 : decode cX13_laws 63 = .ok (.aload_n 0, 1) := by decide +kernel
theorem dX13_laws_64 : decode cX13_laws 64 = .ok (.iconst 0, 1) := by decide +kernel
theorem dX13_laws_65 : decode cX13_laws 65 = .ok (.putfield 262, 3) := by decide +kernel
theorem dX13_laws_68 : decode cX13_laws 68 = .ok (.aload_n 0, 1) := by decide +kernel
theorem dX13_laws_69 : decode cX13_laws 69 = .ok (.iconst (-1), 1) := by decide +kernel
theorem dX13_laws_70 : decode cX13_laws 70 = .ok (.putfield 118, 3) := by decide +kernel
theorem dX13_laws_73 : decode cX13_laws 73 = .ok (.iconst 1, 1) := by decide +kernel
theorem dX13_laws_74 : decode cX13_laws 74 = .ok (.istore_n 2, 1) := by decide +kernel
theorem dX13_laws_75 : decode cX13_laws 75 = .ok (.aload_n 0, 1) := by decide +kernel
theorem dX13_laws_76 : decode cX13_laws 76 = .ok (.invokevirtual 454, 3) := by decide +kernel
theorem dX13_laws_79 : decode cX13_laws 79 = .ok (.goto 6, 3) := by decide +kernel
theorem dX13_laws_82 : decode cX13_laws 82 = .ok (.astore_n 3, 1) := by decide +kernel
theorem dX13_laws_83 : decode cX13_laws 83 = .ok (.iconst 0, 1) := by decide +kernel
theorem dX13_laws_84 : decode cX13_laws 84 = .ok (.istore_n 2, 1) := by decide +kernel
theorem dX13_laws_85 : decode cX13_laws 85 = .ok (.aload_n 0, 1) := by decide +kernel
theorem dX13_laws_86 : decode cX13_laws 86 = .ok (.getfield 265, 3) := by decide +kernel
theorem dX13_laws_89 : decode cX13_laws 89 = .ok (.istore_n 3, 1) := by decide +kernel
theorem dX13_laws_90 : decode cX13_laws 90 = .ok (.aload_n 0, 1) := by decide +kernel
theorem dX13_laws_91 : decode cX13_laws 91 = .ok (.getfield 460, 3) := by decide +kernel
theorem dX13_laws_94 : decode cX13_laws 94 = .ok (.istore 4, 2) := by decide +kernel
theorem dX13_laws_96 : decode cX13_laws 96 = .ok (.iconst 0, 1) := by decide +kernel
theorem dX13_laws_97 : decode cX13_laws 97 = .ok (.istore 5, 2) := by decide +kernel
theorem dX13_laws_99 : decode cX13_laws 99 = .ok (.iload 5, 2) := by decide +kernel
theorem dX13_laws_101 : decode cX13_laws 101 = .ok (.iload_n 3, 1) := by decide +kernel
theorem dX13_laws_102 : decode cX13_laws 102 = .ok (.if_icmp .ge 30, 3) := by decide +kernel
theorem dX13_laws_105 : decode cX13_laws 105 = .ok (.iload_n 2, 1) := by decide +kernel
theorem dX13_laws_106 : decode cX13_laws 106 = .ok (.ifCond .eq 26, 3) := by decide +kernel
theorem dX13_laws_109 : decode cX13_laws 109 = .ok (.aload_n 0, 1) := by decide +kernel
theorem dX13_laws_110 : decode cX13_laws 110 = .ok (.getfield 125, 3) := by decide +kernel
theorem dX13_laws_113 : decode cX13_laws 113 = .ok (.iload 4, 2) := by decide +kernel
theorem dX13_laws_115 : decode cX13_laws 115 = .ok (.iload 5, 2) := by decide +kernel
theorem dX13_laws_117 : decode cX13_laws 117 = .ok (.iadd, 1) := by decide +kernel
theorem dX13_laws_118 : decode cX13_laws 118 = .ok (.aload_n 0, 1) := by decide +kernel
theorem dX13_laws_119 : decode cX13_laws 119 = .ok (.getfield 112, 3) := by decide +kernel
theorem dX13_laws_122 : decode cX13_laws 122 = .ok (.iload 5, 2) := by decide +kernel
theorem dX13_laws_124 : decode cX13_laws 124 = .ok (.baload, 1) := by decide +kernel
theorem dX13_laws_125 : decode cX13_laws 125 = .ok (.bastore, 1) := by decide +kernel
theorem dX13_laws_126 : decode cX13_laws 126 = .ok (.iinc 5 1, 3) := by decide +kernel
theorem dX13_laws_129 : decode cX13_laws 129 = .ok (.goto (-30), 3) := by decide +kernel
theorem dX13_laws_132 : decode cX13_laws 132 = .ok (.aload_n 0, 1) := by decide +kernel
theorem dX13_laws_133 : decode cX13_laws 133 = .ok (.invokevirtual 463, 3) := by decide +kernel
theorem dX13_laws_136 : decode cX13_laws 136 = .ok (.iload_n 2, 1) := by decide +kernel
theorem dX13_laws_137 : decode cX13_laws 137 = .ok (.ifCond .ne 5, 3) := by decide +kernel
theorem dX13_laws_140 : decode cX13_laws 140 = .ok (.iconst (-1), 1) := by decide +kernel
theorem dX13_laws_141 : decode cX13_laws 141 = .ok (.ireturn, 1) := by decide +kernel
theorem dX13_laws_142 : decode cX13_laws 142 = .ok (.aload_n 0, 1) := by decide +kernel
theorem dX13_laws_143 : decode cX13_laws 143 = .ok (.getfield 418, 3) := by decide +kernel
theorem dX13_laws_146 : decode cX13_laws 146 = .ok (.sipush 500, 3) := by decide +kernel
theorem dX13_laws_149 : decode cX13_laws 149 = .ok (.if_icmp .ne 6, 3) := by decide +kernel
theorem dX13_laws_152 : decode cX13_laws 152 = .ok (.bipush (-4), 2) := by decide +kernel
theorem dX13_laws_154 : decode cX13_laws 154 = .ok (.ireturn, 1) := by decide +kernel
theorem dX13_laws_155 : decode cX13_laws 155 = .ok (.aload_n 0, 1) := by decide +kernel
theorem dX13_laws_156 : decode cX13_laws 156 = .ok (.dup, 1) := by decide +kernel
theorem dX13_laws_157 : decode cX13_laws 157 = .ok (.getfield 460, 3) := by decide +kernel
theorem dX13_laws_160 : decode cX13_laws 160 = .ok (.iload_n 3, 1) := by decide +kernel
theorem dX13_laws_161 : decode cX13_laws 161 = .ok (.iadd, 1) := by decide +kernel
theorem dX13_laws_162 : decode cX13_laws 162 = .ok (.putfield 460, 3) := by decide +kernel
theorem dX13_laws_165 : decode cX13_laws 165 = .ok (.aload_n 0, 1) := by decide +kernel
theorem dX13_laws_166 : decode cX13_laws 166 = .ok (.iconst 0, 1) := by decide +kernel
theorem dX13_laws_167 : decode cX13_laws 167 = .ok (.iload 4, 2) := by decide +kernel
theorem dX13_laws_169 : decode cX13_laws 169 = .ok (.iload_n 3, 1) := by decide +kernel
theorem dX13_laws_170 : decode cX13_laws 170 = .ok (.iconst 0, 1) := by decide +kernel
theorem dX13_laws_171 : decode cX13_laws 171 = .ok (.invokevirtual 466, 3) := by decide +kernel
theorem dX13_laws_174 : decode cX13_laws 174 = .ok (.ireturn, 1) := by decide +kernel
theorem dX13_feed_0 : decode cX13_feed 0 = .ok (.aload_n 0, 1) := by decide +kernel
theorem dX13_feed_1 : decode cX13_feed 1 = .ok (.getfield 457, 3) := by decide +kernel
theorem dX13_feed_4 : decode cX13_feed 4 = .ok (.bipush 20, 2) := by decide +kernel
theorem dX13_feed_6 : decode cX13_feed 6 = .ok (.iadd, 1) := by decide +kernel
theorem dX13_feed_7 : decode cX13_feed 7 = .ok (.sipush 3000, 3) := by decide +kernel
theorem dX13_feed_10 : decode cX13_feed 10 = .ok (.if_icmp .le 6, 3) := by decide +kernel
theorem dX13_feed_13 : decode cX13_feed 13 = .ok (.bipush (-4), 2) := by decide +kernel
theorem dX13_feed_15 : decode cX13_feed 15 = .ok (.ireturn, 1) := by decide +kernel
theorem dX13_feed_16 : decode cX13_feed 16 = .ok (.aload_n 0, 1) := by decide +kernel
theorem dX13_feed_17 : decode cX13_feed 17 = .ok (.iload_n 1, 1) := by decide +kernel
theorem dX13_feed_18 : decode cX13_feed 18 = .ok (.invokevirtual 469, 3) := by decide +kernel
theorem dX13_feed_21 : decode cX13_feed 21 = .ok (.aload_n 0, 1) := by decide +kernel
theorem dX13_feed_22 : decode cX13_feed 22 = .ok (.iload_n 2, 1) := by decide +kernel
theorem dX13_feed_23 : decode cX13_feed 23 = .ok (.invokevirtual 469, 3) := by decide +kernel
theorem dX13_feed_26 : decode cX13_feed 26 = .ok (.aload_n 0, 1) := by decide +kernel
theorem dX13_feed_27 : decode cX13_feed 27 = .ok (.iload_n 3, 1) := by decide +kernel
theorem dX13_feed_28 : decode cX13_feed 28 = .ok (.invokevirtual 469, 3) := by decide +kernel
theorem dX13_feed_31 : decode cX13_feed 31 = .ok (.aload_n 0, 1) := by decide +kernel
theorem dX13_feed_32 : decode cX13_feed 32 = .ok (.iload 4, 2) := by decide +kernel
theorem dX13_feed_34 : decode cX13_feed 34 = .ok (.invokevirtual 469, 3) := by decide +kernel
theorem dX13_feed_37 : decode cX13_feed 37 = .ok (.aload_n 0, 1) := by decide +kernel
theorem dX13_feed_38 : decode cX13_feed 38 = .ok (.iload 5, 2) := by decide +kernel
theorem dX13_feed_40 : decode cX13_feed 40 = .ok (.invokevirtual 469, 3) := by decide +kernel
theorem dX13_feed_43 : decode cX13_feed 43 = .ok (.aload_n 0, 1) := by decide +kernel
theorem dX13_feed_44 : decode cX13_feed 44 = .ok (.getfield 457, 3) := by decide +kernel
theorem dX13_feed_47 : decode cX13_feed 47 = .ok (.ireturn, 1) := by decide +kernel
theorem dX13_lay_0 : decode cX13_lay 0 = .ok (.bipush 24, 2) := by decide +kernel
theorem dX13_lay_2 : decode cX13_lay 2 = .ok (.istore_n 2, 1) := by decide +kernel
theorem dX13_lay_3 : decode cX13_lay 3 = .ok (.iload_n 2, 1) := by decide +kernel
theorem dX13_lay_4 : decode cX13_lay 4 = .ok (.ifCond .lt 32, 3) := by decide +kernel
theorem dX13_lay_7 : decode cX13_lay 7 = .ok (.aload_n 0, 1) := by decide +kernel
theorem dX13_lay_8 : decode cX13_lay 8 = .ok (.getfield 112, 3) := by decide +kernel
theorem dX13_lay_11 : decode cX13_lay 11 = .ok (.aload_n 0, 1) := by decide +kernel
theorem dX13_lay_12 : decode cX13_lay 12 = .ok (.getfield 457, 3) := by decide +kernel
theorem dX13_lay_15 : decode cX13_lay 15 = .ok (.iload_n 1, 1) := by decide +kernel
theorem dX13_lay_16 : decode cX13_lay 16 = .ok (.iload_n 2, 1) := by decide +kernel
theorem dX13_lay_17 : decode cX13_lay 17 = .ok (.ishr, 1) := by decide +kernel
theorem dX13_lay_18 : decode cX13_lay 18 = .ok (.i2b, 1) := by decide +kernel
theorem dX13_lay_19 : decode cX13_lay 19 = .ok (.bastore, 1) := by decide +kernel
theorem dX13_lay_20 : decode cX13_lay 20 = .ok (.aload_n 0, 1) := by decide +kernel
theorem dX13_lay_21 : decode cX13_lay 21 = .ok (.dup, 1) := by decide +kernel
theorem dX13_lay_22 : decode cX13_lay 22 = .ok (.getfield 457, 3) := by decide +kernel
theorem dX13_lay_25 : decode cX13_lay 25 = .ok (.iconst 1, 1) := by decide +kernel
theorem dX13_lay_26 : decode cX13_lay 26 = .ok (.iadd, 1) := by decide +kernel
theorem dX13_lay_27 : decode cX13_lay 27 = .ok (.putfield 457, 3) := by decide +kernel
theorem dX13_lay_30 : decode cX13_lay 30 = .ok (.iinc 2 (-8), 3) := by decide +kernel
theorem dX13_lay_33 : decode cX13_lay 33 = .ok (.goto (-30), 3) := by decide +kernel
theorem dX13_lay_36 : decode cX13_lay 36 = .ok (.return_, 1) := by decide +kernel
theorem dX13_end_0 : decode cX13_end 0 = .ok (.iload_n 1, 1) := by decide +kernel
theorem dX13_end_1 : decode cX13_end 1 = .ok (.i2l, 1) := by decide +kernel
theorem dX13_end_2 : decode cX13_end 2 = .ok (.lconst 0, 1) := by decide +kernel
theorem dX13_end_3 : decode cX13_end 3 = .ok (.aload_n 0, 1) := by decide +kernel
theorem dX13_end_4 : decode cX13_end 4 = .ok (.getfield 457, 3) := by decide +kernel
theorem dX13_end_7 : decode cX13_end 7 = .ok (.i2l, 1) := by decide +kernel
theorem dX13_end_8 : decode cX13_end 8 = .ok (.invokestatic 203, 3) := by decide +kernel
theorem dX13_end_11 : decode cX13_end 11 = .ok (.ifCond .ne 5, 3) := by decide +kernel
theorem dX13_end_14 : decode cX13_end 14 = .ok (.iconst (-1), 1) := by decide +kernel
theorem dX13_end_15 : decode cX13_end 15 = .ok (.ireturn, 1) := by decide +kernel
theorem dX13_end_16 : decode cX13_end 16 = .ok (.aload_n 0, 1) := by decide +kernel
theorem dX13_end_17 : decode cX13_end 17 = .ok (.iload_n 1, 1) := by decide +kernel
theorem dX13_end_18 : decode cX13_end 18 = .ok (.putfield 457, 3) := by decide +kernel
theorem dX13_end_21 : decode cX13_end 21 = .ok (.iload_n 1, 1) := by decide +kernel
theorem dX13_end_22 : decode cX13_end 22 = .ok (.ireturn, 1) := by decide +kernel
theorem dX13_fault_0 : decode cX13_fault 0 = .ok (.iload_n 1, 1) := by decide +kernel
theorem dX13_fault_1 : decode cX13_fault 1 = .ok (.ifCond .ne 10, 3) := by decide +kernel
theorem dX13_fault_4 : decode cX13_fault 4 = .ok (.aload_n 0, 1) := by decide +kernel
theorem dX13_fault_5 : decode cX13_fault 5 = .ok (.getfield 262, 3) := by decide +kernel
theorem dX13_fault_8 : decode cX13_fault 8 = .ok (.goto 16, 3) := by decide +kernel
theorem dX13_fault_11 : decode cX13_fault 11 = .ok (.iload_n 1, 1) := by decide +kernel
theorem dX13_fault_12 : decode cX13_fault 12 = .ok (.iconst 1, 1) := by decide +kernel
theorem dX13_fault_13 : decode cX13_fault 13 = .ok (.if_icmp .ne 10, 3) := by decide +kernel
theorem dX13_fault_16 : decode cX13_fault 16 = .ok (.aload_n 0, 1) := by decide +kernel
theorem dX13_fault_17 : decode cX13_fault 17 = .ok (.getfield 118, 3) := by decide +kernel
theorem dX13_fault_20 : decode cX13_fault 20 = .ok (.goto 4, 3) := by decide +kernel
theorem dX13_fault_23 : decode cX13_fault 23 = .ok (.iconst (-1), 1) := by decide +kernel
theorem dX13_fault_24 : decode cX13_fault 24 = .ok (.ireturn, 1) := by decide +kernel
theorem dX13_isFighter_0 : decode cX13_isFighter 0 = .ok (.iload_n 1, 1) := by decide +kernel
theorem dX13_isFighter_1 : decode cX13_isFighter 1 = .ok (.i2l, 1) := by decide +kernel
theorem dX13_isFighter_2 : decode cX13_isFighter 2 = .ok (.lconst 0, 1) := by decide +kernel
theorem dX13_isFighter_3 : decode cX13_isFighter 3 = .ok (.aload_n 0, 1) := by decide +kernel
theorem dX13_isFighter_4 : decode cX13_isFighter 4 = .ok (.getfield 176, 3) := by decide +kernel
theorem dX13_isFighter_7 : decode cX13_isFighter 7 = .ok (.i2l, 1) := by decide +kernel
theorem dX13_isFighter_8 : decode cX13_isFighter 8 = .ok (.lconst 1, 1) := by decide +kernel
theorem dX13_isFighter_9 : decode cX13_isFighter 9 = .ok (.lsub, 1) := by decide +kernel
theorem dX13_isFighter_10 : decode cX13_isFighter 10 = .ok (.invokestatic 203, 3) := by decide +kernel
theorem dX13_isFighter_13 : decode cX13_isFighter 13 = .ok (.ireturn, 1) := by decide +kernel
theorem dX13_limit_0 : decode cX13_limit 0 = .ok (.iload_n 1, 1) := by decide +kernel
theorem dX13_limit_1 : decode cX13_limit 1 = .ok (.invokestatic 214, 3) := by decide +kernel
theorem dX13_limit_4 : decode cX13_limit 4 = .ok (.ifCond .eq 28, 3) := by decide +kernel
theorem dX13_limit_7 : decode cX13_limit 7 = .ok (.iload_n 2, 1) := by decide +kernel
theorem dX13_limit_8 : decode cX13_limit 8 = .ok (.i2l, 1) := by decide +kernel
theorem dX13_limit_9 : decode cX13_limit 9 = .ok (.lconst 0, 1) := by decide +kernel
theorem dX13_limit_10 : decode cX13_limit 10 = .ok (.ldc2_w 472, 3) := by decide +kernel
theorem dX13_limit_13 : decode cX13_limit 13 = .ok (.invokestatic 203, 3) := by decide +kernel
theorem dX13_limit_16 : decode cX13_limit 16 = .ok (.ifCond .eq 16, 3) := by decide +kernel
theorem dX13_limit_19 : decode cX13_limit 19 = .ok (.iload_n 3, 1) := by decide +kernel
theorem dX13_limit_20 : decode cX13_limit 20 = .ok (.i2l, 1) := by decide +kernel
theorem dX13_limit_21 : decode cX13_limit 21 = .ok (.iload_n 2, 1) := by decide +kernel
theorem dX13_limit_22 : decode cX13_limit 22 = .ok (.i2l, 1) := by decide +kernel
theorem dX13_limit_23 : decode cX13_limit 23 = .ok (.ldc2_w 472, 3) := by decide +kernel
theorem dX13_limit_26 : decode cX13_limit 26 = .ok (.invokestatic 203, 3) := by decide +kernel
theorem dX13_limit_29 : decode cX13_limit 29 = .ok (.ifCond .ne 6, 3) := by decide +kernel
theorem dX13_limit_32 : decode cX13_limit 32 = .ok (.bipush (-2), 2) := by decide +kernel
theorem dX13_limit_34 : decode cX13_limit 34 = .ok (.ireturn, 1) := by decide +kernel
theorem dX13_limit_35 : decode cX13_limit 35 = .ok (.aload_n 0, 1) := by decide +kernel
theorem dX13_limit_36 : decode cX13_limit 36 = .ok (.getfield 37, 3) := by decide +kernel
theorem dX13_limit_39 : decode cX13_limit 39 = .ok (.iload_n 1, 1) := by decide +kernel
theorem dX13_limit_40 : decode cX13_limit 40 = .ok (.iaload, 1) := by decide +kernel
theorem dX13_limit_41 : decode cX13_limit 41 = .ok (.ifCond .eq 7, 3) := by decide +kernel
theorem dX13_limit_44 : decode cX13_limit 44 = .ok (.iconst 1, 1) := by decide +kernel
theorem dX13_limit_45 : decode cX13_limit 45 = .ok (.goto 4, 3) := by decide +kernel
theorem dX13_limit_48 : decode cX13_limit 48 = .ok (.iconst 0, 1) := by decide +kernel
theorem dX13_limit_49 : decode cX13_limit 49 = .ok (.istore 4, 2) := by decide +kernel
theorem dX13_limit_51 : decode cX13_limit 51 = .ok (.iconst 0, 1) := by decide +kernel
theorem dX13_limit_52 : decode cX13_limit 52 = .ok (.istore 5, 2) := by decide +kernel
theorem dX13_limit_54 : decode cX13_limit 54 = .ok (.iload 5, 2) := by decide +kernel
theorem dX13_limit_56 : decode cX13_limit 56 = .ok (.aload_n 0, 1) := by decide +kernel
theorem dX13_limit_57 : decode cX13_limit 57 = .ok (.getfield 176, 3) := by decide +kernel
theorem dX13_limit_60 : decode cX13_limit 60 = .ok (.if_icmp .ge 42, 3) := by decide +kernel
theorem dX13_limit_63 : decode cX13_limit 63 = .ok (.iload 4, 2) := by decide +kernel
theorem dX13_limit_65 : decode cX13_limit 65 = .ok (.ifCond .ne 24, 3) := by decide +kernel
theorem dX13_limit_68 : decode cX13_limit 68 = .ok (.aload_n 0, 1) := by decide +kernel
theorem dX13_limit_69 : decode cX13_limit 69 = .ok (.getfield 16, 3) := by decide +kernel
theorem dX13_limit_72 : decode cX13_limit 72 = .ok (.iload 5, 2) := by decide +kernel
theorem dX13_limit_74 : decode cX13_limit 74 = .ok (.iaload, 1) := by decide +kernel
theorem dX13_limit_75 : decode cX13_limit 75 = .ok (.iload_n 1, 1) := by decide +kernel
theorem dX13_limit_76 : decode cX13_limit 76 = .ok (.if_icmp .ne 17, 3) := by decide +kernel
theorem dX13_limit_79 : decode cX13_limit 79 = .ok (.aload_n 0, 1) := by decide +kernel
theorem dX13_limit_80 : decode cX13_limit 80 = .ok (.getfield 25, 3) := by decide +kernel
theorem dX13_limit_83 : decode cX13_limit 83 = .ok (.iload 5, 2) := by decide +kernel
theorem dX13_limit_85 : decode cX13_limit 85 = .ok (.iaload, 1) := by decide +kernel
theorem dX13_limit_86 : decode cX13_limit 86 = .ok (.ifCond .eq 7, 3) := by decide +kernel
theorem dX13_limit_89 : decode cX13_limit 89 = .ok (.iconst 1, 1) := by decide +kernel
theorem dX13_limit_90 : decode cX13_limit 90 = .ok (.goto 4, 3) := by decide +kernel
theorem dX13_limit_93 : decode cX13_limit 93 = .ok (.iconst 0, 1) := by decide +kernel
theorem dX13_limit_94 : decode cX13_limit 94 = .ok (.istore 4, 2) := by decide +kernel
theorem dX13_limit_96 : decode cX13_limit 96 = .ok (.iinc 5 1, 3) := by decide +kernel
theorem dX13_limit_99 : decode cX13_limit 99 = .ok (.goto (-45), 3) := by decide +kernel
theorem dX13_limit_102 : decode cX13_limit 102 = .ok (.iload 4, 2) := by decide +kernel
theorem dX13_limit_104 : decode cX13_limit 104 = .ok (.ifCond .eq 8, 3) := by decide +kernel
theorem dX13_limit_107 : decode cX13_limit 107 = .ok (.bipush (-3), 2) := by decide +kernel
theorem dX13_limit_109 : decode cX13_limit 109 = .ok (.goto 11, 3) := by decide +kernel
theorem dX13_limit_112 : decode cX13_limit 112 = .ok (.aload_n 0, 1) := by decide +kernel
theorem dX13_limit_113 : decode cX13_limit 113 = .ok (.iconst 1, 1) := by decide +kernel
theorem dX13_limit_114 : decode cX13_limit 114 = .ok (.iload_n 1, 1) := by decide +kernel
theorem dX13_limit_115 : decode cX13_limit 115 = .ok (.iload_n 2, 1) := by decide +kernel
theorem dX13_limit_116 : decode cX13_limit 116 = .ok (.iload_n 3, 1) := by decide +kernel
theorem dX13_limit_117 : decode cX13_limit 117 = .ok (.invokevirtual 466, 3) := by decide +kernel
theorem dX13_limit_120 : decode cX13_limit 120 = .ok (.ireturn, 1) := by decide +kernel
theorem dX13_enter_0 : decode cX13_enter 0 = .ok (.iload_n 1, 1) := by decide +kernel
theorem dX13_enter_1 : decode cX13_enter 1 = .ok (.i2l, 1) := by decide +kernel
theorem dX13_enter_2 : decode cX13_enter 2 = .ok (.lconst 0, 1) := by decide +kernel
theorem dX13_enter_3 : decode cX13_enter 3 = .ok (.ldc2_w 474, 3) := by decide +kernel
theorem dX13_enter_6 : decode cX13_enter 6 = .ok (.invokestatic 203, 3) := by decide +kernel
theorem dX13_enter_9 : decode cX13_enter 9 = .ok (.ifCond .eq 10, 3) := by decide +kernel
theorem dX13_enter_12 : decode cX13_enter 12 = .ok (.iload_n 2, 1) := by decide +kernel
theorem dX13_enter_13 : decode cX13_enter 13 = .ok (.invokestatic 214, 3) := by decide +kernel
theorem dX13_enter_16 : decode cX13_enter 16 = .ok (.ifCond .ne 6, 3) := by decide +kernel
theorem dX13_enter_19 : decode cX13_enter 19 = .ok (.bipush (-2), 2) := by decide +kernel
theorem dX13_enter_21 : decode cX13_enter 21 = .ok (.ireturn, 1) := by decide +kernel
theorem dX13_enter_22 : decode cX13_enter 22 = .ok (.aload_n 0, 1) := by decide +kernel
theorem dX13_enter_23 : decode cX13_enter 23 = .ok (.getfield 37, 3) := by decide +kernel
theorem dX13_enter_26 : decode cX13_enter 26 = .ok (.iload_n 2, 1) := by decide +kernel
theorem dX13_enter_27 : decode cX13_enter 27 = .ok (.iaload, 1) := by decide +kernel
theorem dX13_enter_28 : decode cX13_enter 28 = .ok (.ifCond .eq 8, 3) := by decide +kernel
theorem dX13_enter_31 : decode cX13_enter 31 = .ok (.bipush (-3), 2) := by decide +kernel
theorem dX13_enter_33 : decode cX13_enter 33 = .ok (.goto 25, 3) := by decide +kernel
theorem dX13_enter_36 : decode cX13_enter 36 = .ok (.aload_n 0, 1) := by decide +kernel
theorem dX13_enter_37 : decode cX13_enter 37 = .ok (.getfield 176, 3) := by decide +kernel
theorem dX13_enter_40 : decode cX13_enter 40 = .ok (.bipush 96, 2) := by decide +kernel
theorem dX13_enter_42 : decode cX13_enter 42 = .ok (.if_icmp .ne 8, 3) := by decide +kernel
theorem dX13_enter_45 : decode cX13_enter 45 = .ok (.bipush (-4), 2) := by decide +kernel
theorem dX13_enter_47 : decode cX13_enter 47 = .ok (.goto 11, 3) := by decide +kernel
theorem dX13_enter_50 : decode cX13_enter 50 = .ok (.aload_n 0, 1) := by decide +kernel
theorem dX13_enter_51 : decode cX13_enter 51 = .ok (.iconst 2, 1) := by decide +kernel
theorem dX13_enter_52 : decode cX13_enter 52 = .ok (.iload_n 1, 1) := by decide +kernel
theorem dX13_enter_53 : decode cX13_enter 53 = .ok (.iload_n 2, 1) := by decide +kernel
theorem dX13_enter_54 : decode cX13_enter 54 = .ok (.iconst 0, 1) := by decide +kernel
theorem dX13_enter_55 : decode cX13_enter 55 = .ok (.invokevirtual 466, 3) := by decide +kernel
theorem dX13_enter_58 : decode cX13_enter 58 = .ok (.ireturn, 1) := by decide +kernel
theorem dX13_comes_0 : decode cX13_comes 0 = .ok (.aload_n 0, 1) := by decide +kernel
theorem dX13_comes_1 : decode cX13_comes 1 = .ok (.getfield 176, 3) := by decide +kernel
theorem dX13_comes_4 : decode cX13_comes 4 = .ok (.istore_n 3, 1) := by decide +kernel
theorem dX13_comes_5 : decode cX13_comes 5 = .ok (.aload_n 0, 1) := by decide +kernel
theorem dX13_comes_6 : decode cX13_comes 6 = .ok (.dup, 1) := by decide +kernel
theorem dX13_comes_7 : decode cX13_comes 7 = .ok (.getfield 176, 3) := by decide +kernel
theorem dX13_comes_10 : decode cX13_comes 10 = .ok (.iconst 1, 1) := by decide +kernel
theorem dX13_comes_11 : decode cX13_comes 11 = .ok (.iadd, 1) := by decide +kernel
theorem dX13_comes_12 : decode cX13_comes 12 = .ok (.putfield 176, 3) := by decide +kernel
theorem dX13_comes_15 : decode cX13_comes 15 = .ok (.aload_n 0, 1) := by decide +kernel
theorem dX13_comes_16 : decode cX13_comes 16 = .ok (.getfield 19, 3) := by decide +kernel
theorem dX13_comes_19 : decode cX13_comes 19 = .ok (.iload_n 3, 1) := by decide +kernel
theorem dX13_comes_20 : decode cX13_comes 20 = .ok (.iload_n 1, 1) := by decide +kernel
theorem dX13_comes_21 : decode cX13_comes 21 = .ok (.iastore, 1) := by decide +kernel
theorem dX13_comes_22 : decode cX13_comes 22 = .ok (.aload_n 0, 1) := by decide +kernel
theorem dX13_comes_23 : decode cX13_comes 23 = .ok (.getfield 16, 3) := by decide +kernel
theorem dX13_comes_26 : decode cX13_comes 26 = .ok (.iload_n 3, 1) := by decide +kernel
theorem dX13_comes_27 : decode cX13_comes 27 = .ok (.iload_n 2, 1) := by decide +kernel
theorem dX13_comes_28 : decode cX13_comes 28 = .ok (.iastore, 1) := by decide +kernel
theorem dX13_comes_29 : decode cX13_comes 29 = .ok (.aload_n 0, 1) := by decide +kernel
theorem dX13_comes_30 : decode cX13_comes 30 = .ok (.getfield 22, 3) := by decide +kernel
theorem dX13_comes_33 : decode cX13_comes 33 = .ok (.iload_n 3, 1) := by decide +kernel
theorem dX13_comes_34 : decode cX13_comes 34 = .ok (.iconst (-1), 1) := by decide +kernel
theorem dX13_comes_35 : decode cX13_comes 35 = .ok (.iastore, 1) := by decide +kernel
theorem dX13_comes_36 : decode cX13_comes 36 = .ok (.aload_n 0, 1) := by decide +kernel
theorem dX13_comes_37 : decode cX13_comes 37 = .ok (.getfield 25, 3) := by decide +kernel
theorem dX13_comes_40 : decode cX13_comes 40 = .ok (.iload_n 3, 1) := by decide +kernel
theorem dX13_comes_41 : decode cX13_comes 41 = .ok (.iconst 0, 1) := by decide +kernel
theorem dX13_comes_42 : decode cX13_comes 42 = .ok (.iastore, 1) := by decide +kernel
theorem dX13_comes_43 : decode cX13_comes 43 = .ok (.aload_n 0, 1) := by decide +kernel
theorem dX13_comes_44 : decode cX13_comes 44 = .ok (.getfield 28, 3) := by decide +kernel
theorem dX13_comes_47 : decode cX13_comes 47 = .ok (.iload_n 3, 1) := by decide +kernel
theorem dX13_comes_48 : decode cX13_comes 48 = .ok (.iconst 0, 1) := by decide +kernel
theorem dX13_comes_49 : decode cX13_comes 49 = .ok (.iastore, 1) := by decide +kernel
theorem dX13_comes_50 : decode cX13_comes 50 = .ok (.aload_n 0, 1) := by decide +kernel
theorem dX13_comes_51 : decode cX13_comes 51 = .ok (.getfield 31, 3) := by decide +kernel
theorem dX13_comes_54 : decode cX13_comes 54 = .ok (.iload_n 3, 1) := by decide +kernel
theorem dX13_comes_55 : decode cX13_comes 55 = .ok (.iconst (-1), 1) := by decide +kernel
theorem dX13_comes_56 : decode cX13_comes 56 = .ok (.iastore, 1) := by decide +kernel
theorem dX13_comes_57 : decode cX13_comes 57 = .ok (.aload_n 0, 1) := by decide +kernel
theorem dX13_comes_58 : decode cX13_comes 58 = .ok (.getfield 34, 3) := by decide +kernel
theorem dX13_comes_61 : decode cX13_comes 61 = .ok (.iload_n 3, 1) := by decide +kernel
theorem dX13_comes_62 : decode cX13_comes 62 = .ok (.iconst (-1), 1) := by decide +kernel
theorem dX13_comes_63 : decode cX13_comes 63 = .ok (.iastore, 1) := by decide +kernel
theorem dX13_comes_64 : decode cX13_comes 64 = .ok (.iload_n 3, 1) := by decide +kernel
theorem dX13_comes_65 : decode cX13_comes 65 = .ok (.ireturn, 1) := by decide +kernel
theorem dX13_weigh_0 : decode cX13_weigh 0 = .ok (.aload_n 0, 1) := by decide +kernel
theorem dX13_weigh_1 : decode cX13_weigh 1 = .ok (.iload_n 1, 1) := by decide +kernel
theorem dX13_weigh_2 : decode cX13_weigh 2 = .ok (.invokevirtual 476, 3) := by decide +kernel
theorem dX13_weigh_5 : decode cX13_weigh 5 = .ok (.ifCond .eq 15, 3) := by decide +kernel
theorem dX13_weigh_8 : decode cX13_weigh 8 = .ok (.iload_n 2, 1) := by decide +kernel
theorem dX13_weigh_9 : decode cX13_weigh 9 = .ok (.i2l, 1) := by decide +kernel
theorem dX13_weigh_10 : decode cX13_weigh 10 = .ok (.lconst 0, 1) := by decide +kernel
theorem dX13_weigh_11 : decode cX13_weigh 11 = .ok (.ldc2_w 472, 3) := by decide +kernel
theorem dX13_weigh_14 : decode cX13_weigh 14 = .ok (.invokestatic 203, 3) := by decide +kernel
theorem dX13_weigh_17 : decode cX13_weigh 17 = .ok (.ifCond .ne 8, 3) := by decide +kernel
theorem dX13_weigh_20 : decode cX13_weigh 20 = .ok (.bipush (-2), 2) := by decide +kernel
theorem dX13_weigh_22 : decode cX13_weigh 22 = .ok (.goto 30, 3) := by decide +kernel
theorem dX13_weigh_25 : decode cX13_weigh 25 = .ok (.aload_n 0, 1) := by decide +kernel
theorem dX13_weigh_26 : decode cX13_weigh 26 = .ok (.getfield 37, 3) := by decide +kernel
theorem dX13_weigh_29 : decode cX13_weigh 29 = .ok (.aload_n 0, 1) := by decide +kernel
theorem dX13_weigh_30 : decode cX13_weigh 30 = .ok (.getfield 16, 3) := by decide +kernel
theorem dX13_weigh_33 : decode cX13_weigh 33 = .ok (.iload_n 1, 1) := by decide +kernel
theorem dX13_weigh_34 : decode cX13_weigh 34 = .ok (.iaload, 1) := by decide +kernel
theorem dX13_weigh_35 : decode cX13_weigh 35 = .ok (.iaload, 1) := by decide +kernel
theorem dX13_weigh_36 : decode cX13_weigh 36 = .ok (.ifCond .eq 8, 3) := by decide +kernel
theorem dX13_weigh_39 : decode cX13_weigh 39 = .ok (.bipush (-3), 2) := by decide +kernel
theorem dX13_weigh_41 : decode cX13_weigh 41 = .ok (.goto 11, 3) := by decide +kernel
theorem dX13_weigh_44 : decode cX13_weigh 44 = .ok (.aload_n 0, 1) := by decide +kernel
theorem dX13_weigh_45 : decode cX13_weigh 45 = .ok (.iconst 3, 1) := by decide +kernel
theorem dX13_weigh_46 : decode cX13_weigh 46 = .ok (.iload_n 1, 1) := by decide +kernel
theorem dX13_weigh_47 : decode cX13_weigh 47 = .ok (.iload_n 2, 1) := by decide +kernel
theorem dX13_weigh_48 : decode cX13_weigh 48 = .ok (.iconst 0, 1) := by decide +kernel
theorem dX13_weigh_49 : decode cX13_weigh 49 = .ok (.invokevirtual 466, 3) := by decide +kernel
theorem dX13_weigh_52 : decode cX13_weigh 52 = .ok (.ireturn, 1) := by decide +kernel
theorem dX13_seed_0 : decode cX13_seed 0 = .ok (.aload_n 0, 1) := by decide +kernel
theorem dX13_seed_1 : decode cX13_seed 1 = .ok (.iload_n 1, 1) := by decide +kernel
theorem dX13_seed_2 : decode cX13_seed 2 = .ok (.invokevirtual 476, 3) := by decide +kernel
theorem dX13_seed_5 : decode cX13_seed 5 = .ok (.ifCond .eq 15, 3) := by decide +kernel
theorem dX13_seed_8 : decode cX13_seed 8 = .ok (.iload_n 2, 1) := by decide +kernel
theorem dX13_seed_9 : decode cX13_seed 9 = .ok (.i2l, 1) := by decide +kernel
theorem dX13_seed_10 : decode cX13_seed 10 = .ok (.lconst 0, 1) := by decide +kernel
theorem dX13_seed_11 : decode cX13_seed 11 = .ok (.ldc2_w 479, 3) := by decide +kernel
theorem dX13_seed_14 : decode cX13_seed 14 = .ok (.invokestatic 203, 3) := by decide +kernel
theorem dX13_seed_17 : decode cX13_seed 17 = .ok (.ifCond .ne 6, 3) := by decide +kernel
theorem dX13_seed_20 : decode cX13_seed 20 = .ok (.bipush (-2), 2) := by decide +kernel
theorem dX13_seed_22 : decode cX13_seed 22 = .ok (.ireturn, 1) := by decide +kernel
theorem dX13_seed_23 : decode cX13_seed 23 = .ok (.aload_n 0, 1) := by decide +kernel
theorem dX13_seed_24 : decode cX13_seed 24 = .ok (.getfield 37, 3) := by decide +kernel
theorem dX13_seed_27 : decode cX13_seed 27 = .ok (.aload_n 0, 1) := by decide +kernel
theorem dX13_seed_28 : decode cX13_seed 28 = .ok (.getfield 16, 3) := by decide +kernel
theorem dX13_seed_31 : decode cX13_seed 31 = .ok (.iload_n 1, 1) := by decide +kernel
theorem dX13_seed_32 : decode cX13_seed 32 = .ok (.iaload, 1) := by decide +kernel
theorem dX13_seed_33 : decode cX13_seed 33 = .ok (.iaload, 1) := by decide +kernel
theorem dX13_seed_34 : decode cX13_seed 34 = .ok (.ifCond .eq 7, 3) := by decide +kernel
theorem dX13_seed_37 : decode cX13_seed 37 = .ok (.iconst 1, 1) := by decide +kernel
theorem dX13_seed_38 : decode cX13_seed 38 = .ok (.goto 4, 3) := by decide +kernel
theorem dX13_seed_41 : decode cX13_seed 41 = .ok (.iconst 0, 1) := by decide +kernel
theorem dX13_seed_42 : decode cX13_seed 42 = .ok (.istore_n 3, 1) := by decide +kernel
theorem dX13_seed_43 : decode cX13_seed 43 = .ok (.iconst 0, 1) := by decide +kernel
theorem dX13_seed_44 : decode cX13_seed 44 = .ok (.istore 4, 2) := by decide +kernel
theorem dX13_seed_46 : decode cX13_seed 46 = .ok (.iload 4, 2) := by decide +kernel
theorem dX13_seed_48 : decode cX13_seed 48 = .ok (.aload_n 0, 1) := by decide +kernel
theorem dX13_seed_49 : decode cX13_seed 49 = .ok (.getfield 176, 3) := by decide +kernel
theorem dX13_seed_52 : decode cX13_seed 52 = .ok (.if_icmp .ge 56, 3) := by decide +kernel
theorem dX13_seed_55 : decode cX13_seed 55 = .ok (.iload_n 2, 1) := by decide +kernel
theorem dX13_seed_56 : decode cX13_seed 56 = .ok (.ifCond .le 52, 3) := by decide +kernel
theorem dX13_seed_59 : decode cX13_seed 59 = .ok (.iload_n 3, 1) := by decide +kernel
theorem dX13_seed_60 : decode cX13_seed 60 = .ok (.ifCond .ne 36, 3) := by decide +kernel
theorem dX13_seed_63 : decode cX13_seed 63 = .ok (.iload 4, 2) := by decide +kernel
theorem dX13_seed_65 : decode cX13_seed 65 = .ok (.iload_n 1, 1) := by decide +kernel
theorem dX13_seed_66 : decode cX13_seed 66 = .ok (.if_icmp .eq 34, 3) := by decide +kernel
theorem dX13_seed_69 : decode cX13_seed 69 = .ok (.aload_n 0, 1) := by decide +kernel
theorem dX13_seed_70 : decode cX13_seed 70 = .ok (.getfield 16, 3) := by decide +kernel
theorem dX13_seed_73 : decode cX13_seed 73 = .ok (.iload 4, 2) := by decide +kernel
theorem dX13_seed_75 : decode cX13_seed 75 = .ok (.iaload, 1) := by decide +kernel
theorem dX13_seed_76 : decode cX13_seed 76 = .ok (.aload_n 0, 1) := by decide +kernel
theorem dX13_seed_77 : decode cX13_seed 77 = .ok (.getfield 16, 3) := by decide +kernel
theorem dX13_seed_80 : decode cX13_seed 80 = .ok (.iload_n 1, 1) := by decide +kernel
theorem dX13_seed_81 : decode cX13_seed 81 = .ok (.iaload, 1) := by decide +kernel
theorem dX13_seed_82 : decode cX13_seed 82 = .ok (.if_icmp .ne 18, 3) := by decide +kernel
theorem dX13_seed_85 : decode cX13_seed 85 = .ok (.aload_n 0, 1) := by decide +kernel
theorem dX13_seed_86 : decode cX13_seed 86 = .ok (.getfield 28, 3) := by decide +kernel
theorem dX13_seed_89 : decode cX13_seed 89 = .ok (.iload 4, 2) := by decide +kernel
theorem dX13_seed_91 : decode cX13_seed 91 = .ok (.iaload, 1) := by decide +kernel
theorem dX13_seed_92 : decode cX13_seed 92 = .ok (.iload_n 2, 1) := by decide +kernel
theorem dX13_seed_93 : decode cX13_seed 93 = .ok (.if_icmp .ne 7, 3) := by decide +kernel
theorem dX13_seed_96 : decode cX13_seed 96 = .ok (.iconst 1, 1) := by decide +kernel
theorem dX13_seed_97 : decode cX13_seed 97 = .ok (.goto 4, 3) := by decide +kernel
theorem dX13_seed_100 : decode cX13_seed 100 = .ok (.iconst 0, 1) := by decide +kernel
theorem dX13_seed_101 : decode cX13_seed 101 = .ok (.istore_n 3, 1) := by decide +kernel
theorem dX13_seed_102 : decode cX13_seed 102 = .ok (.iinc 4 1, 3) := by decide +kernel
theorem dX13_seed_105 : decode cX13_seed 105 = .ok (.goto (-59), 3) := by decide +kernel
theorem dX13_seed_108 : decode cX13_seed 108 = .ok (.iload_n 3, 1) := by decide +kernel
theorem dX13_seed_109 : decode cX13_seed 109 = .ok (.ifCond .eq 8, 3) := by decide +kernel
theorem dX13_seed_112 : decode cX13_seed 112 = .ok (.bipush (-3), 2) := by decide +kernel
theorem dX13_seed_114 : decode cX13_seed 114 = .ok (.goto 11, 3) := by decide +kernel
theorem dX13_seed_117 : decode cX13_seed 117 = .ok (.aload_n 0, 1) := by decide +kernel
theorem dX13_seed_118 : decode cX13_seed 118 = .ok (.iconst 4, 1) := by decide +kernel
theorem dX13_seed_119 : decode cX13_seed 119 = .ok (.iload_n 1, 1) := by decide +kernel
theorem dX13_seed_120 : decode cX13_seed 120 = .ok (.iload_n 2, 1) := by decide +kernel
theorem dX13_seed_121 : decode cX13_seed 121 = .ok (.iconst 0, 1) := by decide +kernel
theorem dX13_seed_122 : decode cX13_seed 122 = .ok (.invokevirtual 466, 3) := by decide +kernel
theorem dX13_seed_125 : decode cX13_seed 125 = .ok (.ireturn, 1) := by decide +kernel
theorem dX13_weighed_0 : decode cX13_weighed 0 = .ok (.iconst 0, 1) := by decide +kernel
theorem dX13_weighed_1 : decode cX13_weighed 1 = .ok (.istore_n 2, 1) := by decide +kernel
theorem dX13_weighed_2 : decode cX13_weighed 2 = .ok (.iconst 0, 1) := by decide +kernel
theorem dX13_weighed_3 : decode cX13_weighed 3 = .ok (.istore_n 3, 1) := by decide +kernel
theorem dX13_weighed_4 : decode cX13_weighed 4 = .ok (.iload_n 3, 1) := by decide +kernel
theorem dX13_weighed_5 : decode cX13_weighed 5 = .ok (.aload_n 0, 1) := by decide +kernel
theorem dX13_weighed_6 : decode cX13_weighed 6 = .ok (.getfield 176, 3) := by decide +kernel
theorem dX13_weighed_9 : decode cX13_weighed 9 = .ok (.if_icmp .ge 37, 3) := by decide +kernel
theorem dX13_weighed_12 : decode cX13_weighed 12 = .ok (.iload_n 2, 1) := by decide +kernel
theorem dX13_weighed_13 : decode cX13_weighed 13 = .ok (.aload_n 0, 1) := by decide +kernel
theorem dX13_weighed_14 : decode cX13_weighed 14 = .ok (.getfield 16, 3) := by decide +kernel
theorem dX13_weighed_17 : decode cX13_weighed 17 = .ok (.iload_n 3, 1) := by decide +kernel
theorem dX13_weighed_18 : decode cX13_weighed 18 = .ok (.iaload, 1) := by decide +kernel
theorem dX13_weighed_19 : decode cX13_weighed 19 = .ok (.iload_n 1, 1) := by decide +kernel
theorem dX13_weighed_20 : decode cX13_weighed 20 = .ok (.if_icmp .ne 17, 3) := by decide +kernel
theorem dX13_weighed_23 : decode cX13_weighed 23 = .ok (.aload_n 0, 1) := by decide +kernel
theorem dX13_weighed_24 : decode cX13_weighed 24 = .ok (.getfield 25, 3) := by decide +kernel
theorem dX13_weighed_27 : decode cX13_weighed 27 = .ok (.iload_n 3, 1) := by decide +kernel
theorem dX13_weighed_28 : decode cX13_weighed 28 = .ok (.iaload, 1) := by decide +kernel
theorem dX13_weighed_29 : decode cX13_weighed 29 = .ok (.iconst 1, 1) := by decide +kernel
theorem dX13_weighed_30 : decode cX13_weighed 30 = .ok (.if_icmp .ne 7, 3) := by decide +kernel
theorem dX13_weighed_33 : decode cX13_weighed 33 = .ok (.iconst 1, 1) := by decide +kernel
theorem dX13_weighed_34 : decode cX13_weighed 34 = .ok (.goto 4, 3) := by decide +kernel
theorem dX13_weighed_37 : decode cX13_weighed 37 = .ok (.iconst 0, 1) := by decide +kernel
theorem dX13_weighed_38 : decode cX13_weighed 38 = .ok (.iadd, 1) := by decide +kernel
theorem dX13_weighed_39 : decode cX13_weighed 39 = .ok (.istore_n 2, 1) := by decide +kernel
theorem dX13_weighed_40 : decode cX13_weighed 40 = .ok (.iinc 3 1, 3) := by decide +kernel
theorem dX13_weighed_43 : decode cX13_weighed 43 = .ok (.goto (-39), 3) := by decide +kernel
theorem dX13_weighed_46 : decode cX13_weighed 46 = .ok (.iload_n 2, 1) := by decide +kernel
theorem dX13_weighed_47 : decode cX13_weighed 47 = .ok (.ireturn, 1) := by decide +kernel
theorem dX13_draw_0 : decode cX13_draw 0 = .ok (.iload_n 1, 1) := by decide +kernel
theorem dX13_draw_1 : decode cX13_draw 1 = .ok (.invokestatic 214, 3) := by decide +kernel
theorem dX13_draw_4 : decode cX13_draw 4 = .ok (.ifCond .ne 6, 3) := by decide +kernel
theorem dX13_draw_7 : decode cX13_draw 7 = .ok (.bipush (-2), 2) := by decide +kernel
theorem dX13_draw_9 : decode cX13_draw 9 = .ok (.ireturn, 1) := by decide +kernel
theorem dX13_draw_10 : decode cX13_draw 10 = .ok (.aload_n 0, 1) := by decide +kernel
theorem dX13_draw_11 : decode cX13_draw 11 = .ok (.getfield 37, 3) := by decide +kernel
theorem dX13_draw_14 : decode cX13_draw 14 = .ok (.iload_n 1, 1) := by decide +kernel
theorem dX13_draw_15 : decode cX13_draw 15 = .ok (.iaload, 1) := by decide +kernel
theorem dX13_draw_16 : decode cX13_draw 16 = .ok (.ifCond .eq 8, 3) := by decide +kernel
theorem dX13_draw_19 : decode cX13_draw 19 = .ok (.bipush (-3), 2) := by decide +kernel
theorem dX13_draw_21 : decode cX13_draw 21 = .ok (.goto 33, 3) := by decide +kernel
theorem dX13_draw_24 : decode cX13_draw 24 = .ok (.aload_n 0, 1) := by decide +kernel
theorem dX13_draw_25 : decode cX13_draw 25 = .ok (.iload_n 1, 1) := by decide +kernel
theorem dX13_draw_26 : decode cX13_draw 26 = .ok (.invokevirtual 481, 3) := by decide +kernel
theorem dX13_draw_29 : decode cX13_draw 29 = .ok (.i2l, 1) := by decide +kernel
theorem dX13_draw_30 : decode cX13_draw 30 = .ok (.ldc2_w 484, 3) := by decide +kernel
theorem dX13_draw_33 : decode cX13_draw 33 = .ok (.ldc2_w 486, 3) := by decide +kernel
theorem dX13_draw_36 : decode cX13_draw 36 = .ok (.invokestatic 203, 3) := by decide +kernel
theorem dX13_draw_39 : decode cX13_draw 39 = .ok (.ifCond .ne 7, 3) := by decide +kernel
theorem dX13_draw_42 : decode cX13_draw 42 = .ok (.iconst (-1), 1) := by decide +kernel
theorem dX13_draw_43 : decode cX13_draw 43 = .ok (.goto 11, 3) := by decide +kernel
theorem dX13_draw_46 : decode cX13_draw 46 = .ok (.aload_n 0, 1) := by decide +kernel
theorem dX13_draw_47 : decode cX13_draw 47 = .ok (.iconst 5, 1) := by decide +kernel
theorem dX13_draw_48 : decode cX13_draw 48 = .ok (.iload_n 1, 1) := by decide +kernel
theorem dX13_draw_49 : decode cX13_draw 49 = .ok (.iconst 0, 1) := by decide +kernel
theorem dX13_draw_50 : decode cX13_draw 50 = .ok (.iconst 0, 1) := by decide +kernel
theorem dX13_draw_51 : decode cX13_draw 51 = .ok (.invokevirtual 466, 3) := by decide +kernel
theorem dX13_draw_54 : decode cX13_draw 54 = .ok (.ireturn, 1) := by decide +kernel
theorem dX13_fighter_0 : decode cX13_fighter 0 = .ok (.aload_n 0, 1) := by decide +kernel
theorem dX13_fighter_1 : decode cX13_fighter 1 = .ok (.iload_n 1, 1) := by decide +kernel
theorem dX13_fighter_2 : decode cX13_fighter 2 = .ok (.invokevirtual 476, 3) := by decide +kernel
theorem dX13_fighter_5 : decode cX13_fighter 5 = .ok (.ifCond .ne 5, 3) := by decide +kernel
theorem dX13_fighter_8 : decode cX13_fighter 8 = .ok (.iconst (-1), 1) := by decide +kernel
theorem dX13_fighter_9 : decode cX13_fighter 9 = .ok (.ireturn, 1) := by decide +kernel
theorem dX13_fighter_10 : decode cX13_fighter 10 = .ok (.iload_n 2, 1) := by decide +kernel
theorem dX13_fighter_11 : decode cX13_fighter 11 = .ok (.tableswitch 90 0 6 #[41, 48, 55, 62, 69, 76, 83], 41) := by decide +kernel
theorem dX13_fighter_52 : decode cX13_fighter 52 = .ok (.aload_n 0, 1) := by decide +kernel
theorem dX13_fighter_53 : decode cX13_fighter 53 = .ok (.getfield 16, 3) := by decide +kernel
theorem dX13_fighter_56 : decode cX13_fighter 56 = .ok (.iload_n 1, 1) := by decide +kernel
theorem dX13_fighter_57 : decode cX13_fighter 57 = .ok (.iaload, 1) := by decide +kernel
theorem dX13_fighter_58 : decode cX13_fighter 58 = .ok (.ireturn, 1) := by decide +kernel
theorem dX13_fighter_59 : decode cX13_fighter 59 = .ok (.aload_n 0, 1) := by decide +kernel
theorem dX13_fighter_60 : decode cX13_fighter 60 = .ok (.getfield 19, 3) := by decide +kernel
theorem dX13_fighter_63 : decode cX13_fighter 63 = .ok (.iload_n 1, 1) := by decide +kernel
theorem dX13_fighter_64 : decode cX13_fighter 64 = .ok (.iaload, 1) := by decide +kernel
theorem dX13_fighter_65 : decode cX13_fighter 65 = .ok (.ireturn, 1) := by decide +kernel
theorem dX13_fighter_66 : decode cX13_fighter 66 = .ok (.aload_n 0, 1) := by decide +kernel
theorem dX13_fighter_67 : decode cX13_fighter 67 = .ok (.getfield 22, 3) := by decide +kernel
theorem dX13_fighter_70 : decode cX13_fighter 70 = .ok (.iload_n 1, 1) := by decide +kernel
theorem dX13_fighter_71 : decode cX13_fighter 71 = .ok (.iaload, 1) := by decide +kernel
theorem dX13_fighter_72 : decode cX13_fighter 72 = .ok (.ireturn, 1) := by decide +kernel
theorem dX13_fighter_73 : decode cX13_fighter 73 = .ok (.aload_n 0, 1) := by decide +kernel
theorem dX13_fighter_74 : decode cX13_fighter 74 = .ok (.getfield 25, 3) := by decide +kernel
theorem dX13_fighter_77 : decode cX13_fighter 77 = .ok (.iload_n 1, 1) := by decide +kernel
theorem dX13_fighter_78 : decode cX13_fighter 78 = .ok (.iaload, 1) := by decide +kernel
theorem dX13_fighter_79 : decode cX13_fighter 79 = .ok (.ireturn, 1) := by decide +kernel
theorem dX13_fighter_80 : decode cX13_fighter 80 = .ok (.aload_n 0, 1) := by decide +kernel
theorem dX13_fighter_81 : decode cX13_fighter 81 = .ok (.getfield 28, 3) := by decide +kernel
theorem dX13_fighter_84 : decode cX13_fighter 84 = .ok (.iload_n 1, 1) := by decide +kernel
theorem dX13_fighter_85 : decode cX13_fighter 85 = .ok (.iaload, 1) := by decide +kernel
theorem dX13_fighter_86 : decode cX13_fighter 86 = .ok (.ireturn, 1) := by decide +kernel
theorem dX13_fighter_87 : decode cX13_fighter 87 = .ok (.aload_n 0, 1) := by decide +kernel
theorem dX13_fighter_88 : decode cX13_fighter 88 = .ok (.getfield 31, 3) := by decide +kernel
theorem dX13_fighter_91 : decode cX13_fighter 91 = .ok (.iload_n 1, 1) := by decide +kernel
theorem dX13_fighter_92 : decode cX13_fighter 92 = .ok (.iaload, 1) := by decide +kernel
theorem dX13_fighter_93 : decode cX13_fighter 93 = .ok (.ireturn, 1) := by decide +kernel
theorem dX13_fighter_94 : decode cX13_fighter 94 = .ok (.aload_n 0, 1) := by decide +kernel
theorem dX13_fighter_95 : decode cX13_fighter 95 = .ok (.getfield 34, 3) := by decide +kernel
theorem dX13_fighter_98 : decode cX13_fighter 98 = .ok (.iload_n 1, 1) := by decide +kernel
theorem dX13_fighter_99 : decode cX13_fighter 99 = .ok (.iaload, 1) := by decide +kernel
theorem dX13_fighter_100 : decode cX13_fighter 100 = .ok (.ireturn, 1) := by decide +kernel
theorem dX13_fighter_101 : decode cX13_fighter 101 = .ok (.iconst (-1), 1) := by decide +kernel
theorem dX13_fighter_102 : decode cX13_fighter 102 = .ok (.ireturn, 1) := by decide +kernel
theorem dX13_about_0 : decode cX13_about 0 = .ok (.iload_n 1, 1) := by decide +kernel
theorem dX13_about_1 : decode cX13_about 1 = .ok (.invokestatic 214, 3) := by decide +kernel
theorem dX13_about_4 : decode cX13_about 4 = .ok (.ifCond .ne 5, 3) := by decide +kernel
theorem dX13_about_7 : decode cX13_about 7 = .ok (.iconst (-1), 1) := by decide +kernel
theorem dX13_about_8 : decode cX13_about 8 = .ok (.ireturn, 1) := by decide +kernel
theorem dX13_about_9 : decode cX13_about 9 = .ok (.iload_n 2, 1) := by decide +kernel
theorem dX13_about_10 : decode cX13_about 10 = .ok (.i2l, 1) := by decide +kernel
theorem dX13_about_11 : decode cX13_about 11 = .ok (.ldc2_w 501, 3) := by decide +kernel
theorem dX13_about_14 : decode cX13_about 14 = .ok (.ldc2_w 503, 3) := by decide +kernel
theorem dX13_about_17 : decode cX13_about 17 = .ok (.aload_n 0, 1) := by decide +kernel
theorem dX13_about_18 : decode cX13_about 18 = .ok (.getfield 37, 3) := by decide +kernel
theorem dX13_about_21 : decode cX13_about 21 = .ok (.iload_n 1, 1) := by decide +kernel
theorem dX13_about_22 : decode cX13_about 22 = .ok (.iaload, 1) := by decide +kernel
theorem dX13_about_23 : decode cX13_about 23 = .ok (.ifCond .ne 7, 3) := by decide +kernel
theorem dX13_about_26 : decode cX13_about 26 = .ok (.iconst 0, 1) := by decide +kernel
theorem dX13_about_27 : decode cX13_about 27 = .ok (.goto 9, 3) := by decide +kernel
theorem dX13_about_30 : decode cX13_about 30 = .ok (.aload_n 0, 1) := by decide +kernel
theorem dX13_about_31 : decode cX13_about 31 = .ok (.getfield 40, 3) := by decide +kernel
theorem dX13_about_34 : decode cX13_about 34 = .ok (.iload_n 1, 1) := by decide +kernel
theorem dX13_about_35 : decode cX13_about 35 = .ok (.iaload, 1) := by decide +kernel
theorem dX13_about_36 : decode cX13_about 36 = .ok (.i2l, 1) := by decide +kernel
theorem dX13_about_37 : decode cX13_about 37 = .ok (.ladd, 1) := by decide +kernel
theorem dX13_about_38 : decode cX13_about 38 = .ok (.invokestatic 203, 3) := by decide +kernel
theorem dX13_about_41 : decode cX13_about 41 = .ok (.ifCond .eq 18, 3) := by decide +kernel
theorem dX13_about_44 : decode cX13_about 44 = .ok (.aload_n 0, 1) := by decide +kernel
theorem dX13_about_45 : decode cX13_about 45 = .ok (.getfield 43, 3) := by decide +kernel
theorem dX13_about_48 : decode cX13_about 48 = .ok (.bipush 32, 2) := by decide +kernel
theorem dX13_about_50 : decode cX13_about 50 = .ok (.iload_n 1, 1) := by decide +kernel
theorem dX13_about_51 : decode cX13_about 51 = .ok (.imul, 1) := by decide +kernel
theorem dX13_about_52 : decode cX13_about 52 = .ok (.iload_n 2, 1) := by decide +kernel
theorem dX13_about_53 : decode cX13_about 53 = .ok (.iadd, 1) := by decide +kernel
theorem dX13_about_54 : decode cX13_about 54 = .ok (.bipush 100, 2) := by decide +kernel
theorem dX13_about_56 : decode cX13_about 56 = .ok (.isub, 1) := by decide +kernel
theorem dX13_about_57 : decode cX13_about 57 = .ok (.iaload, 1) := by decide +kernel
theorem dX13_about_58 : decode cX13_about 58 = .ok (.ireturn, 1) := by decide +kernel
theorem dX13_about_59 : decode cX13_about 59 = .ok (.iconst 0, 1) := by decide +kernel
theorem dX13_about_60 : decode cX13_about 60 = .ok (.istore_n 3, 1) := by decide +kernel
theorem dX13_about_61 : decode cX13_about 61 = .ok (.iload_n 2, 1) := by decide +kernel
theorem dX13_about_62 : decode cX13_about 62 = .ok (.tableswitch 204 0 6 #[42, 81, 87, 94, 114, 120, 165], 42) := by decide +kernel
theorem dX13_about_104 : decode cX13_about 104 = .ok (.iconst 0, 1) := by decide +kernel
theorem dX13_about_105 : decode cX13_about 105 = .ok (.istore 4, 2) := by decide +kernel
theorem dX13_about_107 : decode cX13_about 107 = .ok (.iload 4, 2) := by decide +kernel
theorem dX13_about_109 : decode cX13_about 109 = .ok (.aload_n 0, 1) := by decide +kernel
theorem dX13_about_110 : decode cX13_about 110 = .ok (.getfield 176, 3) := by decide +kernel
theorem dX13_about_113 : decode cX13_about 113 = .ok (.if_icmp .ge 28, 3) := by decide +kernel
theorem dX13_about_116 : decode cX13_about 116 = .ok (.iload_n 3, 1) := by decide +kernel
theorem dX13_about_117 : decode cX13_about 117 = .ok (.aload_n 0, 1) := by decide +kernel
theorem dX13_about_118 : decode cX13_about 118 = .ok (.getfield 16, 3) := by decide +kernel
theorem dX13_about_121 : decode cX13_about 121 = .ok (.iload 4, 2) := by decide +kernel
theorem dX13_about_123 : decode cX13_about 123 = .ok (.iaload, 1) := by decide +kernel
theorem dX13_about_124 : decode cX13_about 124 = .ok (.iload_n 1, 1) := by decide +kernel
theorem dX13_about_125 : decode cX13_about 125 = .ok (.if_icmp .ne 7, 3) := by decide +kernel
theorem dX13_about_128 : decode cX13_about 128 = .ok (.iconst 1, 1) := by decide +kernel
theorem dX13_about_129 : decode cX13_about 129 = .ok (.goto 4, 3) := by decide +kernel
theorem dX13_about_132 : decode cX13_about 132 = .ok (.iconst 0, 1) := by decide +kernel
theorem dX13_about_133 : decode cX13_about 133 = .ok (.iadd, 1) := by decide +kernel
theorem dX13_about_134 : decode cX13_about 134 = .ok (.istore_n 3, 1) := by decide +kernel
theorem dX13_about_135 : decode cX13_about 135 = .ok (.iinc 4 1, 3) := by decide +kernel
theorem dX13_about_138 : decode cX13_about 138 = .ok (.goto (-31), 3) := by decide +kernel
theorem dX13_about_141 : decode cX13_about 141 = .ok (.iload_n 3, 1) := by decide +kernel
theorem dX13_about_142 : decode cX13_about 142 = .ok (.ireturn, 1) := by decide +kernel
theorem dX13_about_143 : decode cX13_about 143 = .ok (.aload_n 0, 1) := by decide +kernel
theorem dX13_about_144 : decode cX13_about 144 = .ok (.iload_n 1, 1) := by decide +kernel
theorem dX13_about_145 : decode cX13_about 145 = .ok (.invokevirtual 481, 3) := by decide +kernel
theorem dX13_about_148 : decode cX13_about 148 = .ok (.ireturn, 1) := by decide +kernel
theorem dX13_about_149 : decode cX13_about 149 = .ok (.aload_n 0, 1) := by decide +kernel
theorem dX13_about_150 : decode cX13_about 150 = .ok (.getfield 37, 3) := by decide +kernel
theorem dX13_about_153 : decode cX13_about 153 = .ok (.iload_n 1, 1) := by decide +kernel
theorem dX13_about_154 : decode cX13_about 154 = .ok (.iaload, 1) := by decide +kernel
theorem dX13_about_155 : decode cX13_about 155 = .ok (.ireturn, 1) := by decide +kernel
theorem dX13_about_156 : decode cX13_about 156 = .ok (.aload_n 0, 1) := by decide +kernel
theorem dX13_about_157 : decode cX13_about 157 = .ok (.getfield 37, 3) := by decide +kernel
theorem dX13_about_160 : decode cX13_about 160 = .ok (.iload_n 1, 1) := by decide +kernel
theorem dX13_about_161 : decode cX13_about 161 = .ok (.iaload, 1) := by decide +kernel
theorem dX13_about_162 : decode cX13_about 162 = .ok (.ifCond .ne 7, 3) := by decide +kernel
theorem dX13_about_165 : decode cX13_about 165 = .ok (.iconst (-1), 1) := by decide +kernel
theorem dX13_about_166 : decode cX13_about 166 = .ok (.goto 9, 3) := by decide +kernel
theorem dX13_about_169 : decode cX13_about 169 = .ok (.aload_n 0, 1) := by decide +kernel
theorem dX13_about_170 : decode cX13_about 170 = .ok (.getfield 40, 3) := by decide +kernel
theorem dX13_about_173 : decode cX13_about 173 = .ok (.iload_n 1, 1) := by decide +kernel
theorem dX13_about_174 : decode cX13_about 174 = .ok (.iaload, 1) := by decide +kernel
theorem dX13_about_175 : decode cX13_about 175 = .ok (.ireturn, 1) := by decide +kernel
theorem dX13_about_176 : decode cX13_about 176 = .ok (.aload_n 0, 1) := by decide +kernel
theorem dX13_about_177 : decode cX13_about 177 = .ok (.iload_n 1, 1) := by decide +kernel
theorem dX13_about_178 : decode cX13_about 178 = .ok (.invokevirtual 218, 3) := by decide +kernel
theorem dX13_about_181 : decode cX13_about 181 = .ok (.ireturn, 1) := by decide +kernel
theorem dX13_about_182 : decode cX13_about 182 = .ok (.iconst 0, 1) := by decide +kernel
theorem dX13_about_183 : decode cX13_about 183 = .ok (.istore 4, 2) := by decide +kernel
theorem dX13_about_185 : decode cX13_about 185 = .ok (.iload 4, 2) := by decide +kernel
theorem dX13_about_187 : decode cX13_about 187 = .ok (.aload_n 0, 1) := by decide +kernel
theorem dX13_about_188 : decode cX13_about 188 = .ok (.iload_n 1, 1) := by decide +kernel
theorem dX13_about_189 : decode cX13_about 189 = .ok (.invokevirtual 218, 3) := by decide +kernel
theorem dX13_about_192 : decode cX13_about 192 = .ok (.if_icmp .ge 33, 3) := by decide +kernel
theorem dX13_about_195 : decode cX13_about 195 = .ok (.iload_n 3, 1) := by decide +kernel
theorem dX13_about_196 : decode cX13_about 196 = .ok (.aload_n 0, 1) := by decide +kernel
theorem dX13_about_197 : decode cX13_about 197 = .ok (.getfield 46, 3) := by decide +kernel
theorem dX13_about_200 : decode cX13_about 200 = .ok (.bipush 40, 2) := by decide +kernel
theorem dX13_about_202 : decode cX13_about 202 = .ok (.iload_n 1, 1) := by decide +kernel
theorem dX13_about_203 : decode cX13_about 203 = .ok (.imul, 1) := by decide +kernel
theorem dX13_about_204 : decode cX13_about 204 = .ok (.iload 4, 2) := by decide +kernel
theorem dX13_about_206 : decode cX13_about 206 = .ok (.iadd, 1) := by decide +kernel
theorem dX13_about_207 : decode cX13_about 207 = .ok (.iaload, 1) := by decide +kernel
theorem dX13_about_208 : decode cX13_about 208 = .ok (.iconst 2, 1) := by decide +kernel
theorem dX13_about_209 : decode cX13_about 209 = .ok (.if_icmp .ne 7, 3) := by decide +kernel
theorem dX13_about_212 : decode cX13_about 212 = .ok (.iconst 1, 1) := by decide +kernel
theorem dX13_about_213 : decode cX13_about 213 = .ok (.goto 4, 3) := by decide +kernel
theorem dX13_about_216 : decode cX13_about 216 = .ok (.iconst 0, 1) := by decide +kernel
theorem dX13_about_217 : decode cX13_about 217 = .ok (.iadd, 1) := by decide +kernel
theorem dX13_about_218 : decode cX13_about 218 = .ok (.istore_n 3, 1) := by decide +kernel
theorem dX13_about_219 : decode cX13_about 219 = .ok (.iinc 4 1, 3) := by decide +kernel
theorem dX13_about_222 : decode cX13_about 222 = .ok (.goto (-37), 3) := by decide +kernel
theorem dX13_about_225 : decode cX13_about 225 = .ok (.iload_n 3, 1) := by decide +kernel
theorem dX13_about_226 : decode cX13_about 226 = .ok (.ireturn, 1) := by decide +kernel
theorem dX13_about_227 : decode cX13_about 227 = .ok (.iconst 0, 1) := by decide +kernel
theorem dX13_about_228 : decode cX13_about 228 = .ok (.istore 4, 2) := by decide +kernel
theorem dX13_about_230 : decode cX13_about 230 = .ok (.iload 4, 2) := by decide +kernel
theorem dX13_about_232 : decode cX13_about 232 = .ok (.aload_n 0, 1) := by decide +kernel
theorem dX13_about_233 : decode cX13_about 233 = .ok (.iload_n 1, 1) := by decide +kernel
theorem dX13_about_234 : decode cX13_about 234 = .ok (.invokevirtual 218, 3) := by decide +kernel
theorem dX13_about_237 : decode cX13_about 237 = .ok (.if_icmp .ge 27, 3) := by decide +kernel
theorem dX13_about_240 : decode cX13_about 240 = .ok (.iload_n 3, 1) := by decide +kernel
theorem dX13_about_241 : decode cX13_about 241 = .ok (.aload_n 0, 1) := by decide +kernel
theorem dX13_about_242 : decode cX13_about 242 = .ok (.iload_n 1, 1) := by decide +kernel
theorem dX13_about_243 : decode cX13_about 243 = .ok (.iload 4, 2) := by decide +kernel
theorem dX13_about_245 : decode cX13_about 245 = .ok (.invokevirtual 505, 3) := by decide +kernel
theorem dX13_about_248 : decode cX13_about 248 = .ok (.ifCond .eq 7, 3) := by decide +kernel
theorem dX13_about_251 : decode cX13_about 251 = .ok (.iconst 1, 1) := by decide +kernel
theorem dX13_about_252 : decode cX13_about 252 = .ok (.goto 4, 3) := by decide +kernel
theorem dX13_about_255 : decode cX13_about 255 = .ok (.iconst 0, 1) := by decide +kernel
theorem dX13_about_256 : decode cX13_about 256 = .ok (.iadd, 1) := by decide +kernel
theorem dX13_about_257 : decode cX13_about 257 = .ok (.istore_n 3, 1) := by decide +kernel
theorem dX13_about_258 : decode cX13_about 258 = .ok (.iinc 4 1, 3) := by decide +kernel
theorem dX13_about_261 : decode cX13_about 261 = .ok (.goto (-31), 3) := by decide +kernel
theorem dX13_about_264 : decode cX13_about 264 = .ok (.iload_n 3, 1) := by decide +kernel
theorem dX13_about_265 : decode cX13_about 265 = .ok (.ireturn, 1) := by decide +kernel
theorem dX13_about_266 : decode cX13_about 266 = .ok (.iconst (-1), 1) := by decide +kernel
theorem dX13_about_267 : decode cX13_about 267 = .ok (.ireturn, 1) := by decide +kernel
theorem dX13_fight_0 : decode cX13_fight 0 = .ok (.aload_n 0, 1) := by decide +kernel
theorem dX13_fight_1 : decode cX13_fight 1 = .ok (.iload_n 1, 1) := by decide +kernel
theorem dX13_fight_2 : decode cX13_fight 2 = .ok (.iload_n 2, 1) := by decide +kernel
theorem dX13_fight_3 : decode cX13_fight 3 = .ok (.invokevirtual 508, 3) := by decide +kernel
theorem dX13_fight_6 : decode cX13_fight 6 = .ok (.ifCond .ne 5, 3) := by decide +kernel
theorem dX13_fight_9 : decode cX13_fight 9 = .ok (.iconst (-1), 1) := by decide +kernel
theorem dX13_fight_10 : decode cX13_fight 10 = .ok (.ireturn, 1) := by decide +kernel
theorem dX13_fight_11 : decode cX13_fight 11 = .ok (.bipush 40, 2) := by decide +kernel
theorem dX13_fight_13 : decode cX13_fight 13 = .ok (.iload_n 1, 1) := by decide +kernel
theorem dX13_fight_14 : decode cX13_fight 14 = .ok (.imul, 1) := by decide +kernel
theorem dX13_fight_15 : decode cX13_fight 15 = .ok (.iload_n 2, 1) := by decide +kernel
theorem dX13_fight_16 : decode cX13_fight 16 = .ok (.iadd, 1) := by decide +kernel
theorem dX13_fight_17 : decode cX13_fight 17 = .ok (.istore 4, 2) := by decide +kernel
theorem dX13_fight_19 : decode cX13_fight 19 = .ok (.aload_n 0, 1) := by decide +kernel
theorem dX13_fight_20 : decode cX13_fight 20 = .ok (.getfield 46, 3) := by decide +kernel
theorem dX13_fight_23 : decode cX13_fight 23 = .ok (.iload 4, 2) := by decide +kernel
theorem dX13_fight_25 : decode cX13_fight 25 = .ok (.iaload, 1) := by decide +kernel
theorem dX13_fight_26 : decode cX13_fight 26 = .ok (.iconst 2, 1) := by decide +kernel
theorem dX13_fight_27 : decode cX13_fight 27 = .ok (.if_icmp .ne 7, 3) := by decide +kernel
theorem dX13_fight_30 : decode cX13_fight 30 = .ok (.iconst 1, 1) := by decide +kernel
theorem dX13_fight_31 : decode cX13_fight 31 = .ok (.goto 4, 3) := by decide +kernel
theorem dX13_fight_34 : decode cX13_fight 34 = .ok (.iconst 0, 1) := by decide +kernel
theorem dX13_fight_35 : decode cX13_fight 35 = .ok (.istore 5, 2) := by decide +kernel
theorem dX13_fight_37 : decode cX13_fight 37 = .ok (.iload_n 3, 1) := by decide +kernel
theorem dX13_fight_38 : decode cX13_fight 38 = .ok (.tableswitch 187 0 7 #[46, 58, 70, 77, 129, 146, 163, 170], 46) := by decide +kernel
theorem dX13_fight_84 : decode cX13_fight 84 = .ok (.iconst (-1), 1) := by decide +kernel
theorem dX13_fight_85 : decode cX13_fight 85 = .ok (.aload_n 0, 1) := by decide +kernel
theorem dX13_fight_86 : decode cX13_fight 86 = .ok (.iload_n 1, 1) := by decide +kernel
theorem dX13_fight_87 : decode cX13_fight 87 = .ok (.iload_n 2, 1) := by decide +kernel
theorem dX13_fight_88 : decode cX13_fight 88 = .ok (.iconst 0, 1) := by decide +kernel
theorem dX13_fight_89 : decode cX13_fight 89 = .ok (.invokevirtual 252, 3) := by decide +kernel
theorem dX13_fight_92 : decode cX13_fight 92 = .ok (.invokestatic 511, 3) := by decide +kernel
theorem dX13_fight_95 : decode cX13_fight 95 = .ok (.ireturn, 1) := by decide +kernel
theorem dX13_fight_96 : decode cX13_fight 96 = .ok (.iconst (-1), 1) := by decide +kernel
theorem dX13_fight_97 : decode cX13_fight 97 = .ok (.aload_n 0, 1) := by decide +kernel
theorem dX13_fight_98 : decode cX13_fight 98 = .ok (.iload_n 1, 1) := by decide +kernel
theorem dX13_fight_99 : decode cX13_fight 99 = .ok (.iload_n 2, 1) := by decide +kernel
theorem dX13_fight_100 : decode cX13_fight 100 = .ok (.iconst 1, 1) := by decide +kernel
theorem dX13_fight_101 : decode cX13_fight 101 = .ok (.invokevirtual 252, 3) := by decide +kernel
theorem dX13_fight_104 : decode cX13_fight 104 = .ok (.invokestatic 511, 3) := by decide +kernel
theorem dX13_fight_107 : decode cX13_fight 107 = .ok (.ireturn, 1) := by decide +kernel
theorem dX13_fight_108 : decode cX13_fight 108 = .ok (.aload_n 0, 1) := by decide +kernel
theorem dX13_fight_109 : decode cX13_fight 109 = .ok (.iload_n 1, 1) := by decide +kernel
theorem dX13_fight_110 : decode cX13_fight 110 = .ok (.iload_n 2, 1) := by decide +kernel
theorem dX13_fight_111 : decode cX13_fight 111 = .ok (.invokevirtual 246, 3) := by decide +kernel
theorem dX13_fight_114 : decode cX13_fight 114 = .ok (.ireturn, 1) := by decide +kernel
theorem dX13_fight_115 : decode cX13_fight 115 = .ok (.iload 5, 2) := by decide +kernel
theorem dX13_fight_117 : decode cX13_fight 117 = .ok (.ifCond .eq 7, 3) := by decide +kernel
theorem dX13_fight_120 : decode cX13_fight 120 = .ok (.iconst 3, 1) := by decide +kernel
theorem dX13_fight_121 : decode cX13_fight 121 = .ok (.goto 45, 3) := by decide +kernel
theorem dX13_fight_124 : decode cX13_fight 124 = .ok (.aload_n 0, 1) := by decide +kernel
theorem dX13_fight_125 : decode cX13_fight 125 = .ok (.getfield 46, 3) := by decide +kernel
theorem dX13_fight_128 : decode cX13_fight 128 = .ok (.iload 4, 2) := by decide +kernel
theorem dX13_fight_130 : decode cX13_fight 130 = .ok (.iaload, 1) := by decide +kernel
theorem dX13_fight_131 : decode cX13_fight 131 = .ok (.iconst 1, 1) := by decide +kernel
theorem dX13_fight_132 : decode cX13_fight 132 = .ok (.if_icmp .ne 7, 3) := by decide +kernel
theorem dX13_fight_135 : decode cX13_fight 135 = .ok (.iconst 2, 1) := by decide +kernel
theorem dX13_fight_136 : decode cX13_fight 136 = .ok (.goto 30, 3) := by decide +kernel
theorem dX13_fight_139 : decode cX13_fight 139 = .ok (.aload_n 0, 1) := by decide +kernel
theorem dX13_fight_140 : decode cX13_fight 140 = .ok (.iload_n 1, 1) := by decide +kernel
theorem dX13_fight_141 : decode cX13_fight 141 = .ok (.iload_n 2, 1) := by decide +kernel
theorem dX13_fight_142 : decode cX13_fight 142 = .ok (.invokevirtual 505, 3) := by decide +kernel
theorem dX13_fight_145 : decode cX13_fight 145 = .ok (.ifCond .eq 7, 3) := by decide +kernel
theorem dX13_fight_148 : decode cX13_fight 148 = .ok (.iconst 4, 1) := by decide +kernel
theorem dX13_fight_149 : decode cX13_fight 149 = .ok (.goto 17, 3) := by decide +kernel
theorem dX13_fight_152 : decode cX13_fight 152 = .ok (.aload_n 0, 1) := by decide +kernel
theorem dX13_fight_153 : decode cX13_fight 153 = .ok (.iload_n 1, 1) := by decide +kernel
theorem dX13_fight_154 : decode cX13_fight 154 = .ok (.iload_n 2, 1) := by decide +kernel
theorem dX13_fight_155 : decode cX13_fight 155 = .ok (.invokevirtual 514, 3) := by decide +kernel
theorem dX13_fight_158 : decode cX13_fight 158 = .ok (.ifCond .eq 7, 3) := by decide +kernel
theorem dX13_fight_161 : decode cX13_fight 161 = .ok (.iconst 1, 1) := by decide +kernel
theorem dX13_fight_162 : decode cX13_fight 162 = .ok (.goto 4, 3) := by decide +kernel
theorem dX13_fight_165 : decode cX13_fight 165 = .ok (.iconst 0, 1) := by decide +kernel
theorem dX13_fight_166 : decode cX13_fight 166 = .ok (.ireturn, 1) := by decide +kernel
theorem dX13_fight_167 : decode cX13_fight 167 = .ok (.iload 5, 2) := by decide +kernel
theorem dX13_fight_169 : decode cX13_fight 169 = .ok (.ifCond .eq 13, 3) := by decide +kernel
theorem dX13_fight_172 : decode cX13_fight 172 = .ok (.aload_n 0, 1) := by decide +kernel
theorem dX13_fight_173 : decode cX13_fight 173 = .ok (.getfield 58, 3) := by decide +kernel
theorem dX13_fight_176 : decode cX13_fight 176 = .ok (.iload 4, 2) := by decide +kernel
theorem dX13_fight_178 : decode cX13_fight 178 = .ok (.iaload, 1) := by decide +kernel
theorem dX13_fight_179 : decode cX13_fight 179 = .ok (.goto 4, 3) := by decide +kernel
theorem dX13_fight_182 : decode cX13_fight 182 = .ok (.iconst (-1), 1) := by decide +kernel
theorem dX13_fight_183 : decode cX13_fight 183 = .ok (.ireturn, 1) := by decide +kernel
theorem dX13_fight_184 : decode cX13_fight 184 = .ok (.iload 5, 2) := by decide +kernel
theorem dX13_fight_186 : decode cX13_fight 186 = .ok (.ifCond .eq 13, 3) := by decide +kernel
theorem dX13_fight_189 : decode cX13_fight 189 = .ok (.aload_n 0, 1) := by decide +kernel
theorem dX13_fight_190 : decode cX13_fight 190 = .ok (.getfield 61, 3) := by decide +kernel
theorem dX13_fight_193 : decode cX13_fight 193 = .ok (.iload 4, 2) := by decide +kernel
theorem dX13_fight_195 : decode cX13_fight 195 = .ok (.iaload, 1) := by decide +kernel
theorem dX13_fight_196 : decode cX13_fight 196 = .ok (.goto 4, 3) := by decide +kernel
theorem dX13_fight_199 : decode cX13_fight 199 = .ok (.iconst 0, 1) := by decide +kernel
theorem dX13_fight_200 : decode cX13_fight 200 = .ok (.ireturn, 1) := by decide +kernel
theorem dX13_fight_201 : decode cX13_fight 201 = .ok (.aload_n 0, 1) := by decide +kernel
theorem dX13_fight_202 : decode cX13_fight 202 = .ok (.iload_n 1, 1) := by decide +kernel
theorem dX13_fight_203 : decode cX13_fight 203 = .ok (.iload_n 2, 1) := by decide +kernel
theorem dX13_fight_204 : decode cX13_fight 204 = .ok (.invokevirtual 517, 3) := by decide +kernel
theorem dX13_fight_207 : decode cX13_fight 207 = .ok (.ireturn, 1) := by decide +kernel
theorem dX13_fight_208 : decode cX13_fight 208 = .ok (.iload 5, 2) := by decide +kernel
theorem dX13_fight_210 : decode cX13_fight 210 = .ok (.ifCond .eq 13, 3) := by decide +kernel
theorem dX13_fight_213 : decode cX13_fight 213 = .ok (.aload_n 0, 1) := by decide +kernel
theorem dX13_fight_214 : decode cX13_fight 214 = .ok (.getfield 64, 3) := by decide +kernel
theorem dX13_fight_217 : decode cX13_fight 217 = .ok (.iload 4, 2) := by decide +kernel
theorem dX13_fight_219 : decode cX13_fight 219 = .ok (.iaload, 1) := by decide +kernel
theorem dX13_fight_220 : decode cX13_fight 220 = .ok (.goto 4, 3) := by decide +kernel
theorem dX13_fight_223 : decode cX13_fight 223 = .ok (.iconst (-1), 1) := by decide +kernel
theorem dX13_fight_224 : decode cX13_fight 224 = .ok (.ireturn, 1) := by decide +kernel
theorem dX13_fight_225 : decode cX13_fight 225 = .ok (.iconst (-1), 1) := by decide +kernel
theorem dX13_fight_226 : decode cX13_fight 226 = .ok (.ireturn, 1) := by decide +kernel
theorem dX13_now_0 : decode cX13_now 0 = .ok (.iload_n 1, 1) := by decide +kernel
theorem dX13_now_1 : decode cX13_now 1 = .ok (.i2l, 1) := by decide +kernel
theorem dX13_now_2 : decode cX13_now 2 = .ok (.aload_n 0, 1) := by decide +kernel
theorem dX13_now_3 : decode cX13_now 3 = .ok (.getfield 179, 3) := by decide +kernel
theorem dX13_now_6 : decode cX13_now 6 = .ok (.i2l, 1) := by decide +kernel
theorem dX13_now_7 : decode cX13_now 7 = .ok (.ldc2_w 520, 3) := by decide +kernel
theorem dX13_now_10 : decode cX13_now 10 = .ok (.invokestatic 203, 3) := by decide +kernel
theorem dX13_now_13 : decode cX13_now 13 = .ok (.ifCond .eq 15, 3) := by decide +kernel
theorem dX13_now_16 : decode cX13_now 16 = .ok (.aload_n 0, 1) := by decide +kernel
theorem dX13_now_17 : decode cX13_now 17 = .ok (.bipush 6, 2) := by decide +kernel
theorem dX13_now_19 : decode cX13_now 19 = .ok (.iload_n 1, 1) := by decide +kernel
theorem dX13_now_20 : decode cX13_now 20 = .ok (.iconst 0, 1) := by decide +kernel
theorem dX13_now_21 : decode cX13_now 21 = .ok (.iconst 0, 1) := by decide +kernel
theorem dX13_now_22 : decode cX13_now 22 = .ok (.invokevirtual 466, 3) := by decide +kernel
theorem dX13_now_25 : decode cX13_now 25 = .ok (.goto 5, 3) := by decide +kernel
theorem dX13_now_28 : decode cX13_now 28 = .ok (.bipush (-2), 2) := by decide +kernel
theorem dX13_now_30 : decode cX13_now 30 = .ok (.ireturn, 1) := by decide +kernel
theorem dX13_rest_0 : decode cX13_rest 0 = .ok (.iload_n 1, 1) := by decide +kernel
theorem dX13_rest_1 : decode cX13_rest 1 = .ok (.i2l, 1) := by decide +kernel
theorem dX13_rest_2 : decode cX13_rest 2 = .ok (.lconst 0, 1) := by decide +kernel
theorem dX13_rest_3 : decode cX13_rest 3 = .ok (.ldc2_w 522, 3) := by decide +kernel
theorem dX13_rest_6 : decode cX13_rest 6 = .ok (.invokestatic 203, 3) := by decide +kernel
theorem dX13_rest_9 : decode cX13_rest 9 = .ok (.ifCond .eq 15, 3) := by decide +kernel
theorem dX13_rest_12 : decode cX13_rest 12 = .ok (.aload_n 0, 1) := by decide +kernel
theorem dX13_rest_13 : decode cX13_rest 13 = .ok (.bipush 7, 2) := by decide +kernel
theorem dX13_rest_15 : decode cX13_rest 15 = .ok (.iload_n 1, 1) := by decide +kernel
theorem dX13_rest_16 : decode cX13_rest 16 = .ok (.iconst 0, 1) := by decide +kernel
theorem dX13_rest_17 : decode cX13_rest 17 = .ok (.iconst 0, 1) := by decide +kernel
theorem dX13_rest_18 : decode cX13_rest 18 = .ok (.invokevirtual 466, 3) := by decide +kernel
theorem dX13_rest_21 : decode cX13_rest 21 = .ok (.goto 5, 3) := by decide +kernel
theorem dX13_rest_24 : decode cX13_rest 24 = .ok (.bipush (-2), 2) := by decide +kernel
theorem dX13_rest_26 : decode cX13_rest 26 = .ok (.ireturn, 1) := by decide +kernel
theorem dX13_isMat_0 : decode cX13_isMat 0 = .ok (.iload_n 0, 1) := by decide +kernel
theorem dX13_isMat_1 : decode cX13_isMat 1 = .ok (.i2l, 1) := by decide +kernel
theorem dX13_isMat_2 : decode cX13_isMat 2 = .ok (.lconst 0, 1) := by decide +kernel
theorem dX13_isMat_3 : decode cX13_isMat 3 = .ok (.ldc2_w 201, 3) := by decide +kernel
theorem dX13_isMat_6 : decode cX13_isMat 6 = .ok (.invokestatic 203, 3) := by decide +kernel
theorem dX13_isMat_9 : decode cX13_isMat 9 = .ok (.ireturn, 1) := by decide +kernel
theorem dX13_begin_0 : decode cX13_begin 0 = .ok (.aload_n 0, 1) := by decide +kernel
theorem dX13_begin_1 : decode cX13_begin 1 = .ok (.iload_n 1, 1) := by decide +kernel
theorem dX13_begin_2 : decode cX13_begin 2 = .ok (.iload_n 2, 1) := by decide +kernel
theorem dX13_begin_3 : decode cX13_begin 3 = .ok (.invokevirtual 508, 3) := by decide +kernel
theorem dX13_begin_6 : decode cX13_begin 6 = .ok (.ifCond .eq 10, 3) := by decide +kernel
theorem dX13_begin_9 : decode cX13_begin 9 = .ok (.iload_n 3, 1) := by decide +kernel
theorem dX13_begin_10 : decode cX13_begin 10 = .ok (.invokestatic 524, 3) := by decide +kernel
theorem dX13_begin_13 : decode cX13_begin 13 = .ok (.ifCond .ne 6, 3) := by decide +kernel
theorem dX13_begin_16 : decode cX13_begin 16 = .ok (.bipush (-2), 2) := by decide +kernel
theorem dX13_begin_18 : decode cX13_begin 18 = .ok (.ireturn, 1) := by decide +kernel
theorem dX13_begin_19 : decode cX13_begin 19 = .ok (.aload_n 0, 1) := by decide +kernel
theorem dX13_begin_20 : decode cX13_begin 20 = .ok (.getfield 189, 3) := by decide +kernel
theorem dX13_begin_23 : decode cX13_begin 23 = .ok (.ifCond .eq 22, 3) := by decide +kernel
theorem dX13_begin_26 : decode cX13_begin 26 = .ok (.aload_n 0, 1) := by decide +kernel
theorem dX13_begin_27 : decode cX13_begin 27 = .ok (.iload_n 1, 1) := by decide +kernel
theorem dX13_begin_28 : decode cX13_begin 28 = .ok (.iload_n 2, 1) := by decide +kernel
theorem dX13_begin_29 : decode cX13_begin 29 = .ok (.invokevirtual 514, 3) := by decide +kernel
theorem dX13_begin_32 : decode cX13_begin 32 = .ok (.ifCond .eq 13, 3) := by decide +kernel
theorem dX13_begin_35 : decode cX13_begin 35 = .ok (.aload_n 0, 1) := by decide +kernel
theorem dX13_begin_36 : decode cX13_begin 36 = .ok (.getfield 67, 3) := by decide +kernel
theorem dX13_begin_39 : decode cX13_begin 39 = .ok (.iload_n 3, 1) := by decide +kernel
theorem dX13_begin_40 : decode cX13_begin 40 = .ok (.iaload, 1) := by decide +kernel
theorem dX13_begin_41 : decode cX13_begin 41 = .ok (.iconst (-1), 1) := by decide +kernel
theorem dX13_begin_42 : decode cX13_begin 42 = .ok (.if_icmp .eq 6, 3) := by decide +kernel
theorem dX13_begin_45 : decode cX13_begin 45 = .ok (.bipush (-3), 2) := by decide +kernel
theorem dX13_begin_47 : decode cX13_begin 47 = .ok (.ireturn, 1) := by decide +kernel
theorem dX13_begin_48 : decode cX13_begin 48 = .ok (.aload_n 0, 1) := by decide +kernel
theorem dX13_begin_49 : decode cX13_begin 49 = .ok (.aload_n 0, 1) := by decide +kernel
theorem dX13_begin_50 : decode cX13_begin 50 = .ok (.iload_n 1, 1) := by decide +kernel
theorem dX13_begin_51 : decode cX13_begin 51 = .ok (.iload_n 2, 1) := by decide +kernel
theorem dX13_begin_52 : decode cX13_begin 52 = .ok (.iconst 0, 1) := by decide +kernel
theorem dX13_begin_53 : decode cX13_begin 53 = .ok (.invokevirtual 252, 3) := by decide +kernel
theorem dX13_begin_56 : decode cX13_begin 56 = .ok (.invokevirtual 527, 3) := by decide +kernel
theorem dX13_begin_59 : decode cX13_begin 59 = .ok (.ifCond .ne 17, 3) := by decide +kernel
theorem dX13_begin_62 : decode cX13_begin 62 = .ok (.aload_n 0, 1) := by decide +kernel
theorem dX13_begin_63 : decode cX13_begin 63 = .ok (.aload_n 0, 1) := by decide +kernel
theorem dX13_begin_64 : decode cX13_begin 64 = .ok (.iload_n 1, 1) := by decide +kernel
theorem dX13_begin_65 : decode cX13_begin 65 = .ok (.iload_n 2, 1) := by decide +kernel
theorem dX13_begin_66 : decode cX13_begin 66 = .ok (.iconst 1, 1) := by decide +kernel
theorem dX13_begin_67 : decode cX13_begin 67 = .ok (.invokevirtual 252, 3) := by decide +kernel
theorem dX13_begin_70 : decode cX13_begin 70 = .ok (.invokevirtual 527, 3) := by decide +kernel
theorem dX13_begin_73 : decode cX13_begin 73 = .ok (.ifCond .eq 8, 3) := by decide +kernel
theorem dX13_begin_76 : decode cX13_begin 76 = .ok (.bipush (-5), 2) := by decide +kernel
theorem dX13_begin_78 : decode cX13_begin 78 = .ok (.goto 12, 3) := by decide +kernel
theorem dX13_begin_81 : decode cX13_begin 81 = .ok (.aload_n 0, 1) := by decide +kernel
theorem dX13_begin_82 : decode cX13_begin 82 = .ok (.bipush 8, 2) := by decide +kernel
theorem dX13_begin_84 : decode cX13_begin 84 = .ok (.iload_n 1, 1) := by decide +kernel
theorem dX13_begin_85 : decode cX13_begin 85 = .ok (.iload_n 2, 1) := by decide +kernel
theorem dX13_begin_86 : decode cX13_begin 86 = .ok (.iload_n 3, 1) := by decide +kernel
theorem dX13_begin_87 : decode cX13_begin 87 = .ok (.invokevirtual 466, 3) := by decide +kernel
theorem dX13_begin_90 : decode cX13_begin 90 = .ok (.ireturn, 1) := by decide +kernel
theorem dX13_event_0 : decode cX13_event 0 = .ok (.iload_n 1, 1) := by decide +kernel
theorem dX13_event_1 : decode cX13_event 1 = .ok (.invokestatic 524, 3) := by decide +kernel
theorem dX13_event_4 : decode cX13_event 4 = .ok (.ifCond .eq 29, 3) := by decide +kernel
theorem dX13_event_7 : decode cX13_event 7 = .ok (.iload_n 2, 1) := by decide +kernel
theorem dX13_event_8 : decode cX13_event 8 = .ok (.i2l, 1) := by decide +kernel
theorem dX13_event_9 : decode cX13_event 9 = .ok (.lconst 0, 1) := by decide +kernel
theorem dX13_event_10 : decode cX13_event 10 = .ok (.lconst 1, 1) := by decide +kernel
theorem dX13_event_11 : decode cX13_event 11 = .ok (.invokestatic 203, 3) := by decide +kernel
theorem dX13_event_14 : decode cX13_event 14 = .ok (.ifCond .eq 19, 3) := by decide +kernel
theorem dX13_event_17 : decode cX13_event 17 = .ok (.iload_n 3, 1) := by decide +kernel
theorem dX13_event_18 : decode cX13_event 18 = .ok (.i2l, 1) := by decide +kernel
theorem dX13_event_19 : decode cX13_event 19 = .ok (.lconst 0, 1) := by decide +kernel
theorem dX13_event_20 : decode cX13_event 20 = .ok (.aload_n 0, 1) := by decide +kernel
theorem dX13_event_21 : decode cX13_event 21 = .ok (.getfield 186, 3) := by decide +kernel
theorem dX13_event_24 : decode cX13_event 24 = .ok (.i2l, 1) := by decide +kernel
theorem dX13_event_25 : decode cX13_event 25 = .ok (.lconst 1, 1) := by decide +kernel
theorem dX13_event_26 : decode cX13_event 26 = .ok (.lsub, 1) := by decide +kernel
theorem dX13_event_27 : decode cX13_event 27 = .ok (.invokestatic 203, 3) := by decide +kernel
theorem dX13_event_30 : decode cX13_event 30 = .ok (.ifCond .ne 6, 3) := by decide +kernel
theorem dX13_event_33 : decode cX13_event 33 = .ok (.bipush (-2), 2) := by decide +kernel
theorem dX13_event_35 : decode cX13_event 35 = .ok (.ireturn, 1) := by decide +kernel
theorem dX13_event_36 : decode cX13_event 36 = .ok (.aload_n 0, 1) := by decide +kernel
theorem dX13_event_37 : decode cX13_event 37 = .ok (.getfield 67, 3) := by decide +kernel
theorem dX13_event_40 : decode cX13_event 40 = .ok (.iload_n 1, 1) := by decide +kernel
theorem dX13_event_41 : decode cX13_event 41 = .ok (.iaload, 1) := by decide +kernel
theorem dX13_event_42 : decode cX13_event 42 = .ok (.iconst (-1), 1) := by decide +kernel
theorem dX13_event_43 : decode cX13_event 43 = .ok (.if_icmp .eq 12, 3) := by decide +kernel
theorem dX13_event_46 : decode cX13_event 46 = .ok (.aload_n 0, 1) := by decide +kernel
theorem dX13_event_47 : decode cX13_event 47 = .ok (.getfield 80, 3) := by decide +kernel
theorem dX13_event_50 : decode cX13_event 50 = .ok (.iload_n 1, 1) := by decide +kernel
theorem dX13_event_51 : decode cX13_event 51 = .ok (.baload, 1) := by decide +kernel
theorem dX13_event_52 : decode cX13_event 52 = .ok (.ifCond .eq 8, 3) := by decide +kernel
theorem dX13_event_55 : decode cX13_event 55 = .ok (.bipush (-3), 2) := by decide +kernel
theorem dX13_event_57 : decode cX13_event 57 = .ok (.goto 12, 3) := by decide +kernel
theorem dX13_event_60 : decode cX13_event 60 = .ok (.aload_n 0, 1) := by decide +kernel
theorem dX13_event_61 : decode cX13_event 61 = .ok (.bipush 9, 2) := by decide +kernel
theorem dX13_event_63 : decode cX13_event 63 = .ok (.iload_n 1, 1) := by decide +kernel
theorem dX13_event_64 : decode cX13_event 64 = .ok (.iload_n 2, 1) := by decide +kernel
theorem dX13_event_65 : decode cX13_event 65 = .ok (.iload_n 3, 1) := by decide +kernel
theorem dX13_event_66 : decode cX13_event 66 = .ok (.invokevirtual 466, 3) := by decide +kernel
theorem dX13_event_69 : decode cX13_event 69 = .ok (.ireturn, 1) := by decide +kernel
theorem dX13_tick_0 : decode cX13_tick 0 = .ok (.iload_n 1, 1) := by decide +kernel
theorem dX13_tick_1 : decode cX13_tick 1 = .ok (.invokestatic 524, 3) := by decide +kernel
theorem dX13_tick_4 : decode cX13_tick 4 = .ok (.ifCond .eq 15, 3) := by decide +kernel
theorem dX13_tick_7 : decode cX13_tick 7 = .ok (.iload_n 2, 1) := by decide +kernel
theorem dX13_tick_8 : decode cX13_tick 8 = .ok (.i2l, 1) := by decide +kernel
theorem dX13_tick_9 : decode cX13_tick 9 = .ok (.lconst 1, 1) := by decide +kernel
theorem dX13_tick_10 : decode cX13_tick 10 = .ok (.ldc2_w 537, 3) := by decide +kernel
theorem dX13_tick_13 : decode cX13_tick 13 = .ok (.invokestatic 203, 3) := by decide +kernel
theorem dX13_tick_16 : decode cX13_tick 16 = .ok (.ifCond .ne 6, 3) := by decide +kernel
theorem dX13_tick_19 : decode cX13_tick 19 = .ok (.bipush (-2), 2) := by decide +kernel
theorem dX13_tick_21 : decode cX13_tick 21 = .ok (.ireturn, 1) := by decide +kernel
theorem dX13_tick_22 : decode cX13_tick 22 = .ok (.aload_n 0, 1) := by decide +kernel
theorem dX13_tick_23 : decode cX13_tick 23 = .ok (.getfield 67, 3) := by decide +kernel
theorem dX13_tick_26 : decode cX13_tick 26 = .ok (.iload_n 1, 1) := by decide +kernel
theorem dX13_tick_27 : decode cX13_tick 27 = .ok (.iaload, 1) := by decide +kernel
theorem dX13_tick_28 : decode cX13_tick 28 = .ok (.iconst (-1), 1) := by decide +kernel
theorem dX13_tick_29 : decode cX13_tick 29 = .ok (.if_icmp .eq 12, 3) := by decide +kernel
theorem dX13_tick_32 : decode cX13_tick 32 = .ok (.aload_n 0, 1) := by decide +kernel
theorem dX13_tick_33 : decode cX13_tick 33 = .ok (.getfield 80, 3) := by decide +kernel
theorem dX13_tick_36 : decode cX13_tick 36 = .ok (.iload_n 1, 1) := by decide +kernel
theorem dX13_tick_37 : decode cX13_tick 37 = .ok (.baload, 1) := by decide +kernel
theorem dX13_tick_38 : decode cX13_tick 38 = .ok (.ifCond .eq 6, 3) := by decide +kernel
theorem dX13_tick_41 : decode cX13_tick 41 = .ok (.bipush (-3), 2) := by decide +kernel
theorem dX13_tick_43 : decode cX13_tick 43 = .ok (.ireturn, 1) := by decide +kernel
theorem dX13_tick_44 : decode cX13_tick 44 = .ok (.iload_n 2, 1) := by decide +kernel
theorem dX13_tick_45 : decode cX13_tick 45 = .ok (.aload_n 0, 1) := by decide +kernel
theorem dX13_tick_46 : decode cX13_tick 46 = .ok (.getfield 70, 3) := by decide +kernel
theorem dX13_tick_49 : decode cX13_tick 49 = .ok (.iload_n 1, 1) := by decide +kernel
theorem dX13_tick_50 : decode cX13_tick 50 = .ok (.iaload, 1) := by decide +kernel
theorem dX13_tick_51 : decode cX13_tick 51 = .ok (.if_icmp .le 8, 3) := by decide +kernel
theorem dX13_tick_54 : decode cX13_tick 54 = .ok (.bipush (-2), 2) := by decide +kernel
theorem dX13_tick_56 : decode cX13_tick 56 = .ok (.goto 12, 3) := by decide +kernel
theorem dX13_tick_59 : decode cX13_tick 59 = .ok (.aload_n 0, 1) := by decide +kernel
theorem dX13_tick_60 : decode cX13_tick 60 = .ok (.bipush 10, 2) := by decide +kernel
theorem dX13_tick_62 : decode cX13_tick 62 = .ok (.iload_n 1, 1) := by decide +kernel
theorem dX13_tick_63 : decode cX13_tick 63 = .ok (.iload_n 2, 1) := by decide +kernel
theorem dX13_tick_64 : decode cX13_tick 64 = .ok (.iconst 0, 1) := by decide +kernel
theorem dX13_tick_65 : decode cX13_tick 65 = .ok (.invokevirtual 466, 3) := by decide +kernel
theorem dX13_tick_68 : decode cX13_tick 68 = .ok (.ireturn, 1) := by decide +kernel
theorem dX13_decide_0 : decode cX13_decide 0 = .ok (.iload_n 1, 1) := by decide +kernel
theorem dX13_decide_1 : decode cX13_decide 1 = .ok (.invokestatic 524, 3) := by decide +kernel
theorem dX13_decide_4 : decode cX13_decide 4 = .ok (.ifCond .eq 13, 3) := by decide +kernel
theorem dX13_decide_7 : decode cX13_decide 7 = .ok (.iload_n 2, 1) := by decide +kernel
theorem dX13_decide_8 : decode cX13_decide 8 = .ok (.i2l, 1) := by decide +kernel
theorem dX13_decide_9 : decode cX13_decide 9 = .ok (.lconst 0, 1) := by decide +kernel
theorem dX13_decide_10 : decode cX13_decide 10 = .ok (.lconst 1, 1) := by decide +kernel
theorem dX13_decide_11 : decode cX13_decide 11 = .ok (.invokestatic 203, 3) := by decide +kernel
theorem dX13_decide_14 : decode cX13_decide 14 = .ok (.ifCond .ne 6, 3) := by decide +kernel
theorem dX13_decide_17 : decode cX13_decide 17 = .ok (.bipush (-2), 2) := by decide +kernel
theorem dX13_decide_19 : decode cX13_decide 19 = .ok (.ireturn, 1) := by decide +kernel
theorem dX13_decide_20 : decode cX13_decide 20 = .ok (.aload_n 0, 1) := by decide +kernel
theorem dX13_decide_21 : decode cX13_decide 21 = .ok (.getfield 67, 3) := by decide +kernel
theorem dX13_decide_24 : decode cX13_decide 24 = .ok (.iload_n 1, 1) := by decide +kernel
theorem dX13_decide_25 : decode cX13_decide 25 = .ok (.iaload, 1) := by decide +kernel
theorem dX13_decide_26 : decode cX13_decide 26 = .ok (.iconst (-1), 1) := by decide +kernel
theorem dX13_decide_27 : decode cX13_decide 27 = .ok (.if_icmp .eq 12, 3) := by decide +kernel
theorem dX13_decide_30 : decode cX13_decide 30 = .ok (.aload_n 0, 1) := by decide +kernel
theorem dX13_decide_31 : decode cX13_decide 31 = .ok (.getfield 80, 3) := by decide +kernel
theorem dX13_decide_34 : decode cX13_decide 34 = .ok (.iload_n 1, 1) := by decide +kernel
theorem dX13_decide_35 : decode cX13_decide 35 = .ok (.baload, 1) := by decide +kernel
theorem dX13_decide_36 : decode cX13_decide 36 = .ok (.ifCond .ne 8, 3) := by decide +kernel
theorem dX13_decide_39 : decode cX13_decide 39 = .ok (.bipush (-3), 2) := by decide +kernel
theorem dX13_decide_41 : decode cX13_decide 41 = .ok (.goto 12, 3) := by decide +kernel
theorem dX13_decide_44 : decode cX13_decide 44 = .ok (.aload_n 0, 1) := by decide +kernel
theorem dX13_decide_45 : decode cX13_decide 45 = .ok (.bipush 11, 2) := by decide +kernel
theorem dX13_decide_47 : decode cX13_decide 47 = .ok (.iload_n 1, 1) := by decide +kernel
theorem dX13_decide_48 : decode cX13_decide 48 = .ok (.iload_n 2, 1) := by decide +kernel
theorem dX13_decide_49 : decode cX13_decide 49 = .ok (.iconst 0, 1) := by decide +kernel
theorem dX13_decide_50 : decode cX13_decide 50 = .ok (.invokevirtual 466, 3) := by decide +kernel
theorem dX13_decide_53 : decode cX13_decide 53 = .ok (.ireturn, 1) := by decide +kernel
theorem dX13_mat_0 : decode cX13_mat 0 = .ok (.iload_n 1, 1) := by decide +kernel
theorem dX13_mat_1 : decode cX13_mat 1 = .ok (.invokestatic 524, 3) := by decide +kernel
theorem dX13_mat_4 : decode cX13_mat 4 = .ok (.ifCond .eq 13, 3) := by decide +kernel
theorem dX13_mat_7 : decode cX13_mat 7 = .ok (.aload_n 0, 1) := by decide +kernel
theorem dX13_mat_8 : decode cX13_mat 8 = .ok (.getfield 67, 3) := by decide +kernel
theorem dX13_mat_11 : decode cX13_mat 11 = .ok (.iload_n 1, 1) := by decide +kernel
theorem dX13_mat_12 : decode cX13_mat 12 = .ok (.iaload, 1) := by decide +kernel
theorem dX13_mat_13 : decode cX13_mat 13 = .ok (.iconst (-1), 1) := by decide +kernel
theorem dX13_mat_14 : decode cX13_mat 14 = .ok (.if_icmp .ne 5, 3) := by decide +kernel
theorem dX13_mat_17 : decode cX13_mat 17 = .ok (.iconst (-1), 1) := by decide +kernel
theorem dX13_mat_18 : decode cX13_mat 18 = .ok (.ireturn, 1) := by decide +kernel
theorem dX13_mat_19 : decode cX13_mat 19 = .ok (.iload_n 2, 1) := by decide +kernel
theorem dX13_mat_20 : decode cX13_mat 20 = .ok (.i2l, 1) := by decide +kernel
theorem dX13_mat_21 : decode cX13_mat 21 = .ok (.ldc2_w 539, 3) := by decide +kernel
theorem dX13_mat_24 : decode cX13_mat 24 = .ok (.ldc2_w 541, 3) := by decide +kernel
theorem dX13_mat_27 : decode cX13_mat 27 = .ok (.aload_n 0, 1) := by decide +kernel
theorem dX13_mat_28 : decode cX13_mat 28 = .ok (.getfield 186, 3) := by decide +kernel
theorem dX13_mat_31 : decode cX13_mat 31 = .ok (.i2l, 1) := by decide +kernel
theorem dX13_mat_32 : decode cX13_mat 32 = .ok (.ladd, 1) := by decide +kernel
theorem dX13_mat_33 : decode cX13_mat 33 = .ok (.invokestatic 203, 3) := by decide +kernel
theorem dX13_mat_36 : decode cX13_mat 36 = .ok (.ifCond .eq 18, 3) := by decide +kernel
theorem dX13_mat_39 : decode cX13_mat 39 = .ok (.aload_n 0, 1) := by decide +kernel
theorem dX13_mat_40 : decode cX13_mat 40 = .ok (.getfield 73, 3) := by decide +kernel
theorem dX13_mat_43 : decode cX13_mat 43 = .ok (.bipush 16, 2) := by decide +kernel
theorem dX13_mat_45 : decode cX13_mat 45 = .ok (.iload_n 1, 1) := by decide +kernel
theorem dX13_mat_46 : decode cX13_mat 46 = .ok (.imul, 1) := by decide +kernel
theorem dX13_mat_47 : decode cX13_mat 47 = .ok (.iload_n 2, 1) := by decide +kernel
theorem dX13_mat_48 : decode cX13_mat 48 = .ok (.iadd, 1) := by decide +kernel
theorem dX13_mat_49 : decode cX13_mat 49 = .ok (.bipush 10, 2) := by decide +kernel
theorem dX13_mat_51 : decode cX13_mat 51 = .ok (.isub, 1) := by decide +kernel
theorem dX13_mat_52 : decode cX13_mat 52 = .ok (.iaload, 1) := by decide +kernel
theorem dX13_mat_53 : decode cX13_mat 53 = .ok (.ireturn, 1) := by decide +kernel
theorem dX13_mat_54 : decode cX13_mat 54 = .ok (.iload_n 2, 1) := by decide +kernel
theorem dX13_mat_55 : decode cX13_mat 55 = .ok (.i2l, 1) := by decide +kernel
theorem dX13_mat_56 : decode cX13_mat 56 = .ok (.ldc2_w 543, 3) := by decide +kernel
theorem dX13_mat_59 : decode cX13_mat 59 = .ok (.ldc2_w 545, 3) := by decide +kernel
theorem dX13_mat_62 : decode cX13_mat 62 = .ok (.aload_n 0, 1) := by decide +kernel
theorem dX13_mat_63 : decode cX13_mat 63 = .ok (.getfield 186, 3) := by decide +kernel
theorem dX13_mat_66 : decode cX13_mat 66 = .ok (.i2l, 1) := by decide +kernel
theorem dX13_mat_67 : decode cX13_mat 67 = .ok (.ladd, 1) := by decide +kernel
theorem dX13_mat_68 : decode cX13_mat 68 = .ok (.invokestatic 203, 3) := by decide +kernel
theorem dX13_mat_71 : decode cX13_mat 71 = .ok (.ifCond .eq 21, 3) := by decide +kernel
theorem dX13_mat_74 : decode cX13_mat 74 = .ok (.aload_n 0, 1) := by decide +kernel
theorem dX13_mat_75 : decode cX13_mat 75 = .ok (.getfield 73, 3) := by decide +kernel
theorem dX13_mat_78 : decode cX13_mat 78 = .ok (.bipush 16, 2) := by decide +kernel
theorem dX13_mat_80 : decode cX13_mat 80 = .ok (.iload_n 1, 1) := by decide +kernel
theorem dX13_mat_81 : decode cX13_mat 81 = .ok (.imul, 1) := by decide +kernel
theorem dX13_mat_82 : decode cX13_mat 82 = .ok (.bipush 8, 2) := by decide +kernel
theorem dX13_mat_84 : decode cX13_mat 84 = .ok (.iadd, 1) := by decide +kernel
theorem dX13_mat_85 : decode cX13_mat 85 = .ok (.iload_n 2, 1) := by decide +kernel
theorem dX13_mat_86 : decode cX13_mat 86 = .ok (.iadd, 1) := by decide +kernel
theorem dX13_mat_87 : decode cX13_mat 87 = .ok (.bipush 20, 2) := by decide +kernel
theorem dX13_mat_89 : decode cX13_mat 89 = .ok (.isub, 1) := by decide +kernel
theorem dX13_mat_90 : decode cX13_mat 90 = .ok (.iaload, 1) := by decide +kernel
theorem dX13_mat_91 : decode cX13_mat 91 = .ok (.ireturn, 1) := by decide +kernel
theorem dX13_mat_92 : decode cX13_mat 92 = .ok (.iload_n 2, 1) := by decide +kernel
theorem dX13_mat_93 : decode cX13_mat 93 = .ok (.tableswitch 92 0 4 #[35, 45, 55, 62, 77], 35) := by decide +kernel
theorem dX13_mat_128 : decode cX13_mat 128 = .ok (.aload_n 0, 1) := by decide +kernel
theorem dX13_mat_129 : decode cX13_mat 129 = .ok (.getfield 67, 3) := by decide +kernel
theorem dX13_mat_132 : decode cX13_mat 132 = .ok (.iload_n 1, 1) := by decide +kernel
theorem dX13_mat_133 : decode cX13_mat 133 = .ok (.iaload, 1) := by decide +kernel
theorem dX13_mat_134 : decode cX13_mat 134 = .ok (.bipush 40, 2) := by decide +kernel
theorem dX13_mat_136 : decode cX13_mat 136 = .ok (.idiv, 1) := by decide +kernel
theorem dX13_mat_137 : decode cX13_mat 137 = .ok (.ireturn, 1) := by decide +kernel
theorem dX13_mat_138 : decode cX13_mat 138 = .ok (.aload_n 0, 1) := by decide +kernel
theorem dX13_mat_139 : decode cX13_mat 139 = .ok (.getfield 67, 3) := by decide +kernel
theorem dX13_mat_142 : decode cX13_mat 142 = .ok (.iload_n 1, 1) := by decide +kernel
theorem dX13_mat_143 : decode cX13_mat 143 = .ok (.iaload, 1) := by decide +kernel
theorem dX13_mat_144 : decode cX13_mat 144 = .ok (.bipush 40, 2) := by decide +kernel
theorem dX13_mat_146 : decode cX13_mat 146 = .ok (.irem, 1) := by decide +kernel
theorem dX13_mat_147 : decode cX13_mat 147 = .ok (.ireturn, 1) := by decide +kernel
theorem dX13_mat_148 : decode cX13_mat 148 = .ok (.aload_n 0, 1) := by decide +kernel
theorem dX13_mat_149 : decode cX13_mat 149 = .ok (.getfield 70, 3) := by decide +kernel
theorem dX13_mat_152 : decode cX13_mat 152 = .ok (.iload_n 1, 1) := by decide +kernel
theorem dX13_mat_153 : decode cX13_mat 153 = .ok (.iaload, 1) := by decide +kernel
theorem dX13_mat_154 : decode cX13_mat 154 = .ok (.ireturn, 1) := by decide +kernel
theorem dX13_mat_155 : decode cX13_mat 155 = .ok (.aload_n 0, 1) := by decide +kernel
theorem dX13_mat_156 : decode cX13_mat 156 = .ok (.getfield 76, 3) := by decide +kernel
theorem dX13_mat_159 : decode cX13_mat 159 = .ok (.iload_n 1, 1) := by decide +kernel
theorem dX13_mat_160 : decode cX13_mat 160 = .ok (.baload, 1) := by decide +kernel
theorem dX13_mat_161 : decode cX13_mat 161 = .ok (.ifCond .eq 7, 3) := by decide +kernel
theorem dX13_mat_164 : decode cX13_mat 164 = .ok (.iconst 1, 1) := by decide +kernel
theorem dX13_mat_165 : decode cX13_mat 165 = .ok (.goto 4, 3) := by decide +kernel
theorem dX13_mat_168 : decode cX13_mat 168 = .ok (.iconst 0, 1) := by decide +kernel
theorem dX13_mat_169 : decode cX13_mat 169 = .ok (.ireturn, 1) := by decide +kernel
theorem dX13_mat_170 : decode cX13_mat 170 = .ok (.aload_n 0, 1) := by decide +kernel
theorem dX13_mat_171 : decode cX13_mat 171 = .ok (.getfield 80, 3) := by decide +kernel
theorem dX13_mat_174 : decode cX13_mat 174 = .ok (.iload_n 1, 1) := by decide +kernel
theorem dX13_mat_175 : decode cX13_mat 175 = .ok (.baload, 1) := by decide +kernel
theorem dX13_mat_176 : decode cX13_mat 176 = .ok (.ifCond .eq 7, 3) := by decide +kernel
theorem dX13_mat_179 : decode cX13_mat 179 = .ok (.iconst 1, 1) := by decide +kernel
theorem dX13_mat_180 : decode cX13_mat 180 = .ok (.goto 4, 3) := by decide +kernel
theorem dX13_mat_183 : decode cX13_mat 183 = .ok (.iconst 0, 1) := by decide +kernel
theorem dX13_mat_184 : decode cX13_mat 184 = .ok (.ireturn, 1) := by decide +kernel
theorem dX13_mat_185 : decode cX13_mat 185 = .ok (.iconst (-1), 1) := by decide +kernel
theorem dX13_mat_186 : decode cX13_mat 186 = .ok (.ireturn, 1) := by decide +kernel
theorem dX13_strike_0 : decode cX13_strike 0 = .ok (.aload_n 0, 1) := by decide +kernel
theorem dX13_strike_1 : decode cX13_strike 1 = .ok (.iload_n 1, 1) := by decide +kernel
theorem dX13_strike_2 : decode cX13_strike 2 = .ok (.iload_n 2, 1) := by decide +kernel
theorem dX13_strike_3 : decode cX13_strike 3 = .ok (.invokevirtual 508, 3) := by decide +kernel
theorem dX13_strike_6 : decode cX13_strike 6 = .ok (.ifCond .ne 8, 3) := by decide +kernel
theorem dX13_strike_9 : decode cX13_strike 9 = .ok (.bipush (-2), 2) := by decide +kernel
theorem dX13_strike_11 : decode cX13_strike 11 = .ok (.goto 32, 3) := by decide +kernel
theorem dX13_strike_14 : decode cX13_strike 14 = .ok (.aload_n 0, 1) := by decide +kernel
theorem dX13_strike_15 : decode cX13_strike 15 = .ok (.getfield 46, 3) := by decide +kernel
theorem dX13_strike_18 : decode cX13_strike 18 = .ok (.bipush 40, 2) := by decide +kernel
theorem dX13_strike_20 : decode cX13_strike 20 = .ok (.iload_n 1, 1) := by decide +kernel
theorem dX13_strike_21 : decode cX13_strike 21 = .ok (.imul, 1) := by decide +kernel
theorem dX13_strike_22 : decode cX13_strike 22 = .ok (.iload_n 2, 1) := by decide +kernel
theorem dX13_strike_23 : decode cX13_strike 23 = .ok (.iadd, 1) := by decide +kernel
theorem dX13_strike_24 : decode cX13_strike 24 = .ok (.iaload, 1) := by decide +kernel
theorem dX13_strike_25 : decode cX13_strike 25 = .ok (.iconst 2, 1) := by decide +kernel
theorem dX13_strike_26 : decode cX13_strike 26 = .ok (.if_icmp .eq 8, 3) := by decide +kernel
theorem dX13_strike_29 : decode cX13_strike 29 = .ok (.bipush (-3), 2) := by decide +kernel
theorem dX13_strike_31 : decode cX13_strike 31 = .ok (.goto 12, 3) := by decide +kernel
theorem dX13_strike_34 : decode cX13_strike 34 = .ok (.aload_n 0, 1) := by decide +kernel
theorem dX13_strike_35 : decode cX13_strike 35 = .ok (.bipush 12, 2) := by decide +kernel
theorem dX13_strike_37 : decode cX13_strike 37 = .ok (.iload_n 1, 1) := by decide +kernel
theorem dX13_strike_38 : decode cX13_strike 38 = .ok (.iload_n 2, 1) := by decide +kernel
theorem dX13_strike_39 : decode cX13_strike 39 = .ok (.iconst 0, 1) := by decide +kernel
theorem dX13_strike_40 : decode cX13_strike 40 = .ok (.invokevirtual 466, 3) := by decide +kernel
theorem dX13_strike_43 : decode cX13_strike 43 = .ok (.ireturn, 1) := by decide +kernel
theorem dX13_medal_0 : decode cX13_medal 0 = .ok (.iload_n 1, 1) := by decide +kernel
theorem dX13_medal_1 : decode cX13_medal 1 = .ok (.invokestatic 214, 3) := by decide +kernel
theorem dX13_medal_4 : decode cX13_medal 4 = .ok (.ifCond .eq 16, 3) := by decide +kernel
theorem dX13_medal_7 : decode cX13_medal 7 = .ok (.aload_n 0, 1) := by decide +kernel
theorem dX13_medal_8 : decode cX13_medal 8 = .ok (.getfield 37, 3) := by decide +kernel
theorem dX13_medal_11 : decode cX13_medal 11 = .ok (.iload_n 1, 1) := by decide +kernel
theorem dX13_medal_12 : decode cX13_medal 12 = .ok (.iaload, 1) := by decide +kernel
theorem dX13_medal_13 : decode cX13_medal 13 = .ok (.ifCond .eq 7, 3) := by decide +kernel
theorem dX13_medal_16 : decode cX13_medal 16 = .ok (.iload_n 2, 1) := by decide +kernel
theorem dX13_medal_17 : decode cX13_medal 17 = .ok (.ifCond .ge 5, 3) := by decide +kernel
theorem dX13_medal_20 : decode cX13_medal 20 = .ok (.iconst (-1), 1) := by decide +kernel
theorem dX13_medal_21 : decode cX13_medal 21 = .ok (.ireturn, 1) := by decide +kernel
theorem dX13_medal_22 : decode cX13_medal 22 = .ok (.aload_n 0, 1) := by decide +kernel
theorem dX13_medal_23 : decode cX13_medal 23 = .ok (.getfield 37, 3) := by decide +kernel
theorem dX13_medal_26 : decode cX13_medal 26 = .ok (.iload_n 1, 1) := by decide +kernel
theorem dX13_medal_27 : decode cX13_medal 27 = .ok (.iaload, 1) := by decide +kernel
theorem dX13_medal_28 : decode cX13_medal 28 = .ok (.iconst 1, 1) := by decide +kernel
theorem dX13_medal_29 : decode cX13_medal 29 = .ok (.if_icmp .ne 38, 3) := by decide +kernel
theorem dX13_medal_32 : decode cX13_medal 32 = .ok (.iload_n 2, 1) := by decide +kernel
theorem dX13_medal_33 : decode cX13_medal 33 = .ok (.aload_n 0, 1) := by decide +kernel
theorem dX13_medal_34 : decode cX13_medal 34 = .ok (.getfield 40, 3) := by decide +kernel
theorem dX13_medal_37 : decode cX13_medal 37 = .ok (.iload_n 1, 1) := by decide +kernel
theorem dX13_medal_38 : decode cX13_medal 38 = .ok (.iaload, 1) := by decide +kernel
theorem dX13_medal_39 : decode cX13_medal 39 = .ok (.if_icmp .ge 26, 3) := by decide +kernel
theorem dX13_medal_42 : decode cX13_medal 42 = .ok (.aload_n 0, 1) := by decide +kernel
theorem dX13_medal_43 : decode cX13_medal 43 = .ok (.iload_n 1, 1) := by decide +kernel
theorem dX13_medal_44 : decode cX13_medal 44 = .ok (.iconst 5, 1) := by decide +kernel
theorem dX13_medal_45 : decode cX13_medal 45 = .ok (.invokevirtual 547, 3) := by decide +kernel
theorem dX13_medal_48 : decode cX13_medal 48 = .ok (.aload_n 0, 1) := by decide +kernel
theorem dX13_medal_49 : decode cX13_medal 49 = .ok (.iload_n 1, 1) := by decide +kernel
theorem dX13_medal_50 : decode cX13_medal 50 = .ok (.invokevirtual 218, 3) := by decide +kernel
theorem dX13_medal_53 : decode cX13_medal 53 = .ok (.if_icmp .ne 12, 3) := by decide +kernel
theorem dX13_medal_56 : decode cX13_medal 56 = .ok (.aload_n 0, 1) := by decide +kernel
theorem dX13_medal_57 : decode cX13_medal 57 = .ok (.iload_n 1, 1) := by decide +kernel
theorem dX13_medal_58 : decode cX13_medal 58 = .ok (.iload_n 2, 1) := by decide +kernel
theorem dX13_medal_59 : decode cX13_medal 59 = .ok (.invokevirtual 550, 3) := by decide +kernel
theorem dX13_medal_62 : decode cX13_medal 62 = .ok (.goto 4, 3) := by decide +kernel
theorem dX13_medal_65 : decode cX13_medal 65 = .ok (.iconst (-1), 1) := by decide +kernel
theorem dX13_medal_66 : decode cX13_medal 66 = .ok (.ireturn, 1) := by decide +kernel
theorem dX13_medal_67 : decode cX13_medal 67 = .ok (.iload_n 2, 1) := by decide +kernel
theorem dX13_medal_68 : decode cX13_medal 68 = .ok (.iconst 3, 1) := by decide +kernel
theorem dX13_medal_69 : decode cX13_medal 69 = .ok (.if_icmp .le 5, 3) := by decide +kernel
theorem dX13_medal_72 : decode cX13_medal 72 = .ok (.iconst (-1), 1) := by decide +kernel
theorem dX13_medal_73 : decode cX13_medal 73 = .ok (.ireturn, 1) := by decide +kernel
theorem dX13_medal_74 : decode cX13_medal 74 = .ok (.iload_n 2, 1) := by decide +kernel
theorem dX13_medal_75 : decode cX13_medal 75 = .ok (.iconst 1, 1) := by decide +kernel
theorem dX13_medal_76 : decode cX13_medal 76 = .ok (.if_icmp .le 29, 3) := by decide +kernel
theorem dX13_medal_79 : decode cX13_medal 79 = .ok (.aload_n 0, 1) := by decide +kernel
theorem dX13_medal_80 : decode cX13_medal 80 = .ok (.iload_n 1, 1) := by decide +kernel
theorem dX13_medal_81 : decode cX13_medal 81 = .ok (.aload_n 0, 1) := by decide +kernel
theorem dX13_medal_82 : decode cX13_medal 82 = .ok (.getfield 40, 3) := by decide +kernel
theorem dX13_medal_85 : decode cX13_medal 85 = .ok (.iload_n 1, 1) := by decide +kernel
theorem dX13_medal_86 : decode cX13_medal 86 = .ok (.iaload, 1) := by decide +kernel
theorem dX13_medal_87 : decode cX13_medal 87 = .ok (.iconst 2, 1) := by decide +kernel
theorem dX13_medal_88 : decode cX13_medal 88 = .ok (.isub, 1) := by decide +kernel
theorem dX13_medal_89 : decode cX13_medal 89 = .ok (.iload_n 2, 1) := by decide +kernel
theorem dX13_medal_90 : decode cX13_medal 90 = .ok (.iconst 1, 1) := by decide +kernel
theorem dX13_medal_91 : decode cX13_medal 91 = .ok (.isub, 1) := by decide +kernel
theorem dX13_medal_92 : decode cX13_medal 92 = .ok (.aload_n 0, 1) := by decide +kernel
theorem dX13_medal_93 : decode cX13_medal 93 = .ok (.iload_n 1, 1) := by decide +kernel
theorem dX13_medal_94 : decode cX13_medal 94 = .ok (.invokevirtual 211, 3) := by decide +kernel
theorem dX13_medal_97 : decode cX13_medal 97 = .ok (.iconst 1, 1) := by decide +kernel
theorem dX13_medal_98 : decode cX13_medal 98 = .ok (.isub, 1) := by decide +kernel
theorem dX13_medal_99 : decode cX13_medal 99 = .ok (.imul, 1) := by decide +kernel
theorem dX13_medal_100 : decode cX13_medal 100 = .ok (.iadd, 1) := by decide +kernel
theorem dX13_medal_101 : decode cX13_medal 101 = .ok (.invokevirtual 246, 3) := by decide +kernel
theorem dX13_medal_104 : decode cX13_medal 104 = .ok (.ireturn, 1) := by decide +kernel
theorem dX13_medal_105 : decode cX13_medal 105 = .ok (.aload_n 0, 1) := by decide +kernel
theorem dX13_medal_106 : decode cX13_medal 106 = .ok (.iload_n 1, 1) := by decide +kernel
theorem dX13_medal_107 : decode cX13_medal 107 = .ok (.aload_n 0, 1) := by decide +kernel
theorem dX13_medal_108 : decode cX13_medal 108 = .ok (.iload_n 1, 1) := by decide +kernel
theorem dX13_medal_109 : decode cX13_medal 109 = .ok (.invokevirtual 553, 3) := by decide +kernel
theorem dX13_medal_112 : decode cX13_medal 112 = .ok (.invokevirtual 246, 3) := by decide +kernel
theorem dX13_medal_115 : decode cX13_medal 115 = .ok (.istore_n 3, 1) := by decide +kernel
theorem dX13_medal_116 : decode cX13_medal 116 = .ok (.iload_n 3, 1) := by decide +kernel
theorem dX13_medal_117 : decode cX13_medal 117 = .ok (.iconst (-1), 1) := by decide +kernel
theorem dX13_medal_118 : decode cX13_medal 118 = .ok (.if_icmp .eq 7, 3) := by decide +kernel
theorem dX13_medal_121 : decode cX13_medal 121 = .ok (.iload_n 2, 1) := by decide +kernel
theorem dX13_medal_122 : decode cX13_medal 122 = .ok (.ifCond .ne 5, 3) := by decide +kernel
theorem dX13_medal_125 : decode cX13_medal 125 = .ok (.iload_n 3, 1) := by decide +kernel
theorem dX13_medal_126 : decode cX13_medal 126 = .ok (.ireturn, 1) := by decide +kernel
theorem dX13_medal_127 : decode cX13_medal 127 = .ok (.aload_n 0, 1) := by decide +kernel
theorem dX13_medal_128 : decode cX13_medal 128 = .ok (.iload_n 1, 1) := by decide +kernel
theorem dX13_medal_129 : decode cX13_medal 129 = .ok (.aload_n 0, 1) := by decide +kernel
theorem dX13_medal_130 : decode cX13_medal 130 = .ok (.iload_n 1, 1) := by decide +kernel
theorem dX13_medal_131 : decode cX13_medal 131 = .ok (.invokevirtual 553, 3) := by decide +kernel
theorem dX13_medal_134 : decode cX13_medal 134 = .ok (.iconst 0, 1) := by decide +kernel
theorem dX13_medal_135 : decode cX13_medal 135 = .ok (.invokevirtual 252, 3) := by decide +kernel
theorem dX13_medal_138 : decode cX13_medal 138 = .ok (.iload_n 3, 1) := by decide +kernel
theorem dX13_medal_139 : decode cX13_medal 139 = .ok (.if_icmp .ne 17, 3) := by decide +kernel
theorem dX13_medal_142 : decode cX13_medal 142 = .ok (.aload_n 0, 1) := by decide +kernel
theorem dX13_medal_143 : decode cX13_medal 143 = .ok (.iload_n 1, 1) := by decide +kernel
theorem dX13_medal_144 : decode cX13_medal 144 = .ok (.aload_n 0, 1) := by decide +kernel
theorem dX13_medal_145 : decode cX13_medal 145 = .ok (.iload_n 1, 1) := by decide +kernel
theorem dX13_medal_146 : decode cX13_medal 146 = .ok (.invokevirtual 553, 3) := by decide +kernel
theorem dX13_medal_149 : decode cX13_medal 149 = .ok (.iconst 1, 1) := by decide +kernel
theorem dX13_medal_150 : decode cX13_medal 150 = .ok (.invokevirtual 252, 3) := by decide +kernel
theorem dX13_medal_153 : decode cX13_medal 153 = .ok (.goto 14, 3) := by decide +kernel
theorem dX13_medal_156 : decode cX13_medal 156 = .ok (.aload_n 0, 1) := by decide +kernel
theorem dX13_medal_157 : decode cX13_medal 157 = .ok (.iload_n 1, 1) := by decide +kernel
theorem dX13_medal_158 : decode cX13_medal 158 = .ok (.aload_n 0, 1) := by decide +kernel
theorem dX13_medal_159 : decode cX13_medal 159 = .ok (.iload_n 1, 1) := by decide +kernel
theorem dX13_medal_160 : decode cX13_medal 160 = .ok (.invokevirtual 553, 3) := by decide +kernel
theorem dX13_medal_163 : decode cX13_medal 163 = .ok (.iconst 0, 1) := by decide +kernel
theorem dX13_medal_164 : decode cX13_medal 164 = .ok (.invokevirtual 252, 3) := by decide +kernel
theorem dX13_medal_167 : decode cX13_medal 167 = .ok (.ireturn, 1) := by decide +kernel
theorem dX13_plan_0 : decode cX13_plan 0 = .ok (.iload_n 1, 1) := by decide +kernel
theorem dX13_plan_1 : decode cX13_plan 1 = .ok (.i2l, 1) := by decide +kernel
theorem dX13_plan_2 : decode cX13_plan 2 = .ok (.lconst 1, 1) := by decide +kernel
theorem dX13_plan_3 : decode cX13_plan 3 = .ok (.ldc2_w 569, 3) := by decide +kernel
theorem dX13_plan_6 : decode cX13_plan 6 = .ok (.invokestatic 203, 3) := by decide +kernel
theorem dX13_plan_9 : decode cX13_plan 9 = .ok (.ifCond .eq 15, 3) := by decide +kernel
theorem dX13_plan_12 : decode cX13_plan 12 = .ok (.iload_n 2, 1) := by decide +kernel
theorem dX13_plan_13 : decode cX13_plan 13 = .ok (.i2l, 1) := by decide +kernel
theorem dX13_plan_14 : decode cX13_plan 14 = .ok (.lconst 1, 1) := by decide +kernel
theorem dX13_plan_15 : decode cX13_plan 15 = .ok (.ldc2_w 571, 3) := by decide +kernel
theorem dX13_plan_18 : decode cX13_plan 18 = .ok (.invokestatic 203, 3) := by decide +kernel
theorem dX13_plan_21 : decode cX13_plan 21 = .ok (.ifCond .ne 6, 3) := by decide +kernel
theorem dX13_plan_24 : decode cX13_plan 24 = .ok (.bipush (-2), 2) := by decide +kernel
theorem dX13_plan_26 : decode cX13_plan 26 = .ok (.ireturn, 1) := by decide +kernel
theorem dX13_plan_27 : decode cX13_plan 27 = .ok (.iconst 0, 1) := by decide +kernel
theorem dX13_plan_28 : decode cX13_plan 28 = .ok (.istore_n 3, 1) := by decide +kernel
theorem dX13_plan_29 : decode cX13_plan 29 = .ok (.aload_n 0, 1) := by decide +kernel
theorem dX13_plan_30 : decode cX13_plan 30 = .ok (.getfield 179, 3) := by decide +kernel
theorem dX13_plan_33 : decode cX13_plan 33 = .ok (.istore 4, 2) := by decide +kernel
theorem dX13_plan_35 : decode cX13_plan 35 = .ok (.iconst 0, 1) := by decide +kernel
theorem dX13_plan_36 : decode cX13_plan 36 = .ok (.istore 5, 2) := by decide +kernel
theorem dX13_plan_38 : decode cX13_plan 38 = .ok (.iconst 0, 1) := by decide +kernel
theorem dX13_plan_39 : decode cX13_plan 39 = .ok (.istore 6, 2) := by decide +kernel
theorem dX13_plan_41 : decode cX13_plan 41 = .ok (.iload 6, 2) := by decide +kernel
theorem dX13_plan_43 : decode cX13_plan 43 = .ok (.aload_n 0, 1) := by decide +kernel
theorem dX13_plan_44 : decode cX13_plan 44 = .ok (.getfield 176, 3) := by decide +kernel
theorem dX13_plan_47 : decode cX13_plan 47 = .ok (.if_icmp .ge 43, 3) := by decide +kernel
theorem dX13_plan_50 : decode cX13_plan 50 = .ok (.aload_n 0, 1) := by decide +kernel
theorem dX13_plan_51 : decode cX13_plan 51 = .ok (.getfield 167, 3) := by decide +kernel
theorem dX13_plan_54 : decode cX13_plan 54 = .ok (.iload 6, 2) := by decide +kernel
theorem dX13_plan_56 : decode cX13_plan 56 = .ok (.aload_n 0, 1) := by decide +kernel
theorem dX13_plan_57 : decode cX13_plan 57 = .ok (.getfield 34, 3) := by decide +kernel
theorem dX13_plan_60 : decode cX13_plan 60 = .ok (.iload 6, 2) := by decide +kernel
theorem dX13_plan_62 : decode cX13_plan 62 = .ok (.iaload, 1) := by decide +kernel
theorem dX13_plan_63 : decode cX13_plan 63 = .ok (.iconst (-1), 1) := by decide +kernel
theorem dX13_plan_64 : decode cX13_plan 64 = .ok (.if_icmp .ne 7, 3) := by decide +kernel
theorem dX13_plan_67 : decode cX13_plan 67 = .ok (.iconst 0, 1) := by decide +kernel
theorem dX13_plan_68 : decode cX13_plan 68 = .ok (.goto 15, 3) := by decide +kernel
theorem dX13_plan_71 : decode cX13_plan 71 = .ok (.aload_n 0, 1) := by decide +kernel
theorem dX13_plan_72 : decode cX13_plan 72 = .ok (.getfield 34, 3) := by decide +kernel
theorem dX13_plan_75 : decode cX13_plan 75 = .ok (.iload 6, 2) := by decide +kernel
theorem dX13_plan_77 : decode cX13_plan 77 = .ok (.iaload, 1) := by decide +kernel
theorem dX13_plan_78 : decode cX13_plan 78 = .ok (.aload_n 0, 1) := by decide +kernel
theorem dX13_plan_79 : decode cX13_plan 79 = .ok (.getfield 182, 3) := by decide +kernel
theorem dX13_plan_82 : decode cX13_plan 82 = .ok (.iadd, 1) := by decide +kernel
theorem dX13_plan_83 : decode cX13_plan 83 = .ok (.iastore, 1) := by decide +kernel
theorem dX13_plan_84 : decode cX13_plan 84 = .ok (.iinc 6 1, 3) := by decide +kernel
theorem dX13_plan_87 : decode cX13_plan 87 = .ok (.goto (-46), 3) := by decide +kernel
theorem dX13_plan_90 : decode cX13_plan 90 = .ok (.iconst 0, 1) := by decide +kernel
theorem dX13_plan_91 : decode cX13_plan 91 = .ok (.istore 6, 2) := by decide +kernel
theorem dX13_plan_93 : decode cX13_plan 93 = .ok (.iload 6, 2) := by decide +kernel
theorem dX13_plan_95 : decode cX13_plan 95 = .ok (.iconst 4, 1) := by decide +kernel
theorem dX13_plan_96 : decode cX13_plan 96 = .ok (.if_icmp .ge 37, 3) := by decide +kernel
theorem dX13_plan_99 : decode cX13_plan 99 = .ok (.aload_n 0, 1) := by decide +kernel
theorem dX13_plan_100 : decode cX13_plan 100 = .ok (.getfield 170, 3) := by decide +kernel
theorem dX13_plan_103 : decode cX13_plan 103 = .ok (.iload 6, 2) := by decide +kernel
theorem dX13_plan_105 : decode cX13_plan 105 = .ok (.aload_n 0, 1) := by decide +kernel
theorem dX13_plan_106 : decode cX13_plan 106 = .ok (.getfield 67, 3) := by decide +kernel
theorem dX13_plan_109 : decode cX13_plan 109 = .ok (.iload 6, 2) := by decide +kernel
theorem dX13_plan_111 : decode cX13_plan 111 = .ok (.iaload, 1) := by decide +kernel
theorem dX13_plan_112 : decode cX13_plan 112 = .ok (.iconst (-1), 1) := by decide +kernel
theorem dX13_plan_113 : decode cX13_plan 113 = .ok (.if_icmp .ne 7, 3) := by decide +kernel
theorem dX13_plan_116 : decode cX13_plan 116 = .ok (.iconst 0, 1) := by decide +kernel
theorem dX13_plan_117 : decode cX13_plan 117 = .ok (.goto 9, 3) := by decide +kernel
theorem dX13_plan_120 : decode cX13_plan 120 = .ok (.aload_n 0, 1) := by decide +kernel
theorem dX13_plan_121 : decode cX13_plan 121 = .ok (.getfield 179, 3) := by decide +kernel
theorem dX13_plan_124 : decode cX13_plan 124 = .ok (.iload_n 2, 1) := by decide +kernel
theorem dX13_plan_125 : decode cX13_plan 125 = .ok (.iadd, 1) := by decide +kernel
theorem dX13_plan_126 : decode cX13_plan 126 = .ok (.iastore, 1) := by decide +kernel
theorem dX13_plan_127 : decode cX13_plan 127 = .ok (.iinc 6 1, 3) := by decide +kernel
theorem dX13_plan_130 : decode cX13_plan 130 = .ok (.goto (-37), 3) := by decide +kernel
theorem dX13_plan_133 : decode cX13_plan 133 = .ok (.iconst 0, 1) := by decide +kernel
theorem dX13_plan_134 : decode cX13_plan 134 = .ok (.istore 6, 2) := by decide +kernel
theorem dX13_plan_136 : decode cX13_plan 136 = .ok (.iload 6, 2) := by decide +kernel
theorem dX13_plan_138 : decode cX13_plan 138 = .ok (.iconst 4, 1) := by decide +kernel
theorem dX13_plan_139 : decode cX13_plan 139 = .ok (.if_icmp .ge 284, 3) := by decide +kernel
theorem dX13_plan_142 : decode cX13_plan 142 = .ok (.iconst 0, 1) := by decide +kernel
theorem dX13_plan_143 : decode cX13_plan 143 = .ok (.istore 7, 2) := by decide +kernel
theorem dX13_plan_145 : decode cX13_plan 145 = .ok (.iload 7, 2) := by decide +kernel
theorem dX13_plan_147 : decode cX13_plan 147 = .ok (.bipush 40, 2) := by decide +kernel
theorem dX13_plan_149 : decode cX13_plan 149 = .ok (.if_icmp .ge 268, 3) := by decide +kernel
theorem dX13_plan_152 : decode cX13_plan 152 = .ok (.bipush 40, 2) := by decide +kernel
theorem dX13_plan_154 : decode cX13_plan 154 = .ok (.iload 6, 2) := by decide +kernel
theorem dX13_plan_156 : decode cX13_plan 156 = .ok (.imul, 1) := by decide +kernel
theorem dX13_plan_157 : decode cX13_plan 157 = .ok (.iload 7, 2) := by decide +kernel
theorem dX13_plan_159 : decode cX13_plan 159 = .ok (.iadd, 1) := by decide +kernel
theorem dX13_plan_160 : decode cX13_plan 160 = .ok (.istore 8, 2) := by decide +kernel
theorem dX13_plan_162 : decode cX13_plan 162 = .ok (.aload_n 0, 1) := by decide +kernel
theorem dX13_plan_163 : decode cX13_plan 163 = .ok (.getfield 155, 3) := by decide +kernel
theorem dX13_plan_166 : decode cX13_plan 166 = .ok (.iload 8, 2) := by decide +kernel
theorem dX13_plan_168 : decode cX13_plan 168 = .ok (.iconst 0, 1) := by decide +kernel
theorem dX13_plan_169 : decode cX13_plan 169 = .ok (.iastore, 1) := by decide +kernel
theorem dX13_plan_170 : decode cX13_plan 170 = .ok (.aload_n 0, 1) := by decide +kernel
theorem dX13_plan_171 : decode cX13_plan 171 = .ok (.getfield 149, 3) := by decide +kernel
theorem dX13_plan_174 : decode cX13_plan 174 = .ok (.iload 8, 2) := by decide +kernel
theorem dX13_plan_176 : decode cX13_plan 176 = .ok (.iconst (-1), 1) := by decide +kernel
theorem dX13_plan_177 : decode cX13_plan 177 = .ok (.iastore, 1) := by decide +kernel
theorem dX13_plan_178 : decode cX13_plan 178 = .ok (.aload_n 0, 1) := by decide +kernel
theorem dX13_plan_179 : decode cX13_plan 179 = .ok (.getfield 152, 3) := by decide +kernel
theorem dX13_plan_182 : decode cX13_plan 182 = .ok (.iload 8, 2) := by decide +kernel
theorem dX13_plan_184 : decode cX13_plan 184 = .ok (.iconst (-1), 1) := by decide +kernel
theorem dX13_plan_185 : decode cX13_plan 185 = .ok (.iastore, 1) := by decide +kernel
theorem dX13_plan_186 : decode cX13_plan 186 = .ok (.iload 7, 2) := by decide +kernel
theorem dX13_plan_188 : decode cX13_plan 188 = .ok (.aload_n 0, 1) := by decide +kernel
theorem dX13_plan_189 : decode cX13_plan 189 = .ok (.iload 6, 2) := by decide +kernel
theorem dX13_plan_191 : decode cX13_plan 191 = .ok (.invokevirtual 218, 3) := by decide +kernel
theorem dX13_plan_194 : decode cX13_plan 194 = .ok (.if_icmp .ge 217, 3) := by decide +kernel
theorem dX13_plan_197 : decode cX13_plan 197 = .ok (.aload_n 0, 1) := by decide +kernel
theorem dX13_plan_198 : decode cX13_plan 198 = .ok (.getfield 46, 3) := by decide +kernel
theorem dX13_plan_201 : decode cX13_plan 201 = .ok (.iload 8, 2) := by decide +kernel
theorem dX13_plan_203 : decode cX13_plan 203 = .ok (.iaload, 1) := by decide +kernel
theorem dX13_plan_204 : decode cX13_plan 204 = .ok (.iconst 2, 1) := by decide +kernel
theorem dX13_plan_205 : decode cX13_plan 205 = .ok (.if_icmp .eq 206, 3) := by decide +kernel
theorem dX13_plan_208 : decode cX13_plan 208 = .ok (.aload_n 0, 1) := by decide +kernel
theorem dX13_plan_209 : decode cX13_plan 209 = .ok (.iload 6, 2) := by decide +kernel
theorem dX13_plan_211 : decode cX13_plan 211 = .ok (.iload 7, 2) := by decide +kernel
theorem dX13_plan_213 : decode cX13_plan 213 = .ok (.invokevirtual 505, 3) := by decide +kernel
theorem dX13_plan_216 : decode cX13_plan 216 = .ok (.ifCond .eq 6, 3) := by decide +kernel
theorem dX13_plan_219 : decode cX13_plan 219 = .ok (.goto 192, 3) := by decide +kernel
theorem dX13_plan_222 : decode cX13_plan 222 = .ok (.aload_n 0, 1) := by decide +kernel
theorem dX13_plan_223 : decode cX13_plan 223 = .ok (.getfield 161, 3) := by decide +kernel
theorem dX13_plan_226 : decode cX13_plan 226 = .ok (.iload 8, 2) := by decide +kernel
theorem dX13_plan_228 : decode cX13_plan 228 = .ok (.iconst (-1), 1) := by decide +kernel
theorem dX13_plan_229 : decode cX13_plan 229 = .ok (.aload_n 0, 1) := by decide +kernel
theorem dX13_plan_230 : decode cX13_plan 230 = .ok (.iload 6, 2) := by decide +kernel
theorem dX13_plan_232 : decode cX13_plan 232 = .ok (.iload 7, 2) := by decide +kernel
theorem dX13_plan_234 : decode cX13_plan 234 = .ok (.iconst 0, 1) := by decide +kernel
theorem dX13_plan_235 : decode cX13_plan 235 = .ok (.invokevirtual 252, 3) := by decide +kernel
theorem dX13_plan_238 : decode cX13_plan 238 = .ok (.invokestatic 511, 3) := by decide +kernel
theorem dX13_plan_241 : decode cX13_plan 241 = .ok (.iastore, 1) := by decide +kernel
theorem dX13_plan_242 : decode cX13_plan 242 = .ok (.aload_n 0, 1) := by decide +kernel
theorem dX13_plan_243 : decode cX13_plan 243 = .ok (.getfield 164, 3) := by decide +kernel
theorem dX13_plan_246 : decode cX13_plan 246 = .ok (.iload 8, 2) := by decide +kernel
theorem dX13_plan_248 : decode cX13_plan 248 = .ok (.iconst (-1), 1) := by decide +kernel
theorem dX13_plan_249 : decode cX13_plan 249 = .ok (.aload_n 0, 1) := by decide +kernel
theorem dX13_plan_250 : decode cX13_plan 250 = .ok (.iload 6, 2) := by decide +kernel
theorem dX13_plan_252 : decode cX13_plan 252 = .ok (.iload 7, 2) := by decide +kernel
theorem dX13_plan_254 : decode cX13_plan 254 = .ok (.iconst 1, 1) := by decide +kernel
theorem dX13_plan_255 : decode cX13_plan 255 = .ok (.invokevirtual 252, 3) := by decide +kernel
theorem dX13_plan_258 : decode cX13_plan 258 = .ok (.invokestatic 511, 3) := by decide +kernel
theorem dX13_plan_261 : decode cX13_plan 261 = .ok (.iastore, 1) := by decide +kernel
theorem dX13_plan_262 : decode cX13_plan 262 = .ok (.aload_n 0, 1) := by decide +kernel
theorem dX13_plan_263 : decode cX13_plan 263 = .ok (.getfield 46, 3) := by decide +kernel
theorem dX13_plan_266 : decode cX13_plan 266 = .ok (.iload 8, 2) := by decide +kernel
theorem dX13_plan_268 : decode cX13_plan 268 = .ok (.iaload, 1) := by decide +kernel
theorem dX13_plan_269 : decode cX13_plan 269 = .ok (.iconst 1, 1) := by decide +kernel
theorem dX13_plan_270 : decode cX13_plan 270 = .ok (.if_icmp .ne 65, 3) := by decide +kernel
theorem dX13_plan_273 : decode cX13_plan 273 = .ok (.aload_n 0, 1) := by decide +kernel
theorem dX13_plan_274 : decode cX13_plan 274 = .ok (.getfield 155, 3) := by decide +kernel
theorem dX13_plan_277 : decode cX13_plan 277 = .ok (.iload 8, 2) := by decide +kernel
theorem dX13_plan_279 : decode cX13_plan 279 = .ok (.iconst 2, 1) := by decide +kernel
theorem dX13_plan_280 : decode cX13_plan 280 = .ok (.iastore, 1) := by decide +kernel
theorem dX13_plan_281 : decode cX13_plan 281 = .ok (.aload_n 0, 1) := by decide +kernel
theorem dX13_plan_282 : decode cX13_plan 282 = .ok (.getfield 149, 3) := by decide +kernel
theorem dX13_plan_285 : decode cX13_plan 285 = .ok (.iload 8, 2) := by decide +kernel
theorem dX13_plan_287 : decode cX13_plan 287 = .ok (.aload_n 0, 1) := by decide +kernel
theorem dX13_plan_288 : decode cX13_plan 288 = .ok (.iload 6, 2) := by decide +kernel
theorem dX13_plan_290 : decode cX13_plan 290 = .ok (.iload 7, 2) := by decide +kernel
theorem dX13_plan_292 : decode cX13_plan 292 = .ok (.invokevirtual 517, 3) := by decide +kernel
theorem dX13_plan_295 : decode cX13_plan 295 = .ok (.iastore, 1) := by decide +kernel
theorem dX13_plan_296 : decode cX13_plan 296 = .ok (.aload_n 0, 1) := by decide +kernel
theorem dX13_plan_297 : decode cX13_plan 297 = .ok (.getfield 152, 3) := by decide +kernel
theorem dX13_plan_300 : decode cX13_plan 300 = .ok (.iload 8, 2) := by decide +kernel
theorem dX13_plan_302 : decode cX13_plan 302 = .ok (.aload_n 0, 1) := by decide +kernel
theorem dX13_plan_303 : decode cX13_plan 303 = .ok (.getfield 179, 3) := by decide +kernel
theorem dX13_plan_306 : decode cX13_plan 306 = .ok (.iastore, 1) := by decide +kernel
theorem dX13_plan_307 : decode cX13_plan 307 = .ok (.iload 4, 2) := by decide +kernel
theorem dX13_plan_309 : decode cX13_plan 309 = .ok (.aload_n 0, 1) := by decide +kernel
theorem dX13_plan_310 : decode cX13_plan 310 = .ok (.getfield 179, 3) := by decide +kernel
theorem dX13_plan_313 : decode cX13_plan 313 = .ok (.iload_n 2, 1) := by decide +kernel
theorem dX13_plan_314 : decode cX13_plan 314 = .ok (.iadd, 1) := by decide +kernel
theorem dX13_plan_315 : decode cX13_plan 315 = .ok (.invokestatic 511, 3) := by decide +kernel
theorem dX13_plan_318 : decode cX13_plan 318 = .ok (.istore 4, 2) := by decide +kernel
theorem dX13_plan_320 : decode cX13_plan 320 = .ok (.aload_n 0, 1) := by decide +kernel
theorem dX13_plan_321 : decode cX13_plan 321 = .ok (.iload 8, 2) := by decide +kernel
theorem dX13_plan_323 : decode cX13_plan 323 = .ok (.aload_n 0, 1) := by decide +kernel
theorem dX13_plan_324 : decode cX13_plan 324 = .ok (.getfield 179, 3) := by decide +kernel
theorem dX13_plan_327 : decode cX13_plan 327 = .ok (.iload_n 2, 1) := by decide +kernel
theorem dX13_plan_328 : decode cX13_plan 328 = .ok (.iadd, 1) := by decide +kernel
theorem dX13_plan_329 : decode cX13_plan 329 = .ok (.invokevirtual 573, 3) := by decide +kernel
theorem dX13_plan_332 : decode cX13_plan 332 = .ok (.goto 79, 3) := by decide +kernel
theorem dX13_plan_335 : decode cX13_plan 335 = .ok (.aload_n 0, 1) := by decide +kernel
theorem dX13_plan_336 : decode cX13_plan 336 = .ok (.getfield 155, 3) := by decide +kernel
theorem dX13_plan_339 : decode cX13_plan 339 = .ok (.iload 8, 2) := by decide +kernel
theorem dX13_plan_341 : decode cX13_plan 341 = .ok (.iconst 1, 1) := by decide +kernel
theorem dX13_plan_342 : decode cX13_plan 342 = .ok (.iastore, 1) := by decide +kernel
theorem dX13_plan_343 : decode cX13_plan 343 = .ok (.iinc 3 1, 3) := by decide +kernel
theorem dX13_plan_346 : decode cX13_plan 346 = .ok (.iload 5, 2) := by decide +kernel
theorem dX13_plan_348 : decode cX13_plan 348 = .ok (.istore 9, 2) := by decide +kernel
theorem dX13_plan_350 : decode cX13_plan 350 = .ok (.iload 9, 2) := by decide +kernel
theorem dX13_plan_352 : decode cX13_plan 352 = .ok (.ifCond .le 47, 3) := by decide +kernel
theorem dX13_plan_355 : decode cX13_plan 355 = .ok (.aload_n 0, 1) := by decide +kernel
theorem dX13_plan_356 : decode cX13_plan 356 = .ok (.aload_n 0, 1) := by decide +kernel
theorem dX13_plan_357 : decode cX13_plan 357 = .ok (.getfield 158, 3) := by decide +kernel
theorem dX13_plan_360 : decode cX13_plan 360 = .ok (.iload 9, 2) := by decide +kernel
theorem dX13_plan_362 : decode cX13_plan 362 = .ok (.iconst 1, 1) := by decide +kernel
theorem dX13_plan_363 : decode cX13_plan 363 = .ok (.isub, 1) := by decide +kernel
theorem dX13_plan_364 : decode cX13_plan 364 = .ok (.iaload, 1) := by decide +kernel
theorem dX13_plan_365 : decode cX13_plan 365 = .ok (.invokevirtual 576, 3) := by decide +kernel
theorem dX13_plan_368 : decode cX13_plan 368 = .ok (.aload_n 0, 1) := by decide +kernel
theorem dX13_plan_369 : decode cX13_plan 369 = .ok (.iload 8, 2) := by decide +kernel
theorem dX13_plan_371 : decode cX13_plan 371 = .ok (.invokevirtual 576, 3) := by decide +kernel
theorem dX13_plan_374 : decode cX13_plan 374 = .ok (.if_icmp .le 25, 3) := by decide +kernel
theorem dX13_plan_377 : decode cX13_plan 377 = .ok (.aload_n 0, 1) := by decide +kernel
theorem dX13_plan_378 : decode cX13_plan 378 = .ok (.getfield 158, 3) := by decide +kernel
theorem dX13_plan_381 : decode cX13_plan 381 = .ok (.iload 9, 2) := by decide +kernel
theorem dX13_plan_383 : decode cX13_plan 383 = .ok (.aload_n 0, 1) := by decide +kernel
theorem dX13_plan_384 : decode cX13_plan 384 = .ok (.getfield 158, 3) := by decide +kernel
theorem dX13_plan_387 : decode cX13_plan 387 = .ok (.iload 9, 2) := by decide +kernel
theorem dX13_plan_389 : decode cX13_plan 389 = .ok (.iconst 1, 1) := by decide +kernel
theorem dX13_plan_390 : decode cX13_plan 390 = .ok (.isub, 1) := by decide +kernel
theorem dX13_plan_391 : decode cX13_plan 391 = .ok (.iaload, 1) := by decide +kernel
theorem dX13_plan_392 : decode cX13_plan 392 = .ok (.iastore, 1) := by decide +kernel
theorem dX13_plan_393 : decode cX13_plan 393 = .ok (.iinc 9 (-1), 3) := by decide +kernel
theorem dX13_plan_396 : decode cX13_plan 396 = .ok (.goto (-46), 3) := by decide +kernel
theorem dX13_plan_399 : decode cX13_plan 399 = .ok (.aload_n 0, 1) := by decide +kernel
theorem dX13_plan_400 : decode cX13_plan 400 = .ok (.getfield 158, 3) := by decide +kernel
theorem dX13_plan_403 : decode cX13_plan 403 = .ok (.iload 9, 2) := by decide +kernel
theorem dX13_plan_405 : decode cX13_plan 405 = .ok (.iload 8, 2) := by decide +kernel
theorem dX13_plan_407 : decode cX13_plan 407 = .ok (.iastore, 1) := by decide +kernel
theorem dX13_plan_408 : decode cX13_plan 408 = .ok (.iinc 5 1, 3) := by decide +kernel
theorem dX13_plan_411 : decode cX13_plan 411 = .ok (.iinc 7 1, 3) := by decide +kernel
theorem dX13_plan_414 : decode cX13_plan 414 = .ok (.goto (-269), 3) := by decide +kernel
theorem dX13_plan_417 : decode cX13_plan 417 = .ok (.iinc 6 1, 3) := by decide +kernel
theorem dX13_plan_420 : decode cX13_plan 420 = .ok (.goto (-284), 3) := by decide +kernel
theorem dX13_plan_423 : decode cX13_plan 423 = .ok (.aload_n 0, 1) := by decide +kernel
theorem dX13_plan_424 : decode cX13_plan 424 = .ok (.getfield 179, 3) := by decide +kernel
theorem dX13_plan_427 : decode cX13_plan 427 = .ok (.istore 6, 2) := by decide +kernel
theorem dX13_plan_429 : decode cX13_plan 429 = .ok (.iload_n 3, 1) := by decide +kernel
theorem dX13_plan_430 : decode cX13_plan 430 = .ok (.ifCond .le 198, 3) := by decide +kernel
theorem dX13_plan_433 : decode cX13_plan 433 = .ok (.iconst 0, 1) := by decide +kernel
theorem dX13_plan_434 : decode cX13_plan 434 = .ok (.istore 7, 2) := by decide +kernel
theorem dX13_plan_436 : decode cX13_plan 436 = .ok (.iload 7, 2) := by decide +kernel
theorem dX13_plan_438 : decode cX13_plan 438 = .ok (.iload_n 1, 1) := by decide +kernel
theorem dX13_plan_439 : decode cX13_plan 439 = .ok (.if_icmp .ge 165, 3) := by decide +kernel
theorem dX13_plan_442 : decode cX13_plan 442 = .ok (.iload_n 3, 1) := by decide +kernel
theorem dX13_plan_443 : decode cX13_plan 443 = .ok (.ifCond .le 161, 3) := by decide +kernel
theorem dX13_plan_446 : decode cX13_plan 446 = .ok (.aload_n 0, 1) := by decide +kernel
theorem dX13_plan_447 : decode cX13_plan 447 = .ok (.getfield 170, 3) := by decide +kernel
theorem dX13_plan_450 : decode cX13_plan 450 = .ok (.iload 7, 2) := by decide +kernel
theorem dX13_plan_452 : decode cX13_plan 452 = .ok (.iaload, 1) := by decide +kernel
theorem dX13_plan_453 : decode cX13_plan 453 = .ok (.iload 6, 2) := by decide +kernel
theorem dX13_plan_455 : decode cX13_plan 455 = .ok (.if_icmp .le 6, 3) := by decide +kernel
theorem dX13_plan_458 : decode cX13_plan 458 = .ok (.goto 140, 3) := by decide +kernel
theorem dX13_plan_461 : decode cX13_plan 461 = .ok (.iconst (-1), 1) := by decide +kernel
theorem dX13_plan_462 : decode cX13_plan 462 = .ok (.istore 8, 2) := by decide +kernel
theorem dX13_plan_464 : decode cX13_plan 464 = .ok (.iconst 0, 1) := by decide +kernel
theorem dX13_plan_465 : decode cX13_plan 465 = .ok (.istore 9, 2) := by decide +kernel
theorem dX13_plan_467 : decode cX13_plan 467 = .ok (.iload 9, 2) := by decide +kernel
theorem dX13_plan_469 : decode cX13_plan 469 = .ok (.iload 5, 2) := by decide +kernel
theorem dX13_plan_471 : decode cX13_plan 471 = .ok (.if_icmp .ge 57, 3) := by decide +kernel
theorem dX13_plan_474 : decode cX13_plan 474 = .ok (.iload 8, 2) := by decide +kernel
theorem dX13_plan_476 : decode cX13_plan 476 = .ok (.iconst (-1), 1) := by decide +kernel
theorem dX13_plan_477 : decode cX13_plan 477 = .ok (.if_icmp .ne 51, 3) := by decide +kernel
theorem dX13_plan_480 : decode cX13_plan 480 = .ok (.aload_n 0, 1) := by decide +kernel
theorem dX13_plan_481 : decode cX13_plan 481 = .ok (.getfield 155, 3) := by decide +kernel
theorem dX13_plan_484 : decode cX13_plan 484 = .ok (.aload_n 0, 1) := by decide +kernel
theorem dX13_plan_485 : decode cX13_plan 485 = .ok (.getfield 158, 3) := by decide +kernel
theorem dX13_plan_488 : decode cX13_plan 488 = .ok (.iload 9, 2) := by decide +kernel
theorem dX13_plan_490 : decode cX13_plan 490 = .ok (.iaload, 1) := by decide +kernel
theorem dX13_plan_491 : decode cX13_plan 491 = .ok (.iaload, 1) := by decide +kernel
theorem dX13_plan_492 : decode cX13_plan 492 = .ok (.iconst 1, 1) := by decide +kernel
theorem dX13_plan_493 : decode cX13_plan 493 = .ok (.if_icmp .ne 29, 3) := by decide +kernel
theorem dX13_plan_496 : decode cX13_plan 496 = .ok (.aload_n 0, 1) := by decide +kernel
theorem dX13_plan_497 : decode cX13_plan 497 = .ok (.aload_n 0, 1) := by decide +kernel
theorem dX13_plan_498 : decode cX13_plan 498 = .ok (.getfield 158, 3) := by decide +kernel
theorem dX13_plan_501 : decode cX13_plan 501 = .ok (.iload 9, 2) := by decide +kernel
theorem dX13_plan_503 : decode cX13_plan 503 = .ok (.iaload, 1) := by decide +kernel
theorem dX13_plan_504 : decode cX13_plan 504 = .ok (.iload 6, 2) := by decide +kernel
theorem dX13_plan_506 : decode cX13_plan 506 = .ok (.iload_n 2, 1) := by decide +kernel
theorem dX13_plan_507 : decode cX13_plan 507 = .ok (.invokevirtual 579, 3) := by decide +kernel
theorem dX13_plan_510 : decode cX13_plan 510 = .ok (.ifCond .eq 12, 3) := by decide +kernel
theorem dX13_plan_513 : decode cX13_plan 513 = .ok (.aload_n 0, 1) := by decide +kernel
theorem dX13_plan_514 : decode cX13_plan 514 = .ok (.getfield 158, 3) := by decide +kernel
theorem dX13_plan_517 : decode cX13_plan 517 = .ok (.iload 9, 2) := by decide +kernel
theorem dX13_plan_519 : decode cX13_plan 519 = .ok (.iaload, 1) := by decide +kernel
theorem dX13_plan_520 : decode cX13_plan 520 = .ok (.istore 8, 2) := by decide +kernel
theorem dX13_plan_522 : decode cX13_plan 522 = .ok (.iinc 9 1, 3) := by decide +kernel
theorem dX13_plan_525 : decode cX13_plan 525 = .ok (.goto (-58), 3) := by decide +kernel
theorem dX13_plan_528 : decode cX13_plan 528 = .ok (.iload 8, 2) := by decide +kernel
theorem dX13_plan_530 : decode cX13_plan 530 = .ok (.iconst (-1), 1) := by decide +kernel
theorem dX13_plan_531 : decode cX13_plan 531 = .ok (.if_icmp .ne 6, 3) := by decide +kernel
theorem dX13_plan_534 : decode cX13_plan 534 = .ok (.goto 64, 3) := by decide +kernel
theorem dX13_plan_537 : decode cX13_plan 537 = .ok (.aload_n 0, 1) := by decide +kernel
theorem dX13_plan_538 : decode cX13_plan 538 = .ok (.getfield 155, 3) := by decide +kernel
theorem dX13_plan_541 : decode cX13_plan 541 = .ok (.iload 8, 2) := by decide +kernel
theorem dX13_plan_543 : decode cX13_plan 543 = .ok (.iconst 2, 1) := by decide +kernel
theorem dX13_plan_544 : decode cX13_plan 544 = .ok (.iastore, 1) := by decide +kernel
theorem dX13_plan_545 : decode cX13_plan 545 = .ok (.aload_n 0, 1) := by decide +kernel
theorem dX13_plan_546 : decode cX13_plan 546 = .ok (.getfield 149, 3) := by decide +kernel
theorem dX13_plan_549 : decode cX13_plan 549 = .ok (.iload 8, 2) := by decide +kernel
theorem dX13_plan_551 : decode cX13_plan 551 = .ok (.iload 7, 2) := by decide +kernel
theorem dX13_plan_553 : decode cX13_plan 553 = .ok (.iastore, 1) := by decide +kernel
theorem dX13_plan_554 : decode cX13_plan 554 = .ok (.aload_n 0, 1) := by decide +kernel
theorem dX13_plan_555 : decode cX13_plan 555 = .ok (.getfield 152, 3) := by decide +kernel
theorem dX13_plan_558 : decode cX13_plan 558 = .ok (.iload 8, 2) := by decide +kernel
theorem dX13_plan_560 : decode cX13_plan 560 = .ok (.iload 6, 2) := by decide +kernel
theorem dX13_plan_562 : decode cX13_plan 562 = .ok (.iastore, 1) := by decide +kernel
theorem dX13_plan_563 : decode cX13_plan 563 = .ok (.aload_n 0, 1) := by decide +kernel
theorem dX13_plan_564 : decode cX13_plan 564 = .ok (.getfield 170, 3) := by decide +kernel
theorem dX13_plan_567 : decode cX13_plan 567 = .ok (.iload 7, 2) := by decide +kernel
theorem dX13_plan_569 : decode cX13_plan 569 = .ok (.iload 6, 2) := by decide +kernel
theorem dX13_plan_571 : decode cX13_plan 571 = .ok (.iload_n 2, 1) := by decide +kernel
theorem dX13_plan_572 : decode cX13_plan 572 = .ok (.iadd, 1) := by decide +kernel
theorem dX13_plan_573 : decode cX13_plan 573 = .ok (.iastore, 1) := by decide +kernel
theorem dX13_plan_574 : decode cX13_plan 574 = .ok (.aload_n 0, 1) := by decide +kernel
theorem dX13_plan_575 : decode cX13_plan 575 = .ok (.iload 8, 2) := by decide +kernel
theorem dX13_plan_577 : decode cX13_plan 577 = .ok (.iload 6, 2) := by decide +kernel
theorem dX13_plan_579 : decode cX13_plan 579 = .ok (.iload_n 2, 1) := by decide +kernel
theorem dX13_plan_580 : decode cX13_plan 580 = .ok (.iadd, 1) := by decide +kernel
theorem dX13_plan_581 : decode cX13_plan 581 = .ok (.invokevirtual 573, 3) := by decide +kernel
theorem dX13_plan_584 : decode cX13_plan 584 = .ok (.iinc 3 (-1), 3) := by decide +kernel
theorem dX13_plan_587 : decode cX13_plan 587 = .ok (.iload 4, 2) := by decide +kernel
theorem dX13_plan_589 : decode cX13_plan 589 = .ok (.iload 6, 2) := by decide +kernel
theorem dX13_plan_591 : decode cX13_plan 591 = .ok (.iload_n 2, 1) := by decide +kernel
theorem dX13_plan_592 : decode cX13_plan 592 = .ok (.iadd, 1) := by decide +kernel
theorem dX13_plan_593 : decode cX13_plan 593 = .ok (.invokestatic 511, 3) := by decide +kernel
theorem dX13_plan_596 : decode cX13_plan 596 = .ok (.istore 4, 2) := by decide +kernel
theorem dX13_plan_598 : decode cX13_plan 598 = .ok (.iinc 7 1, 3) := by decide +kernel
theorem dX13_plan_601 : decode cX13_plan 601 = .ok (.goto (-165), 3) := by decide +kernel
theorem dX13_plan_604 : decode cX13_plan 604 = .ok (.iload 4, 2) := by decide +kernel
theorem dX13_plan_606 : decode cX13_plan 606 = .ok (.ldc_w 582, 3) := by decide +kernel
theorem dX13_plan_609 : decode cX13_plan 609 = .ok (.if_icmp .gt 11, 3) := by decide +kernel
theorem dX13_plan_612 : decode cX13_plan 612 = .ok (.iload 6, 2) := by decide +kernel
theorem dX13_plan_614 : decode cX13_plan 614 = .ok (.ldc_w 582, 3) := by decide +kernel
theorem dX13_plan_617 : decode cX13_plan 617 = .ok (.if_icmp .le 5, 3) := by decide +kernel
theorem dX13_plan_620 : decode cX13_plan 620 = .ok (.iconst (-1), 1) := by decide +kernel
theorem dX13_plan_621 : decode cX13_plan 621 = .ok (.ireturn, 1) := by decide +kernel
theorem dX13_plan_622 : decode cX13_plan 622 = .ok (.iinc 6 1, 3) := by decide +kernel
theorem dX13_plan_625 : decode cX13_plan 625 = .ok (.goto (-196), 3) := by decide +kernel
theorem dX13_plan_628 : decode cX13_plan 628 = .ok (.iconst 0, 1) := by decide +kernel
theorem dX13_plan_629 : decode cX13_plan 629 = .ok (.istore 7, 2) := by decide +kernel
theorem dX13_plan_631 : decode cX13_plan 631 = .ok (.iload 7, 2) := by decide +kernel
theorem dX13_plan_633 : decode cX13_plan 633 = .ok (.sipush 160, 3) := by decide +kernel
theorem dX13_plan_636 : decode cX13_plan 636 = .ok (.if_icmp .ge 37, 3) := by decide +kernel
theorem dX13_plan_639 : decode cX13_plan 639 = .ok (.aload_n 0, 1) := by decide +kernel
theorem dX13_plan_640 : decode cX13_plan 640 = .ok (.getfield 143, 3) := by decide +kernel
theorem dX13_plan_643 : decode cX13_plan 643 = .ok (.iload 7, 2) := by decide +kernel
theorem dX13_plan_645 : decode cX13_plan 645 = .ok (.aload_n 0, 1) := by decide +kernel
theorem dX13_plan_646 : decode cX13_plan 646 = .ok (.getfield 149, 3) := by decide +kernel
theorem dX13_plan_649 : decode cX13_plan 649 = .ok (.iload 7, 2) := by decide +kernel
theorem dX13_plan_651 : decode cX13_plan 651 = .ok (.iaload, 1) := by decide +kernel
theorem dX13_plan_652 : decode cX13_plan 652 = .ok (.iastore, 1) := by decide +kernel
theorem dX13_plan_653 : decode cX13_plan 653 = .ok (.aload_n 0, 1) := by decide +kernel
theorem dX13_plan_654 : decode cX13_plan 654 = .ok (.getfield 146, 3) := by decide +kernel
theorem dX13_plan_657 : decode cX13_plan 657 = .ok (.iload 7, 2) := by decide +kernel
theorem dX13_plan_659 : decode cX13_plan 659 = .ok (.aload_n 0, 1) := by decide +kernel
theorem dX13_plan_660 : decode cX13_plan 660 = .ok (.getfield 152, 3) := by decide +kernel
theorem dX13_plan_663 : decode cX13_plan 663 = .ok (.iload 7, 2) := by decide +kernel
theorem dX13_plan_665 : decode cX13_plan 665 = .ok (.iaload, 1) := by decide +kernel
theorem dX13_plan_666 : decode cX13_plan 666 = .ok (.iastore, 1) := by decide +kernel
theorem dX13_plan_667 : decode cX13_plan 667 = .ok (.iinc 7 1, 3) := by decide +kernel
theorem dX13_plan_670 : decode cX13_plan 670 = .ok (.goto (-39), 3) := by decide +kernel
theorem dX13_plan_673 : decode cX13_plan 673 = .ok (.aload_n 0, 1) := by decide +kernel
theorem dX13_plan_674 : decode cX13_plan 674 = .ok (.iconst 1, 1) := by decide +kernel
theorem dX13_plan_675 : decode cX13_plan 675 = .ok (.putfield 583, 3) := by decide +kernel
theorem dX13_plan_678 : decode cX13_plan 678 = .ok (.iload 4, 2) := by decide +kernel
theorem dX13_plan_680 : decode cX13_plan 680 = .ok (.ireturn, 1) := by decide +kernel
theorem dX13_planned_0 : decode cX13_planned 0 = .ok (.aload_n 0, 1) := by decide +kernel
theorem dX13_planned_1 : decode cX13_planned 1 = .ok (.iload_n 1, 1) := by decide +kernel
theorem dX13_planned_2 : decode cX13_planned 2 = .ok (.iload_n 2, 1) := by decide +kernel
theorem dX13_planned_3 : decode cX13_planned 3 = .ok (.invokevirtual 508, 3) := by decide +kernel
theorem dX13_planned_6 : decode cX13_planned 6 = .ok (.ifCond .eq 20, 3) := by decide +kernel
theorem dX13_planned_9 : decode cX13_planned 9 = .ok (.aload_n 0, 1) := by decide +kernel
theorem dX13_planned_10 : decode cX13_planned 10 = .ok (.getfield 583, 3) := by decide +kernel
theorem dX13_planned_13 : decode cX13_planned 13 = .ok (.ifCond .eq 13, 3) := by decide +kernel
theorem dX13_planned_16 : decode cX13_planned 16 = .ok (.iload_n 3, 1) := by decide +kernel
theorem dX13_planned_17 : decode cX13_planned 17 = .ok (.i2l, 1) := by decide +kernel
theorem dX13_planned_18 : decode cX13_planned 18 = .ok (.lconst 0, 1) := by decide +kernel
theorem dX13_planned_19 : decode cX13_planned 19 = .ok (.lconst 1, 1) := by decide +kernel
theorem dX13_planned_20 : decode cX13_planned 20 = .ok (.invokestatic 203, 3) := by decide +kernel
theorem dX13_planned_23 : decode cX13_planned 23 = .ok (.ifCond .ne 5, 3) := by decide +kernel
theorem dX13_planned_26 : decode cX13_planned 26 = .ok (.iconst (-1), 1) := by decide +kernel
theorem dX13_planned_27 : decode cX13_planned 27 = .ok (.ireturn, 1) := by decide +kernel
theorem dX13_planned_28 : decode cX13_planned 28 = .ok (.iload_n 3, 1) := by decide +kernel
theorem dX13_planned_29 : decode cX13_planned 29 = .ok (.ifCond .ne 17, 3) := by decide +kernel
theorem dX13_planned_32 : decode cX13_planned 32 = .ok (.aload_n 0, 1) := by decide +kernel
theorem dX13_planned_33 : decode cX13_planned 33 = .ok (.getfield 143, 3) := by decide +kernel
theorem dX13_planned_36 : decode cX13_planned 36 = .ok (.bipush 40, 2) := by decide +kernel
theorem dX13_planned_38 : decode cX13_planned 38 = .ok (.iload_n 1, 1) := by decide +kernel
theorem dX13_planned_39 : decode cX13_planned 39 = .ok (.imul, 1) := by decide +kernel
theorem dX13_planned_40 : decode cX13_planned 40 = .ok (.iload_n 2, 1) := by decide +kernel
theorem dX13_planned_41 : decode cX13_planned 41 = .ok (.iadd, 1) := by decide +kernel
theorem dX13_planned_42 : decode cX13_planned 42 = .ok (.iaload, 1) := by decide +kernel
theorem dX13_planned_43 : decode cX13_planned 43 = .ok (.goto 14, 3) := by decide +kernel
theorem dX13_planned_46 : decode cX13_planned 46 = .ok (.aload_n 0, 1) := by decide +kernel
theorem dX13_planned_47 : decode cX13_planned 47 = .ok (.getfield 146, 3) := by decide +kernel
theorem dX13_planned_50 : decode cX13_planned 50 = .ok (.bipush 40, 2) := by decide +kernel
theorem dX13_planned_52 : decode cX13_planned 52 = .ok (.iload_n 1, 1) := by decide +kernel
theorem dX13_planned_53 : decode cX13_planned 53 = .ok (.imul, 1) := by decide +kernel
theorem dX13_planned_54 : decode cX13_planned 54 = .ok (.iload_n 2, 1) := by decide +kernel
theorem dX13_planned_55 : decode cX13_planned 55 = .ok (.iadd, 1) := by decide +kernel
theorem dX13_planned_56 : decode cX13_planned 56 = .ok (.iaload, 1) := by decide +kernel
theorem dX13_planned_57 : decode cX13_planned 57 = .ok (.ireturn, 1) := by decide +kernel
theorem dX13_count_0 : decode cX13_count 0 = .ok (.iconst 0, 1) := by decide +kernel
theorem dX13_count_1 : decode cX13_count 1 = .ok (.istore_n 2, 1) := by decide +kernel
theorem dX13_count_2 : decode cX13_count 2 = .ok (.iload_n 1, 1) := by decide +kernel
theorem dX13_count_3 : decode cX13_count 3 = .ok (.tableswitch 122 0 8 #[49, 54, 59, 64, 69, 74, 79, 112, 117], 49) := by decide +kernel
theorem dX13_count_52 : decode cX13_count 52 = .ok (.aload_n 0, 1) := by decide +kernel
theorem dX13_count_53 : decode cX13_count 53 = .ok (.getfield 176, 3) := by decide +kernel
theorem dX13_count_56 : decode cX13_count 56 = .ok (.ireturn, 1) := by decide +kernel
theorem dX13_count_57 : decode cX13_count 57 = .ok (.aload_n 0, 1) := by decide +kernel
theorem dX13_count_58 : decode cX13_count 58 = .ok (.getfield 179, 3) := by decide +kernel
theorem dX13_count_61 : decode cX13_count 61 = .ok (.ireturn, 1) := by decide +kernel
theorem dX13_count_62 : decode cX13_count 62 = .ok (.aload_n 0, 1) := by decide +kernel
theorem dX13_count_63 : decode cX13_count 63 = .ok (.getfield 182, 3) := by decide +kernel
theorem dX13_count_66 : decode cX13_count 66 = .ok (.ireturn, 1) := by decide +kernel
theorem dX13_count_67 : decode cX13_count 67 = .ok (.aload_n 0, 1) := by decide +kernel
theorem dX13_count_68 : decode cX13_count 68 = .ok (.getfield 186, 3) := by decide +kernel
theorem dX13_count_71 : decode cX13_count 71 = .ok (.ireturn, 1) := by decide +kernel
theorem dX13_count_72 : decode cX13_count 72 = .ok (.aload_n 0, 1) := by decide +kernel
theorem dX13_count_73 : decode cX13_count 73 = .ok (.getfield 189, 3) := by decide +kernel
theorem dX13_count_76 : decode cX13_count 76 = .ok (.ireturn, 1) := by decide +kernel
theorem dX13_count_77 : decode cX13_count 77 = .ok (.aload_n 0, 1) := by decide +kernel
theorem dX13_count_78 : decode cX13_count 78 = .ok (.getfield 192, 3) := by decide +kernel
theorem dX13_count_81 : decode cX13_count 81 = .ok (.ireturn, 1) := by decide +kernel
theorem dX13_count_82 : decode cX13_count 82 = .ok (.iconst 0, 1) := by decide +kernel
theorem dX13_count_83 : decode cX13_count 83 = .ok (.istore_n 3, 1) := by decide +kernel
theorem dX13_count_84 : decode cX13_count 84 = .ok (.iload_n 3, 1) := by decide +kernel
theorem dX13_count_85 : decode cX13_count 85 = .ok (.iconst 4, 1) := by decide +kernel
theorem dX13_count_86 : decode cX13_count 86 = .ok (.if_icmp .ge 27, 3) := by decide +kernel
theorem dX13_count_89 : decode cX13_count 89 = .ok (.iload_n 2, 1) := by decide +kernel
theorem dX13_count_90 : decode cX13_count 90 = .ok (.aload_n 0, 1) := by decide +kernel
theorem dX13_count_91 : decode cX13_count 91 = .ok (.getfield 67, 3) := by decide +kernel
theorem dX13_count_94 : decode cX13_count 94 = .ok (.iload_n 3, 1) := by decide +kernel
theorem dX13_count_95 : decode cX13_count 95 = .ok (.iaload, 1) := by decide +kernel
theorem dX13_count_96 : decode cX13_count 96 = .ok (.iconst (-1), 1) := by decide +kernel
theorem dX13_count_97 : decode cX13_count 97 = .ok (.if_icmp .eq 7, 3) := by decide +kernel
theorem dX13_count_100 : decode cX13_count 100 = .ok (.iconst 1, 1) := by decide +kernel
theorem dX13_count_101 : decode cX13_count 101 = .ok (.goto 4, 3) := by decide +kernel
theorem dX13_count_104 : decode cX13_count 104 = .ok (.iconst 0, 1) := by decide +kernel
theorem dX13_count_105 : decode cX13_count 105 = .ok (.iadd, 1) := by decide +kernel
theorem dX13_count_106 : decode cX13_count 106 = .ok (.istore_n 2, 1) := by decide +kernel
theorem dX13_count_107 : decode cX13_count 107 = .ok (.iinc 3 1, 3) := by decide +kernel
theorem dX13_count_110 : decode cX13_count 110 = .ok (.goto (-26), 3) := by decide +kernel
theorem dX13_count_113 : decode cX13_count 113 = .ok (.iload_n 2, 1) := by decide +kernel
theorem dX13_count_114 : decode cX13_count 114 = .ok (.ireturn, 1) := by decide +kernel
theorem dX13_count_115 : decode cX13_count 115 = .ok (.aload_n 0, 1) := by decide +kernel
theorem dX13_count_116 : decode cX13_count 116 = .ok (.getfield 418, 3) := by decide +kernel
theorem dX13_count_119 : decode cX13_count 119 = .ok (.ireturn, 1) := by decide +kernel
theorem dX13_count_120 : decode cX13_count 120 = .ok (.aload_n 0, 1) := by decide +kernel
theorem dX13_count_121 : decode cX13_count 121 = .ok (.getfield 457, 3) := by decide +kernel
theorem dX13_count_124 : decode cX13_count 124 = .ok (.ireturn, 1) := by decide +kernel
theorem dX13_count_125 : decode cX13_count 125 = .ok (.iconst (-1), 1) := by decide +kernel
theorem dX13_count_126 : decode cX13_count 126 = .ok (.ireturn, 1) := by decide +kernel
theorem dJxa1e45_init_da8c8_0 : decode cJxa1e45_init_da8c8 0 = .ok (.aload_n 0, 1) := by decide +kernel
theorem dJxa1e45_init_da8c8_1 : decode cJxa1e45_init_da8c8 1 = .ok (.invokespecial 1, 3) := by decide +kernel
theorem dJxa1e45_init_da8c8_4 : decode cJxa1e45_init_da8c8 4 = .ok (.return_, 1) := by decide +kernel
theorem dJxc12de_init_da8c8_0 : decode cJxc12de_init_da8c8 0 = .ok (.aload_n 0, 1) := by decide +kernel
theorem dJxc12de_init_da8c8_1 : decode cJxc12de_init_da8c8 1 = .ok (.invokespecial 1, 3) := by decide +kernel
theorem dJxc12de_init_da8c8_4 : decode cJxc12de_init_da8c8 4 = .ok (.aload_n 0, 1) := by decide +kernel
theorem dJxc12de_init_da8c8_5 : decode cJxc12de_init_da8c8 5 = .ok (.iconst 0, 1) := by decide +kernel
theorem dJxc12de_init_da8c8_6 : decode cJxc12de_init_da8c8 6 = .ok (.putfield 7, 3) := by decide +kernel
theorem dJxc12de_init_da8c8_9 : decode cJxc12de_init_da8c8 9 = .ok (.return_, 1) := by decide +kernel
theorem dJx4a65c_init_da8c8_0 : decode cJx4a65c_init_da8c8 0 = .ok (.aload_n 0, 1) := by decide +kernel
theorem dJx4a65c_init_da8c8_1 : decode cJx4a65c_init_da8c8 1 = .ok (.invokespecial 1, 3) := by decide +kernel
theorem dJx4a65c_init_da8c8_4 : decode cJx4a65c_init_da8c8 4 = .ok (.aload_n 0, 1) := by decide +kernel
theorem dJx4a65c_init_da8c8_5 : decode cJx4a65c_init_da8c8 5 = .ok (.getstatic 39, 3) := by decide +kernel
theorem dJx4a65c_init_da8c8_8 : decode cJx4a65c_init_da8c8 8 = .ok (.putfield 9, 3) := by decide +kernel
theorem dJx4a65c_init_da8c8_11 : decode cJx4a65c_init_da8c8 11 = .ok (.return_, 1) := by decide +kernel
theorem dJx4a65c_size_8abf5_0 : decode cJx4a65c_size_8abf5 0 = .ok (.aload_n 0, 1) := by decide +kernel
theorem dJx4a65c_size_8abf5_1 : decode cJx4a65c_size_8abf5 1 = .ok (.getfield 48, 3) := by decide +kernel
theorem dJx4a65c_size_8abf5_4 : decode cJx4a65c_size_8abf5 4 = .ok (.ireturn, 1) := by decide +kernel
theorem dJ7_fill_53178_0 : decode cJ7_fill_53178 0 = .ok (.iconst 0, 1) := by decide +kernel
theorem dJ7_fill_53178_1 : decode cJ7_fill_53178 1 = .ok (.istore_n 2, 1) := by decide +kernel
theorem dJ7_fill_53178_2 : decode cJ7_fill_53178 2 = .ok (.aload_n 0, 1) := by decide +kernel
theorem dJ7_fill_53178_3 : decode cJ7_fill_53178 3 = .ok (.arraylength, 1) := by decide +kernel
theorem dJ7_fill_53178_4 : decode cJ7_fill_53178 4 = .ok (.istore_n 3, 1) := by decide +kernel
theorem dJ7_fill_53178_5 : decode cJ7_fill_53178 5 = .ok (.iload_n 2, 1) := by decide +kernel
theorem dJ7_fill_53178_6 : decode cJ7_fill_53178 6 = .ok (.iload_n 3, 1) := by decide +kernel
theorem dJ7_fill_53178_7 : decode cJ7_fill_53178 7 = .ok (.if_icmp .ge 13, 3) := by decide +kernel
theorem dJ7_fill_53178_10 : decode cJ7_fill_53178 10 = .ok (.aload_n 0, 1) := by decide +kernel
theorem dJ7_fill_53178_11 : decode cJ7_fill_53178 11 = .ok (.iload_n 2, 1) := by decide +kernel
theorem dJ7_fill_53178_12 : decode cJ7_fill_53178 12 = .ok (.iload_n 1, 1) := by decide +kernel
theorem dJ7_fill_53178_13 : decode cJ7_fill_53178 13 = .ok (.iastore, 1) := by decide +kernel
theorem dJ7_fill_53178_14 : decode cJ7_fill_53178 14 = .ok (.iinc 2 1, 3) := by decide +kernel
theorem dJ7_fill_53178_17 : decode cJ7_fill_53178 17 = .ok (.goto (-12), 3) := by decide +kernel
theorem dJ7_fill_53178_20 : decode cJ7_fill_53178 20 = .ok (.return_, 1) := by decide +kernel
theorem dJ7_copyOf_59c91_0 : decode cJ7_copyOf_59c91 0 = .ok (.iload_n 1, 1) := by decide +kernel
theorem dJ7_copyOf_59c91_1 : decode cJ7_copyOf_59c91 1 = .ok (.aload_n 0, 1) := by decide +kernel
theorem dJ7_copyOf_59c91_2 : decode cJ7_copyOf_59c91 2 = .ok (.arraylength, 1) := by decide +kernel
theorem dJ7_copyOf_59c91_3 : decode cJ7_copyOf_59c91 3 = .ok (.if_icmp .ne 11, 3) := by decide +kernel
theorem dJ7_copyOf_59c91_14 : decode cJ7_copyOf_59c91 14 = .ok (.iload_n 1, 1) := by decide +kernel
theorem dJ7_copyOf_59c91_15 : decode cJ7_copyOf_59c91 15 = .ok (.newarray .int, 2) := by decide +kernel
theorem dJ7_copyOf_59c91_17 : decode cJ7_copyOf_59c91 17 = .ok (.astore_n 2, 1) := by decide +kernel
theorem dJ7_copyOf_59c91_18 : decode cJ7_copyOf_59c91 18 = .ok (.aload_n 0, 1) := by decide +kernel
theorem dJ7_copyOf_59c91_19 : decode cJ7_copyOf_59c91 19 = .ok (.iconst 0, 1) := by decide +kernel
theorem dJ7_copyOf_59c91_20 : decode cJ7_copyOf_59c91 20 = .ok (.aload_n 2, 1) := by decide +kernel
theorem dJ7_copyOf_59c91_21 : decode cJ7_copyOf_59c91 21 = .ok (.iconst 0, 1) := by decide +kernel
theorem dJ7_copyOf_59c91_22 : decode cJ7_copyOf_59c91 22 = .ok (.aload_n 0, 1) := by decide +kernel
theorem dJ7_copyOf_59c91_23 : decode cJ7_copyOf_59c91 23 = .ok (.arraylength, 1) := by decide +kernel
theorem dJ7_copyOf_59c91_24 : decode cJ7_copyOf_59c91 24 = .ok (.iload_n 1, 1) := by decide +kernel
theorem dJ7_copyOf_59c91_25 : decode cJ7_copyOf_59c91 25 = .ok (.invokestatic 304, 3) := by decide +kernel
theorem dJ7_copyOf_59c91_28 : decode cJ7_copyOf_59c91 28 = .ok (.invokestatic 150, 3) := by decide +kernel
theorem dJ7_copyOf_59c91_31 : decode cJ7_copyOf_59c91 31 = .ok (.aload_n 2, 1) := by decide +kernel
theorem dJ7_copyOf_59c91_32 : decode cJ7_copyOf_59c91 32 = .ok (.areturn, 1) := by decide +kernel
theorem dL_law_0 : decode cL_law 0 = .ok (.new 7, 3) := by decide +kernel
theorem dL_law_3 : decode cL_law 3 = .ok (.dup, 1) := by decide +kernel
theorem dL_law_4 : decode cL_law 4 = .ok (.invokespecial 9, 3) := by decide +kernel
theorem dL_law_7 : decode cL_law 7 = .ok (.astore_n 1, 1) := by decide +kernel
theorem dL_law_8 : decode cL_law 8 = .ok (.new 10, 3) := by decide +kernel
theorem dL_law_11 : decode cL_law 11 = .ok (.dup, 1) := by decide +kernel
theorem dL_law_12 : decode cL_law 12 = .ok (.invokespecial 12, 3) := by decide +kernel
theorem dL_law_15 : decode cL_law 15 = .ok (.astore_n 2, 1) := by decide +kernel
theorem dL_law_16 : decode cL_law 16 = .ok (.iconst 0, 1) := by decide +kernel
theorem dL_law_17 : decode cL_law 17 = .ok (.istore_n 3, 1) := by decide +kernel
theorem dL_law_18 : decode cL_law 18 = .ok (.iload_n 3, 1) := by decide +kernel
theorem dL_law_19 : decode cL_law 19 = .ok (.aload_n 0, 1) := by decide +kernel
theorem dL_law_20 : decode cL_law 20 = .ok (.arraylength, 1) := by decide +kernel
theorem dL_law_21 : decode cL_law 21 = .ok (.bipush 6, 2) := by decide +kernel
theorem dL_law_23 : decode cL_law 23 = .ok (.isub, 1) := by decide +kernel
theorem dL_law_24 : decode cL_law 24 = .ok (.if_icmp .gt 935, 3) := by decide +kernel
theorem dL_law_27 : decode cL_law 27 = .ok (.aload_n 0, 1) := by decide +kernel
theorem dL_law_28 : decode cL_law 28 = .ok (.iload_n 3, 1) := by decide +kernel
theorem dL_law_29 : decode cL_law 29 = .ok (.iaload, 1) := by decide +kernel
theorem dL_law_30 : decode cL_law 30 = .ok (.bipush 31, 2) := by decide +kernel
theorem dL_law_32 : decode cL_law 32 = .ok (.iand, 1) := by decide +kernel
theorem dL_law_33 : decode cL_law 33 = .ok (.tableswitch 920 0 24 #[115, 178, 201, 214, 237, 280, 313, 346, 379, 402, 435, 468, 511, 534, 557, 600, 643, 676, 709, 742, 775, 808, 841, 884, 897], 115) := by decide +kernel
theorem dL_law_148 : decode cL_law 148 = .ok (.aload_n 1, 1) := by decide +kernel
theorem dL_law_149 : decode cL_law 149 = .ok (.aload_n 0, 1) := by decide +kernel
theorem dL_law_150 : decode cL_law 150 = .ok (.iload_n 3, 1) := by decide +kernel
theorem dL_law_151 : decode cL_law 151 = .ok (.iconst 1, 1) := by decide +kernel
theorem dL_law_152 : decode cL_law 152 = .ok (.iadd, 1) := by decide +kernel
theorem dL_law_153 : decode cL_law 153 = .ok (.iaload, 1) := by decide +kernel
theorem dL_law_154 : decode cL_law 154 = .ok (.aload_n 0, 1) := by decide +kernel
theorem dL_law_155 : decode cL_law 155 = .ok (.iload_n 3, 1) := by decide +kernel
theorem dL_law_156 : decode cL_law 156 = .ok (.iconst 2, 1) := by decide +kernel
theorem dL_law_157 : decode cL_law 157 = .ok (.iadd, 1) := by decide +kernel
theorem dL_law_158 : decode cL_law 158 = .ok (.iaload, 1) := by decide +kernel
theorem dL_law_159 : decode cL_law 159 = .ok (.aload_n 0, 1) := by decide +kernel
theorem dL_law_160 : decode cL_law 160 = .ok (.iload_n 3, 1) := by decide +kernel
theorem dL_law_161 : decode cL_law 161 = .ok (.iconst 3, 1) := by decide +kernel
theorem dL_law_162 : decode cL_law 162 = .ok (.iadd, 1) := by decide +kernel
theorem dL_law_163 : decode cL_law 163 = .ok (.iaload, 1) := by decide +kernel
theorem dL_law_164 : decode cL_law 164 = .ok (.aload_n 0, 1) := by decide +kernel
theorem dL_law_165 : decode cL_law 165 = .ok (.iload_n 3, 1) := by decide +kernel
theorem dL_law_166 : decode cL_law 166 = .ok (.iconst 4, 1) := by decide +kernel
theorem dL_law_167 : decode cL_law 167 = .ok (.iadd, 1) := by decide +kernel
theorem dL_law_168 : decode cL_law 168 = .ok (.iaload, 1) := by decide +kernel
theorem dL_law_169 : decode cL_law 169 = .ok (.aload_n 0, 1) := by decide +kernel
theorem dL_law_170 : decode cL_law 170 = .ok (.iload_n 3, 1) := by decide +kernel
theorem dL_law_171 : decode cL_law 171 = .ok (.iconst 5, 1) := by decide +kernel
theorem dL_law_172 : decode cL_law 172 = .ok (.iadd, 1) := by decide +kernel
theorem dL_law_173 : decode cL_law 173 = .ok (.iaload, 1) := by decide +kernel
theorem dL_law_174 : decode cL_law 174 = .ok (.invokevirtual 13, 3) := by decide +kernel
theorem dL_law_177 : decode cL_law 177 = .ok (.pop, 1) := by decide +kernel
theorem dL_law_178 : decode cL_law 178 = .ok (.aload_n 2, 1) := by decide +kernel
theorem dL_law_179 : decode cL_law 179 = .ok (.aload_n 0, 1) := by decide +kernel
theorem dL_law_180 : decode cL_law 180 = .ok (.iload_n 3, 1) := by decide +kernel
theorem dL_law_181 : decode cL_law 181 = .ok (.iconst 1, 1) := by decide +kernel
theorem dL_law_182 : decode cL_law 182 = .ok (.iadd, 1) := by decide +kernel
theorem dL_law_183 : decode cL_law 183 = .ok (.iaload, 1) := by decide +kernel
theorem dL_law_184 : decode cL_law 184 = .ok (.aload_n 0, 1) := by decide +kernel
theorem dL_law_185 : decode cL_law 185 = .ok (.iload_n 3, 1) := by decide +kernel
theorem dL_law_186 : decode cL_law 186 = .ok (.iconst 2, 1) := by decide +kernel
theorem dL_law_187 : decode cL_law 187 = .ok (.iadd, 1) := by decide +kernel
theorem dL_law_188 : decode cL_law 188 = .ok (.iaload, 1) := by decide +kernel
theorem dL_law_189 : decode cL_law 189 = .ok (.aload_n 0, 1) := by decide +kernel
theorem dL_law_190 : decode cL_law 190 = .ok (.iload_n 3, 1) := by decide +kernel
theorem dL_law_191 : decode cL_law 191 = .ok (.iconst 3, 1) := by decide +kernel
theorem dL_law_192 : decode cL_law 192 = .ok (.iadd, 1) := by decide +kernel
theorem dL_law_193 : decode cL_law 193 = .ok (.iaload, 1) := by decide +kernel
theorem dL_law_194 : decode cL_law 194 = .ok (.aload_n 0, 1) := by decide +kernel
theorem dL_law_195 : decode cL_law 195 = .ok (.iload_n 3, 1) := by decide +kernel
theorem dL_law_196 : decode cL_law 196 = .ok (.iconst 4, 1) := by decide +kernel
theorem dL_law_197 : decode cL_law 197 = .ok (.iadd, 1) := by decide +kernel
theorem dL_law_198 : decode cL_law 198 = .ok (.iaload, 1) := by decide +kernel
theorem dL_law_199 : decode cL_law 199 = .ok (.aload_n 0, 1) := by decide +kernel
theorem dL_law_200 : decode cL_law 200 = .ok (.iload_n 3, 1) := by decide +kernel
theorem dL_law_201 : decode cL_law 201 = .ok (.iconst 5, 1) := by decide +kernel
theorem dL_law_202 : decode cL_law 202 = .ok (.iadd, 1) := by decide +kernel
theorem dL_law_203 : decode cL_law 203 = .ok (.iaload, 1) := by decide +kernel
theorem dL_law_204 : decode cL_law 204 = .ok (.invokevirtual 17, 3) := by decide +kernel
theorem dL_law_207 : decode cL_law 207 = .ok (.pop, 1) := by decide +kernel
theorem dL_law_208 : decode cL_law 208 = .ok (.goto 745, 3) := by decide +kernel
theorem dL_law_211 : decode cL_law 211 = .ok (.aload_n 1, 1) := by decide +kernel
theorem dL_law_212 : decode cL_law 212 = .ok (.aload_n 0, 1) := by decide +kernel
theorem dL_law_213 : decode cL_law 213 = .ok (.iload_n 3, 1) := by decide +kernel
theorem dL_law_214 : decode cL_law 214 = .ok (.iconst 1, 1) := by decide +kernel
theorem dL_law_215 : decode cL_law 215 = .ok (.iadd, 1) := by decide +kernel
theorem dL_law_216 : decode cL_law 216 = .ok (.iaload, 1) := by decide +kernel
theorem dL_law_217 : decode cL_law 217 = .ok (.invokevirtual 18, 3) := by decide +kernel
theorem dL_law_220 : decode cL_law 220 = .ok (.pop, 1) := by decide +kernel
theorem dL_law_221 : decode cL_law 221 = .ok (.aload_n 2, 1) := by decide +kernel
theorem dL_law_222 : decode cL_law 222 = .ok (.aload_n 0, 1) := by decide +kernel
theorem dL_law_223 : decode cL_law 223 = .ok (.iload_n 3, 1) := by decide +kernel
theorem dL_law_224 : decode cL_law 224 = .ok (.iconst 1, 1) := by decide +kernel
theorem dL_law_225 : decode cL_law 225 = .ok (.iadd, 1) := by decide +kernel
theorem dL_law_226 : decode cL_law 226 = .ok (.iaload, 1) := by decide +kernel
theorem dL_law_227 : decode cL_law 227 = .ok (.invokevirtual 22, 3) := by decide +kernel
theorem dL_law_230 : decode cL_law 230 = .ok (.pop, 1) := by decide +kernel
theorem dL_law_231 : decode cL_law 231 = .ok (.goto 722, 3) := by decide +kernel
theorem dL_law_234 : decode cL_law 234 = .ok (.aload_n 1, 1) := by decide +kernel
theorem dL_law_235 : decode cL_law 235 = .ok (.invokevirtual 23, 3) := by decide +kernel
theorem dL_law_238 : decode cL_law 238 = .ok (.pop, 1) := by decide +kernel
theorem dL_law_239 : decode cL_law 239 = .ok (.aload_n 2, 1) := by decide +kernel
theorem dL_law_240 : decode cL_law 240 = .ok (.invokevirtual 27, 3) := by decide +kernel
theorem dL_law_243 : decode cL_law 243 = .ok (.pop, 1) := by decide +kernel
theorem dL_law_244 : decode cL_law 244 = .ok (.goto 709, 3) := by decide +kernel
theorem dL_law_247 : decode cL_law 247 = .ok (.aload_n 1, 1) := by decide +kernel
theorem dL_law_248 : decode cL_law 248 = .ok (.aload_n 0, 1) := by decide +kernel
theorem dL_law_249 : decode cL_law 249 = .ok (.iload_n 3, 1) := by decide +kernel
theorem dL_law_250 : decode cL_law 250 = .ok (.iconst 1, 1) := by decide +kernel
theorem dL_law_251 : decode cL_law 251 = .ok (.iadd, 1) := by decide +kernel
theorem dL_law_252 : decode cL_law 252 = .ok (.iaload, 1) := by decide +kernel
theorem dL_law_253 : decode cL_law 253 = .ok (.invokevirtual 28, 3) := by decide +kernel
theorem dL_law_256 : decode cL_law 256 = .ok (.pop, 1) := by decide +kernel
theorem dL_law_257 : decode cL_law 257 = .ok (.aload_n 2, 1) := by decide +kernel
theorem dL_law_258 : decode cL_law 258 = .ok (.aload_n 0, 1) := by decide +kernel
theorem dL_law_259 : decode cL_law 259 = .ok (.iload_n 3, 1) := by decide +kernel
theorem dL_law_260 : decode cL_law 260 = .ok (.iconst 1, 1) := by decide +kernel
theorem dL_law_261 : decode cL_law 261 = .ok (.iadd, 1) := by decide +kernel
theorem dL_law_262 : decode cL_law 262 = .ok (.iaload, 1) := by decide +kernel
theorem dL_law_263 : decode cL_law 263 = .ok (.invokevirtual 31, 3) := by decide +kernel
theorem dL_law_266 : decode cL_law 266 = .ok (.pop, 1) := by decide +kernel
theorem dL_law_267 : decode cL_law 267 = .ok (.goto 686, 3) := by decide +kernel
theorem dL_law_270 : decode cL_law 270 = .ok (.aload_n 1, 1) := by decide +kernel
theorem dL_law_271 : decode cL_law 271 = .ok (.aload_n 0, 1) := by decide +kernel
theorem dL_law_272 : decode cL_law 272 = .ok (.iload_n 3, 1) := by decide +kernel
theorem dL_law_273 : decode cL_law 273 = .ok (.iconst 1, 1) := by decide +kernel
theorem dL_law_274 : decode cL_law 274 = .ok (.iadd, 1) := by decide +kernel
theorem dL_law_275 : decode cL_law 275 = .ok (.iaload, 1) := by decide +kernel
theorem dL_law_276 : decode cL_law 276 = .ok (.aload_n 0, 1) := by decide +kernel
theorem dL_law_277 : decode cL_law 277 = .ok (.iload_n 3, 1) := by decide +kernel
theorem dL_law_278 : decode cL_law 278 = .ok (.iconst 2, 1) := by decide +kernel
theorem dL_law_279 : decode cL_law 279 = .ok (.iadd, 1) := by decide +kernel
theorem dL_law_280 : decode cL_law 280 = .ok (.iaload, 1) := by decide +kernel
theorem dL_law_281 : decode cL_law 281 = .ok (.aload_n 0, 1) := by decide +kernel
theorem dL_law_282 : decode cL_law 282 = .ok (.iload_n 3, 1) := by decide +kernel
theorem dL_law_283 : decode cL_law 283 = .ok (.iconst 3, 1) := by decide +kernel
theorem dL_law_284 : decode cL_law 284 = .ok (.iadd, 1) := by decide +kernel
theorem dL_law_285 : decode cL_law 285 = .ok (.iaload, 1) := by decide +kernel
theorem dL_law_286 : decode cL_law 286 = .ok (.invokevirtual 32, 3) := by decide +kernel
theorem dL_law_289 : decode cL_law 289 = .ok (.aload_n 2, 1) := by decide +kernel
theorem dL_law_290 : decode cL_law 290 = .ok (.aload_n 0, 1) := by decide +kernel
theorem dL_law_291 : decode cL_law 291 = .ok (.iload_n 3, 1) := by decide +kernel
theorem dL_law_292 : decode cL_law 292 = .ok (.iconst 1, 1) := by decide +kernel
theorem dL_law_293 : decode cL_law 293 = .ok (.iadd, 1) := by decide +kernel
theorem dL_law_294 : decode cL_law 294 = .ok (.iaload, 1) := by decide +kernel
theorem dL_law_295 : decode cL_law 295 = .ok (.aload_n 0, 1) := by decide +kernel
theorem dL_law_296 : decode cL_law 296 = .ok (.iload_n 3, 1) := by decide +kernel
theorem dL_law_297 : decode cL_law 297 = .ok (.iconst 2, 1) := by decide +kernel
theorem dL_law_298 : decode cL_law 298 = .ok (.iadd, 1) := by decide +kernel
theorem dL_law_299 : decode cL_law 299 = .ok (.iaload, 1) := by decide +kernel
theorem dL_law_300 : decode cL_law 300 = .ok (.aload_n 0, 1) := by decide +kernel
theorem dL_law_301 : decode cL_law 301 = .ok (.iload_n 3, 1) := by decide +kernel
theorem dL_law_302 : decode cL_law 302 = .ok (.iconst 3, 1) := by decide +kernel
theorem dL_law_303 : decode cL_law 303 = .ok (.iadd, 1) := by decide +kernel
theorem dL_law_304 : decode cL_law 304 = .ok (.iaload, 1) := by decide +kernel
theorem dL_law_305 : decode cL_law 305 = .ok (.invokevirtual 36, 3) := by decide +kernel
theorem dL_law_308 : decode cL_law 308 = .ok (.if_icmp .eq 645, 3) := by decide +kernel
theorem dL_law_313 : decode cL_law 313 = .ok (.aload_n 1, 1) := by decide +kernel
theorem dL_law_314 : decode cL_law 314 = .ok (.aload_n 0, 1) := by decide +kernel
theorem dL_law_315 : decode cL_law 315 = .ok (.iload_n 3, 1) := by decide +kernel
theorem dL_law_316 : decode cL_law 316 = .ok (.iconst 1, 1) := by decide +kernel
theorem dL_law_317 : decode cL_law 317 = .ok (.iadd, 1) := by decide +kernel
theorem dL_law_318 : decode cL_law 318 = .ok (.iaload, 1) := by decide +kernel
theorem dL_law_319 : decode cL_law 319 = .ok (.aload_n 0, 1) := by decide +kernel
theorem dL_law_320 : decode cL_law 320 = .ok (.iload_n 3, 1) := by decide +kernel
theorem dL_law_321 : decode cL_law 321 = .ok (.iconst 2, 1) := by decide +kernel
theorem dL_law_322 : decode cL_law 322 = .ok (.iadd, 1) := by decide +kernel
theorem dL_law_323 : decode cL_law 323 = .ok (.iaload, 1) := by decide +kernel
theorem dL_law_324 : decode cL_law 324 = .ok (.invokevirtual 37, 3) := by decide +kernel
theorem dL_law_327 : decode cL_law 327 = .ok (.pop, 1) := by decide +kernel
theorem dL_law_328 : decode cL_law 328 = .ok (.aload_n 2, 1) := by decide +kernel
theorem dL_law_329 : decode cL_law 329 = .ok (.aload_n 0, 1) := by decide +kernel
theorem dL_law_330 : decode cL_law 330 = .ok (.iload_n 3, 1) := by decide +kernel
theorem dL_law_331 : decode cL_law 331 = .ok (.iconst 1, 1) := by decide +kernel
theorem dL_law_332 : decode cL_law 332 = .ok (.iadd, 1) := by decide +kernel
theorem dL_law_333 : decode cL_law 333 = .ok (.iaload, 1) := by decide +kernel
theorem dL_law_334 : decode cL_law 334 = .ok (.aload_n 0, 1) := by decide +kernel
theorem dL_law_335 : decode cL_law 335 = .ok (.iload_n 3, 1) := by decide +kernel
theorem dL_law_336 : decode cL_law 336 = .ok (.iconst 2, 1) := by decide +kernel
theorem dL_law_337 : decode cL_law 337 = .ok (.iadd, 1) := by decide +kernel
theorem dL_law_338 : decode cL_law 338 = .ok (.iaload, 1) := by decide +kernel
theorem dL_law_339 : decode cL_law 339 = .ok (.invokevirtual 41, 3) := by decide +kernel
theorem dL_law_342 : decode cL_law 342 = .ok (.pop, 1) := by decide +kernel
theorem dL_law_343 : decode cL_law 343 = .ok (.goto 610, 3) := by decide +kernel
theorem dL_law_346 : decode cL_law 346 = .ok (.aload_n 1, 1) := by decide +kernel
theorem dL_law_347 : decode cL_law 347 = .ok (.aload_n 0, 1) := by decide +kernel
theorem dL_law_348 : decode cL_law 348 = .ok (.iload_n 3, 1) := by decide +kernel
theorem dL_law_349 : decode cL_law 349 = .ok (.iconst 1, 1) := by decide +kernel
theorem dL_law_350 : decode cL_law 350 = .ok (.iadd, 1) := by decide +kernel
theorem dL_law_351 : decode cL_law 351 = .ok (.iaload, 1) := by decide +kernel
theorem dL_law_352 : decode cL_law 352 = .ok (.aload_n 0, 1) := by decide +kernel
theorem dL_law_353 : decode cL_law 353 = .ok (.iload_n 3, 1) := by decide +kernel
theorem dL_law_354 : decode cL_law 354 = .ok (.iconst 2, 1) := by decide +kernel
theorem dL_law_355 : decode cL_law 355 = .ok (.iadd, 1) := by decide +kernel
theorem dL_law_356 : decode cL_law 356 = .ok (.iaload, 1) := by decide +kernel
theorem dL_law_357 : decode cL_law 357 = .ok (.invokevirtual 42, 3) := by decide +kernel
theorem dL_law_360 : decode cL_law 360 = .ok (.pop, 1) := by decide +kernel
theorem dL_law_361 : decode cL_law 361 = .ok (.aload_n 2, 1) := by decide +kernel
theorem dL_law_362 : decode cL_law 362 = .ok (.aload_n 0, 1) := by decide +kernel
theorem dL_law_363 : decode cL_law 363 = .ok (.iload_n 3, 1) := by decide +kernel
theorem dL_law_364 : decode cL_law 364 = .ok (.iconst 1, 1) := by decide +kernel
theorem dL_law_365 : decode cL_law 365 = .ok (.iadd, 1) := by decide +kernel
theorem dL_law_366 : decode cL_law 366 = .ok (.iaload, 1) := by decide +kernel
theorem dL_law_367 : decode cL_law 367 = .ok (.aload_n 0, 1) := by decide +kernel
theorem dL_law_368 : decode cL_law 368 = .ok (.iload_n 3, 1) := by decide +kernel
theorem dL_law_369 : decode cL_law 369 = .ok (.iconst 2, 1) := by decide +kernel
theorem dL_law_370 : decode cL_law 370 = .ok (.iadd, 1) := by decide +kernel
theorem dL_law_371 : decode cL_law 371 = .ok (.iaload, 1) := by decide +kernel
theorem dL_law_372 : decode cL_law 372 = .ok (.invokevirtual 45, 3) := by decide +kernel
theorem dL_law_375 : decode cL_law 375 = .ok (.pop, 1) := by decide +kernel
theorem dL_law_376 : decode cL_law 376 = .ok (.goto 577, 3) := by decide +kernel
theorem dL_law_379 : decode cL_law 379 = .ok (.aload_n 1, 1) := by decide +kernel
theorem dL_law_380 : decode cL_law 380 = .ok (.aload_n 0, 1) := by decide +kernel
theorem dL_law_381 : decode cL_law 381 = .ok (.iload_n 3, 1) := by decide +kernel
theorem dL_law_382 : decode cL_law 382 = .ok (.iconst 1, 1) := by decide +kernel
theorem dL_law_383 : decode cL_law 383 = .ok (.iadd, 1) := by decide +kernel
theorem dL_law_384 : decode cL_law 384 = .ok (.iaload, 1) := by decide +kernel
theorem dL_law_385 : decode cL_law 385 = .ok (.aload_n 0, 1) := by decide +kernel
theorem dL_law_386 : decode cL_law 386 = .ok (.iload_n 3, 1) := by decide +kernel
theorem dL_law_387 : decode cL_law 387 = .ok (.iconst 2, 1) := by decide +kernel
theorem dL_law_388 : decode cL_law 388 = .ok (.iadd, 1) := by decide +kernel
theorem dL_law_389 : decode cL_law 389 = .ok (.iaload, 1) := by decide +kernel
theorem dL_law_390 : decode cL_law 390 = .ok (.invokevirtual 46, 3) := by decide +kernel
theorem dL_law_393 : decode cL_law 393 = .ok (.pop, 1) := by decide +kernel
theorem dL_law_394 : decode cL_law 394 = .ok (.aload_n 2, 1) := by decide +kernel
theorem dL_law_395 : decode cL_law 395 = .ok (.aload_n 0, 1) := by decide +kernel
theorem dL_law_396 : decode cL_law 396 = .ok (.iload_n 3, 1) := by decide +kernel
theorem dL_law_397 : decode cL_law 397 = .ok (.iconst 1, 1) := by decide +kernel
theorem dL_law_398 : decode cL_law 398 = .ok (.iadd, 1) := by decide +kernel
theorem dL_law_399 : decode cL_law 399 = .ok (.iaload, 1) := by decide +kernel
theorem dL_law_400 : decode cL_law 400 = .ok (.aload_n 0, 1) := by decide +kernel
theorem dL_law_401 : decode cL_law 401 = .ok (.iload_n 3, 1) := by decide +kernel
theorem dL_law_402 : decode cL_law 402 = .ok (.iconst 2, 1) := by decide +kernel
theorem dL_law_403 : decode cL_law 403 = .ok (.iadd, 1) := by decide +kernel
theorem dL_law_404 : decode cL_law 404 = .ok (.iaload, 1) := by decide +kernel
theorem dL_law_405 : decode cL_law 405 = .ok (.invokevirtual 49, 3) := by decide +kernel
theorem dL_law_408 : decode cL_law 408 = .ok (.pop, 1) := by decide +kernel
theorem dL_law_409 : decode cL_law 409 = .ok (.goto 544, 3) := by decide +kernel
theorem dL_law_412 : decode cL_law 412 = .ok (.aload_n 1, 1) := by decide +kernel
theorem dL_law_413 : decode cL_law 413 = .ok (.aload_n 0, 1) := by decide +kernel
theorem dL_law_414 : decode cL_law 414 = .ok (.iload_n 3, 1) := by decide +kernel
theorem dL_law_415 : decode cL_law 415 = .ok (.iconst 1, 1) := by decide +kernel
theorem dL_law_416 : decode cL_law 416 = .ok (.iadd, 1) := by decide +kernel
theorem dL_law_417 : decode cL_law 417 = .ok (.iaload, 1) := by decide +kernel
theorem dL_law_418 : decode cL_law 418 = .ok (.invokevirtual 50, 3) := by decide +kernel
theorem dL_law_421 : decode cL_law 421 = .ok (.pop, 1) := by decide +kernel
theorem dL_law_422 : decode cL_law 422 = .ok (.aload_n 2, 1) := by decide +kernel
theorem dL_law_423 : decode cL_law 423 = .ok (.aload_n 0, 1) := by decide +kernel
theorem dL_law_424 : decode cL_law 424 = .ok (.iload_n 3, 1) := by decide +kernel
theorem dL_law_425 : decode cL_law 425 = .ok (.iconst 1, 1) := by decide +kernel
theorem dL_law_426 : decode cL_law 426 = .ok (.iadd, 1) := by decide +kernel
theorem dL_law_427 : decode cL_law 427 = .ok (.iaload, 1) := by decide +kernel
theorem dL_law_428 : decode cL_law 428 = .ok (.invokevirtual 53, 3) := by decide +kernel
theorem dL_law_431 : decode cL_law 431 = .ok (.pop, 1) := by decide +kernel
theorem dL_law_432 : decode cL_law 432 = .ok (.goto 521, 3) := by decide +kernel
theorem dL_law_435 : decode cL_law 435 = .ok (.aload_n 1, 1) := by decide +kernel
theorem dL_law_436 : decode cL_law 436 = .ok (.aload_n 0, 1) := by decide +kernel
theorem dL_law_437 : decode cL_law 437 = .ok (.iload_n 3, 1) := by decide +kernel
theorem dL_law_438 : decode cL_law 438 = .ok (.iconst 1, 1) := by decide +kernel
theorem dL_law_439 : decode cL_law 439 = .ok (.iadd, 1) := by decide +kernel
theorem dL_law_440 : decode cL_law 440 = .ok (.iaload, 1) := by decide +kernel
theorem dL_law_441 : decode cL_law 441 = .ok (.aload_n 0, 1) := by decide +kernel
theorem dL_law_442 : decode cL_law 442 = .ok (.iload_n 3, 1) := by decide +kernel
theorem dL_law_443 : decode cL_law 443 = .ok (.iconst 2, 1) := by decide +kernel
theorem dL_law_444 : decode cL_law 444 = .ok (.iadd, 1) := by decide +kernel
theorem dL_law_445 : decode cL_law 445 = .ok (.iaload, 1) := by decide +kernel
theorem dL_law_446 : decode cL_law 446 = .ok (.invokevirtual 54, 3) := by decide +kernel
theorem dL_law_449 : decode cL_law 449 = .ok (.pop, 1) := by decide +kernel
theorem dL_law_450 : decode cL_law 450 = .ok (.aload_n 2, 1) := by decide +kernel
theorem dL_law_451 : decode cL_law 451 = .ok (.aload_n 0, 1) := by decide +kernel
theorem dL_law_452 : decode cL_law 452 = .ok (.iload_n 3, 1) := by decide +kernel
theorem dL_law_453 : decode cL_law 453 = .ok (.iconst 1, 1) := by decide +kernel
theorem dL_law_454 : decode cL_law 454 = .ok (.iadd, 1) := by decide +kernel
theorem dL_law_455 : decode cL_law 455 = .ok (.iaload, 1) := by decide +kernel
theorem dL_law_456 : decode cL_law 456 = .ok (.aload_n 0, 1) := by decide +kernel
theorem dL_law_457 : decode cL_law 457 = .ok (.iload_n 3, 1) := by decide +kernel
theorem dL_law_458 : decode cL_law 458 = .ok (.iconst 2, 1) := by decide +kernel
theorem dL_law_459 : decode cL_law 459 = .ok (.iadd, 1) := by decide +kernel
theorem dL_law_460 : decode cL_law 460 = .ok (.iaload, 1) := by decide +kernel
theorem dL_law_461 : decode cL_law 461 = .ok (.invokevirtual 57, 3) := by decide +kernel
theorem dL_law_464 : decode cL_law 464 = .ok (.pop, 1) := by decide +kernel
theorem dL_law_465 : decode cL_law 465 = .ok (.goto 488, 3) := by decide +kernel
theorem dL_law_468 : decode cL_law 468 = .ok (.aload_n 1, 1) := by decide +kernel
theorem dL_law_469 : decode cL_law 469 = .ok (.aload_n 0, 1) := by decide +kernel
theorem dL_law_470 : decode cL_law 470 = .ok (.iload_n 3, 1) := by decide +kernel
theorem dL_law_471 : decode cL_law 471 = .ok (.iconst 1, 1) := by decide +kernel
theorem dL_law_472 : decode cL_law 472 = .ok (.iadd, 1) := by decide +kernel
theorem dL_law_473 : decode cL_law 473 = .ok (.iaload, 1) := by decide +kernel
theorem dL_law_474 : decode cL_law 474 = .ok (.aload_n 0, 1) := by decide +kernel
theorem dL_law_475 : decode cL_law 475 = .ok (.iload_n 3, 1) := by decide +kernel
theorem dL_law_476 : decode cL_law 476 = .ok (.iconst 2, 1) := by decide +kernel
theorem dL_law_477 : decode cL_law 477 = .ok (.iadd, 1) := by decide +kernel
theorem dL_law_478 : decode cL_law 478 = .ok (.iaload, 1) := by decide +kernel
theorem dL_law_479 : decode cL_law 479 = .ok (.invokevirtual 58, 3) := by decide +kernel
theorem dL_law_482 : decode cL_law 482 = .ok (.pop, 1) := by decide +kernel
theorem dL_law_483 : decode cL_law 483 = .ok (.aload_n 2, 1) := by decide +kernel
theorem dL_law_484 : decode cL_law 484 = .ok (.aload_n 0, 1) := by decide +kernel
theorem dL_law_485 : decode cL_law 485 = .ok (.iload_n 3, 1) := by decide +kernel
theorem dL_law_486 : decode cL_law 486 = .ok (.iconst 1, 1) := by decide +kernel
theorem dL_law_487 : decode cL_law 487 = .ok (.iadd, 1) := by decide +kernel
theorem dL_law_488 : decode cL_law 488 = .ok (.iaload, 1) := by decide +kernel
theorem dL_law_489 : decode cL_law 489 = .ok (.aload_n 0, 1) := by decide +kernel
theorem dL_law_490 : decode cL_law 490 = .ok (.iload_n 3, 1) := by decide +kernel
theorem dL_law_491 : decode cL_law 491 = .ok (.iconst 2, 1) := by decide +kernel
theorem dL_law_492 : decode cL_law 492 = .ok (.iadd, 1) := by decide +kernel
theorem dL_law_493 : decode cL_law 493 = .ok (.iaload, 1) := by decide +kernel
theorem dL_law_494 : decode cL_law 494 = .ok (.invokevirtual 61, 3) := by decide +kernel
theorem dL_law_497 : decode cL_law 497 = .ok (.pop, 1) := by decide +kernel
theorem dL_law_498 : decode cL_law 498 = .ok (.goto 455, 3) := by decide +kernel
theorem dL_law_501 : decode cL_law 501 = .ok (.aload_n 1, 1) := by decide +kernel
theorem dL_law_502 : decode cL_law 502 = .ok (.aload_n 0, 1) := by decide +kernel
theorem dL_law_503 : decode cL_law 503 = .ok (.iload_n 3, 1) := by decide +kernel
theorem dL_law_504 : decode cL_law 504 = .ok (.iconst 1, 1) := by decide +kernel
theorem dL_law_505 : decode cL_law 505 = .ok (.iadd, 1) := by decide +kernel
theorem dL_law_506 : decode cL_law 506 = .ok (.iaload, 1) := by decide +kernel
theorem dL_law_507 : decode cL_law 507 = .ok (.aload_n 0, 1) := by decide +kernel
theorem dL_law_508 : decode cL_law 508 = .ok (.iload_n 3, 1) := by decide +kernel
theorem dL_law_509 : decode cL_law 509 = .ok (.iconst 2, 1) := by decide +kernel
theorem dL_law_510 : decode cL_law 510 = .ok (.iadd, 1) := by decide +kernel
theorem dL_law_511 : decode cL_law 511 = .ok (.iaload, 1) := by decide +kernel
theorem dL_law_512 : decode cL_law 512 = .ok (.aload_n 0, 1) := by decide +kernel
theorem dL_law_513 : decode cL_law 513 = .ok (.iload_n 3, 1) := by decide +kernel
theorem dL_law_514 : decode cL_law 514 = .ok (.iconst 3, 1) := by decide +kernel
theorem dL_law_515 : decode cL_law 515 = .ok (.iadd, 1) := by decide +kernel
theorem dL_law_516 : decode cL_law 516 = .ok (.iaload, 1) := by decide +kernel
theorem dL_law_517 : decode cL_law 517 = .ok (.invokevirtual 62, 3) := by decide +kernel
theorem dL_law_520 : decode cL_law 520 = .ok (.pop, 1) := by decide +kernel
theorem dL_law_521 : decode cL_law 521 = .ok (.aload_n 2, 1) := by decide +kernel
theorem dL_law_522 : decode cL_law 522 = .ok (.aload_n 0, 1) := by decide +kernel
theorem dL_law_523 : decode cL_law 523 = .ok (.iload_n 3, 1) := by decide +kernel
theorem dL_law_524 : decode cL_law 524 = .ok (.iconst 1, 1) := by decide +kernel
theorem dL_law_525 : decode cL_law 525 = .ok (.iadd, 1) := by decide +kernel
theorem dL_law_526 : decode cL_law 526 = .ok (.iaload, 1) := by decide +kernel
theorem dL_law_527 : decode cL_law 527 = .ok (.aload_n 0, 1) := by decide +kernel
theorem dL_law_528 : decode cL_law 528 = .ok (.iload_n 3, 1) := by decide +kernel
theorem dL_law_529 : decode cL_law 529 = .ok (.iconst 2, 1) := by decide +kernel
theorem dL_law_530 : decode cL_law 530 = .ok (.iadd, 1) := by decide +kernel
theorem dL_law_531 : decode cL_law 531 = .ok (.iaload, 1) := by decide +kernel
theorem dL_law_532 : decode cL_law 532 = .ok (.aload_n 0, 1) := by decide +kernel
theorem dL_law_533 : decode cL_law 533 = .ok (.iload_n 3, 1) := by decide +kernel
theorem dL_law_534 : decode cL_law 534 = .ok (.iconst 3, 1) := by decide +kernel
theorem dL_law_535 : decode cL_law 535 = .ok (.iadd, 1) := by decide +kernel
theorem dL_law_536 : decode cL_law 536 = .ok (.iaload, 1) := by decide +kernel
theorem dL_law_537 : decode cL_law 537 = .ok (.invokevirtual 65, 3) := by decide +kernel
theorem dL_law_540 : decode cL_law 540 = .ok (.pop, 1) := by decide +kernel
theorem dL_law_541 : decode cL_law 541 = .ok (.goto 412, 3) := by decide +kernel
theorem dL_law_544 : decode cL_law 544 = .ok (.aload_n 1, 1) := by decide +kernel
theorem dL_law_545 : decode cL_law 545 = .ok (.aload_n 0, 1) := by decide +kernel
theorem dL_law_546 : decode cL_law 546 = .ok (.iload_n 3, 1) := by decide +kernel
theorem dL_law_547 : decode cL_law 547 = .ok (.iconst 1, 1) := by decide +kernel
theorem dL_law_548 : decode cL_law 548 = .ok (.iadd, 1) := by decide +kernel
theorem dL_law_549 : decode cL_law 549 = .ok (.iaload, 1) := by decide +kernel
theorem dL_law_550 : decode cL_law 550 = .ok (.invokevirtual 66, 3) := by decide +kernel
theorem dL_law_553 : decode cL_law 553 = .ok (.pop, 1) := by decide +kernel
theorem dL_law_554 : decode cL_law 554 = .ok (.aload_n 2, 1) := by decide +kernel
theorem dL_law_555 : decode cL_law 555 = .ok (.aload_n 0, 1) := by decide +kernel
theorem dL_law_556 : decode cL_law 556 = .ok (.iload_n 3, 1) := by decide +kernel
theorem dL_law_557 : decode cL_law 557 = .ok (.iconst 1, 1) := by decide +kernel
theorem dL_law_558 : decode cL_law 558 = .ok (.iadd, 1) := by decide +kernel
theorem dL_law_559 : decode cL_law 559 = .ok (.iaload, 1) := by decide +kernel
theorem dL_law_560 : decode cL_law 560 = .ok (.invokevirtual 69, 3) := by decide +kernel
theorem dL_law_563 : decode cL_law 563 = .ok (.pop, 1) := by decide +kernel
theorem dL_law_564 : decode cL_law 564 = .ok (.goto 389, 3) := by decide +kernel
theorem dL_law_567 : decode cL_law 567 = .ok (.aload_n 1, 1) := by decide +kernel
theorem dL_law_568 : decode cL_law 568 = .ok (.aload_n 0, 1) := by decide +kernel
theorem dL_law_569 : decode cL_law 569 = .ok (.iload_n 3, 1) := by decide +kernel
theorem dL_law_570 : decode cL_law 570 = .ok (.iconst 1, 1) := by decide +kernel
theorem dL_law_571 : decode cL_law 571 = .ok (.iadd, 1) := by decide +kernel
theorem dL_law_572 : decode cL_law 572 = .ok (.iaload, 1) := by decide +kernel
theorem dL_law_573 : decode cL_law 573 = .ok (.invokevirtual 70, 3) := by decide +kernel
theorem dL_law_576 : decode cL_law 576 = .ok (.pop, 1) := by decide +kernel
theorem dL_law_577 : decode cL_law 577 = .ok (.aload_n 2, 1) := by decide +kernel
theorem dL_law_578 : decode cL_law 578 = .ok (.aload_n 0, 1) := by decide +kernel
theorem dL_law_579 : decode cL_law 579 = .ok (.iload_n 3, 1) := by decide +kernel
theorem dL_law_580 : decode cL_law 580 = .ok (.iconst 1, 1) := by decide +kernel
theorem dL_law_581 : decode cL_law 581 = .ok (.iadd, 1) := by decide +kernel
theorem dL_law_582 : decode cL_law 582 = .ok (.iaload, 1) := by decide +kernel
theorem dL_law_583 : decode cL_law 583 = .ok (.invokevirtual 73, 3) := by decide +kernel
theorem dL_law_586 : decode cL_law 586 = .ok (.pop, 1) := by decide +kernel
theorem dL_law_587 : decode cL_law 587 = .ok (.goto 366, 3) := by decide +kernel
theorem dL_law_590 : decode cL_law 590 = .ok (.aload_n 1, 1) := by decide +kernel
theorem dL_law_591 : decode cL_law 591 = .ok (.aload_n 0, 1) := by decide +kernel
theorem dL_law_592 : decode cL_law 592 = .ok (.iload_n 3, 1) := by decide +kernel
theorem dL_law_593 : decode cL_law 593 = .ok (.iconst 1, 1) := by decide +kernel
theorem dL_law_594 : decode cL_law 594 = .ok (.iadd, 1) := by decide +kernel
theorem dL_law_595 : decode cL_law 595 = .ok (.iaload, 1) := by decide +kernel
theorem dL_law_596 : decode cL_law 596 = .ok (.aload_n 0, 1) := by decide +kernel
theorem dL_law_597 : decode cL_law 597 = .ok (.iload_n 3, 1) := by decide +kernel
theorem dL_law_598 : decode cL_law 598 = .ok (.iconst 2, 1) := by decide +kernel
theorem dL_law_599 : decode cL_law 599 = .ok (.iadd, 1) := by decide +kernel
theorem dL_law_600 : decode cL_law 600 = .ok (.iaload, 1) := by decide +kernel
theorem dL_law_601 : decode cL_law 601 = .ok (.aload_n 0, 1) := by decide +kernel
theorem dL_law_602 : decode cL_law 602 = .ok (.iload_n 3, 1) := by decide +kernel
theorem dL_law_603 : decode cL_law 603 = .ok (.iconst 3, 1) := by decide +kernel
theorem dL_law_604 : decode cL_law 604 = .ok (.iadd, 1) := by decide +kernel
theorem dL_law_605 : decode cL_law 605 = .ok (.iaload, 1) := by decide +kernel
theorem dL_law_606 : decode cL_law 606 = .ok (.invokevirtual 74, 3) := by decide +kernel
theorem dL_law_609 : decode cL_law 609 = .ok (.pop, 1) := by decide +kernel
theorem dL_law_610 : decode cL_law 610 = .ok (.aload_n 2, 1) := by decide +kernel
theorem dL_law_611 : decode cL_law 611 = .ok (.aload_n 0, 1) := by decide +kernel
theorem dL_law_612 : decode cL_law 612 = .ok (.iload_n 3, 1) := by decide +kernel
theorem dL_law_613 : decode cL_law 613 = .ok (.iconst 1, 1) := by decide +kernel
theorem dL_law_614 : decode cL_law 614 = .ok (.iadd, 1) := by decide +kernel
theorem dL_law_615 : decode cL_law 615 = .ok (.iaload, 1) := by decide +kernel
theorem dL_law_616 : decode cL_law 616 = .ok (.aload_n 0, 1) := by decide +kernel
theorem dL_law_617 : decode cL_law 617 = .ok (.iload_n 3, 1) := by decide +kernel
theorem dL_law_618 : decode cL_law 618 = .ok (.iconst 2, 1) := by decide +kernel
theorem dL_law_619 : decode cL_law 619 = .ok (.iadd, 1) := by decide +kernel
theorem dL_law_620 : decode cL_law 620 = .ok (.iaload, 1) := by decide +kernel
theorem dL_law_621 : decode cL_law 621 = .ok (.aload_n 0, 1) := by decide +kernel
theorem dL_law_622 : decode cL_law 622 = .ok (.iload_n 3, 1) := by decide +kernel
theorem dL_law_623 : decode cL_law 623 = .ok (.iconst 3, 1) := by decide +kernel
theorem dL_law_624 : decode cL_law 624 = .ok (.iadd, 1) := by decide +kernel
theorem dL_law_625 : decode cL_law 625 = .ok (.iaload, 1) := by decide +kernel
theorem dL_law_626 : decode cL_law 626 = .ok (.invokevirtual 77, 3) := by decide +kernel
theorem dL_law_629 : decode cL_law 629 = .ok (.pop, 1) := by decide +kernel
theorem dL_law_630 : decode cL_law 630 = .ok (.goto 323, 3) := by decide +kernel
theorem dL_law_633 : decode cL_law 633 = .ok (.aload_n 1, 1) := by decide +kernel
theorem dL_law_634 : decode cL_law 634 = .ok (.aload_n 0, 1) := by decide +kernel
theorem dL_law_635 : decode cL_law 635 = .ok (.iload_n 3, 1) := by decide +kernel
theorem dL_law_636 : decode cL_law 636 = .ok (.iconst 1, 1) := by decide +kernel
theorem dL_law_637 : decode cL_law 637 = .ok (.iadd, 1) := by decide +kernel
theorem dL_law_638 : decode cL_law 638 = .ok (.iaload, 1) := by decide +kernel
theorem dL_law_639 : decode cL_law 639 = .ok (.aload_n 0, 1) := by decide +kernel
theorem dL_law_640 : decode cL_law 640 = .ok (.iload_n 3, 1) := by decide +kernel
theorem dL_law_641 : decode cL_law 641 = .ok (.iconst 2, 1) := by decide +kernel
theorem dL_law_642 : decode cL_law 642 = .ok (.iadd, 1) := by decide +kernel
theorem dL_law_643 : decode cL_law 643 = .ok (.iaload, 1) := by decide +kernel
theorem dL_law_644 : decode cL_law 644 = .ok (.aload_n 0, 1) := by decide +kernel
theorem dL_law_645 : decode cL_law 645 = .ok (.iload_n 3, 1) := by decide +kernel
theorem dL_law_646 : decode cL_law 646 = .ok (.iconst 3, 1) := by decide +kernel
theorem dL_law_647 : decode cL_law 647 = .ok (.iadd, 1) := by decide +kernel
theorem dL_law_648 : decode cL_law 648 = .ok (.iaload, 1) := by decide +kernel
theorem dL_law_649 : decode cL_law 649 = .ok (.invokevirtual 78, 3) := by decide +kernel
theorem dL_law_652 : decode cL_law 652 = .ok (.pop, 1) := by decide +kernel
theorem dL_law_653 : decode cL_law 653 = .ok (.aload_n 2, 1) := by decide +kernel
theorem dL_law_654 : decode cL_law 654 = .ok (.aload_n 0, 1) := by decide +kernel
theorem dL_law_655 : decode cL_law 655 = .ok (.iload_n 3, 1) := by decide +kernel
theorem dL_law_656 : decode cL_law 656 = .ok (.iconst 1, 1) := by decide +kernel
theorem dL_law_657 : decode cL_law 657 = .ok (.iadd, 1) := by decide +kernel
theorem dL_law_658 : decode cL_law 658 = .ok (.iaload, 1) := by decide +kernel
theorem dL_law_659 : decode cL_law 659 = .ok (.aload_n 0, 1) := by decide +kernel
theorem dL_law_660 : decode cL_law 660 = .ok (.iload_n 3, 1) := by decide +kernel
theorem dL_law_661 : decode cL_law 661 = .ok (.iconst 2, 1) := by decide +kernel
theorem dL_law_662 : decode cL_law 662 = .ok (.iadd, 1) := by decide +kernel
theorem dL_law_663 : decode cL_law 663 = .ok (.iaload, 1) := by decide +kernel
theorem dL_law_664 : decode cL_law 664 = .ok (.aload_n 0, 1) := by decide +kernel
theorem dL_law_665 : decode cL_law 665 = .ok (.iload_n 3, 1) := by decide +kernel
theorem dL_law_666 : decode cL_law 666 = .ok (.iconst 3, 1) := by decide +kernel
theorem dL_law_667 : decode cL_law 667 = .ok (.iadd, 1) := by decide +kernel
theorem dL_law_668 : decode cL_law 668 = .ok (.iaload, 1) := by decide +kernel
theorem dL_law_669 : decode cL_law 669 = .ok (.invokevirtual 81, 3) := by decide +kernel
theorem dL_law_672 : decode cL_law 672 = .ok (.pop, 1) := by decide +kernel
theorem dL_law_673 : decode cL_law 673 = .ok (.goto 280, 3) := by decide +kernel
theorem dL_law_676 : decode cL_law 676 = .ok (.aload_n 1, 1) := by decide +kernel
theorem dL_law_677 : decode cL_law 677 = .ok (.aload_n 0, 1) := by decide +kernel
theorem dL_law_678 : decode cL_law 678 = .ok (.iload_n 3, 1) := by decide +kernel
theorem dL_law_679 : decode cL_law 679 = .ok (.iconst 1, 1) := by decide +kernel
theorem dL_law_680 : decode cL_law 680 = .ok (.iadd, 1) := by decide +kernel
theorem dL_law_681 : decode cL_law 681 = .ok (.iaload, 1) := by decide +kernel
theorem dL_law_682 : decode cL_law 682 = .ok (.aload_n 0, 1) := by decide +kernel
theorem dL_law_683 : decode cL_law 683 = .ok (.iload_n 3, 1) := by decide +kernel
theorem dL_law_684 : decode cL_law 684 = .ok (.iconst 2, 1) := by decide +kernel
theorem dL_law_685 : decode cL_law 685 = .ok (.iadd, 1) := by decide +kernel
theorem dL_law_686 : decode cL_law 686 = .ok (.iaload, 1) := by decide +kernel
theorem dL_law_687 : decode cL_law 687 = .ok (.invokevirtual 82, 3) := by decide +kernel
theorem dL_law_690 : decode cL_law 690 = .ok (.pop, 1) := by decide +kernel
theorem dL_law_691 : decode cL_law 691 = .ok (.aload_n 2, 1) := by decide +kernel
theorem dL_law_692 : decode cL_law 692 = .ok (.aload_n 0, 1) := by decide +kernel
theorem dL_law_693 : decode cL_law 693 = .ok (.iload_n 3, 1) := by decide +kernel
theorem dL_law_694 : decode cL_law 694 = .ok (.iconst 1, 1) := by decide +kernel
theorem dL_law_695 : decode cL_law 695 = .ok (.iadd, 1) := by decide +kernel
theorem dL_law_696 : decode cL_law 696 = .ok (.iaload, 1) := by decide +kernel
theorem dL_law_697 : decode cL_law 697 = .ok (.aload_n 0, 1) := by decide +kernel
theorem dL_law_698 : decode cL_law 698 = .ok (.iload_n 3, 1) := by decide +kernel
theorem dL_law_699 : decode cL_law 699 = .ok (.iconst 2, 1) := by decide +kernel
theorem dL_law_700 : decode cL_law 700 = .ok (.iadd, 1) := by decide +kernel
theorem dL_law_701 : decode cL_law 701 = .ok (.iaload, 1) := by decide +kernel
theorem dL_law_702 : decode cL_law 702 = .ok (.invokevirtual 85, 3) := by decide +kernel
theorem dL_law_705 : decode cL_law 705 = .ok (.pop, 1) := by decide +kernel
theorem dL_law_706 : decode cL_law 706 = .ok (.goto 247, 3) := by decide +kernel
theorem dL_law_709 : decode cL_law 709 = .ok (.aload_n 1, 1) := by decide +kernel
theorem dL_law_710 : decode cL_law 710 = .ok (.aload_n 0, 1) := by decide +kernel
theorem dL_law_711 : decode cL_law 711 = .ok (.iload_n 3, 1) := by decide +kernel
theorem dL_law_712 : decode cL_law 712 = .ok (.iconst 1, 1) := by decide +kernel
theorem dL_law_713 : decode cL_law 713 = .ok (.iadd, 1) := by decide +kernel
theorem dL_law_714 : decode cL_law 714 = .ok (.iaload, 1) := by decide +kernel
theorem dL_law_715 : decode cL_law 715 = .ok (.aload_n 0, 1) := by decide +kernel
theorem dL_law_716 : decode cL_law 716 = .ok (.iload_n 3, 1) := by decide +kernel
theorem dL_law_717 : decode cL_law 717 = .ok (.iconst 2, 1) := by decide +kernel
theorem dL_law_718 : decode cL_law 718 = .ok (.iadd, 1) := by decide +kernel
theorem dL_law_719 : decode cL_law 719 = .ok (.iaload, 1) := by decide +kernel
theorem dL_law_720 : decode cL_law 720 = .ok (.invokevirtual 86, 3) := by decide +kernel
theorem dL_law_723 : decode cL_law 723 = .ok (.pop, 1) := by decide +kernel
theorem dL_law_724 : decode cL_law 724 = .ok (.aload_n 2, 1) := by decide +kernel
theorem dL_law_725 : decode cL_law 725 = .ok (.aload_n 0, 1) := by decide +kernel
theorem dL_law_726 : decode cL_law 726 = .ok (.iload_n 3, 1) := by decide +kernel
theorem dL_law_727 : decode cL_law 727 = .ok (.iconst 1, 1) := by decide +kernel
theorem dL_law_728 : decode cL_law 728 = .ok (.iadd, 1) := by decide +kernel
theorem dL_law_729 : decode cL_law 729 = .ok (.iaload, 1) := by decide +kernel
theorem dL_law_730 : decode cL_law 730 = .ok (.aload_n 0, 1) := by decide +kernel
theorem dL_law_731 : decode cL_law 731 = .ok (.iload_n 3, 1) := by decide +kernel
theorem dL_law_732 : decode cL_law 732 = .ok (.iconst 2, 1) := by decide +kernel
theorem dL_law_733 : decode cL_law 733 = .ok (.iadd, 1) := by decide +kernel
theorem dL_law_734 : decode cL_law 734 = .ok (.iaload, 1) := by decide +kernel
theorem dL_law_735 : decode cL_law 735 = .ok (.invokevirtual 89, 3) := by decide +kernel
theorem dL_law_738 : decode cL_law 738 = .ok (.pop, 1) := by decide +kernel
theorem dL_law_739 : decode cL_law 739 = .ok (.goto 214, 3) := by decide +kernel
theorem dL_law_742 : decode cL_law 742 = .ok (.aload_n 1, 1) := by decide +kernel
theorem dL_law_743 : decode cL_law 743 = .ok (.aload_n 0, 1) := by decide +kernel
theorem dL_law_744 : decode cL_law 744 = .ok (.iload_n 3, 1) := by decide +kernel
theorem dL_law_745 : decode cL_law 745 = .ok (.iconst 1, 1) := by decide +kernel
theorem dL_law_746 : decode cL_law 746 = .ok (.iadd, 1) := by decide +kernel
theorem dL_law_747 : decode cL_law 747 = .ok (.iaload, 1) := by decide +kernel
theorem dL_law_748 : decode cL_law 748 = .ok (.aload_n 0, 1) := by decide +kernel
theorem dL_law_749 : decode cL_law 749 = .ok (.iload_n 3, 1) := by decide +kernel
theorem dL_law_750 : decode cL_law 750 = .ok (.iconst 2, 1) := by decide +kernel
theorem dL_law_751 : decode cL_law 751 = .ok (.iadd, 1) := by decide +kernel
theorem dL_law_752 : decode cL_law 752 = .ok (.iaload, 1) := by decide +kernel
theorem dL_law_753 : decode cL_law 753 = .ok (.invokevirtual 90, 3) := by decide +kernel
theorem dL_law_756 : decode cL_law 756 = .ok (.pop, 1) := by decide +kernel
theorem dL_law_757 : decode cL_law 757 = .ok (.aload_n 2, 1) := by decide +kernel
theorem dL_law_758 : decode cL_law 758 = .ok (.aload_n 0, 1) := by decide +kernel
theorem dL_law_759 : decode cL_law 759 = .ok (.iload_n 3, 1) := by decide +kernel
theorem dL_law_760 : decode cL_law 760 = .ok (.iconst 1, 1) := by decide +kernel
theorem dL_law_761 : decode cL_law 761 = .ok (.iadd, 1) := by decide +kernel
theorem dL_law_762 : decode cL_law 762 = .ok (.iaload, 1) := by decide +kernel
theorem dL_law_763 : decode cL_law 763 = .ok (.aload_n 0, 1) := by decide +kernel
theorem dL_law_764 : decode cL_law 764 = .ok (.iload_n 3, 1) := by decide +kernel
theorem dL_law_765 : decode cL_law 765 = .ok (.iconst 2, 1) := by decide +kernel
theorem dL_law_766 : decode cL_law 766 = .ok (.iadd, 1) := by decide +kernel
theorem dL_law_767 : decode cL_law 767 = .ok (.iaload, 1) := by decide +kernel
theorem dL_law_768 : decode cL_law 768 = .ok (.invokevirtual 93, 3) := by decide +kernel
theorem dL_law_771 : decode cL_law 771 = .ok (.pop, 1) := by decide +kernel
theorem dL_law_772 : decode cL_law 772 = .ok (.goto 181, 3) := by decide +kernel
theorem dL_law_775 : decode cL_law 775 = .ok (.aload_n 1, 1) := by decide +kernel
theorem dL_law_776 : decode cL_law 776 = .ok (.aload_n 0, 1) := by decide +kernel
theorem dL_law_777 : decode cL_law 777 = .ok (.iload_n 3, 1) := by decide +kernel
theorem dL_law_778 : decode cL_law 778 = .ok (.iconst 1, 1) := by decide +kernel
theorem dL_law_779 : decode cL_law 779 = .ok (.iadd, 1) := by decide +kernel
theorem dL_law_780 : decode cL_law 780 = .ok (.iaload, 1) := by decide +kernel
theorem dL_law_781 : decode cL_law 781 = .ok (.aload_n 0, 1) := by decide +kernel
theorem dL_law_782 : decode cL_law 782 = .ok (.iload_n 3, 1) := by decide +kernel
theorem dL_law_783 : decode cL_law 783 = .ok (.iconst 2, 1) := by decide +kernel
theorem dL_law_784 : decode cL_law 784 = .ok (.iadd, 1) := by decide +kernel
theorem dL_law_785 : decode cL_law 785 = .ok (.iaload, 1) := by decide +kernel
theorem dL_law_786 : decode cL_law 786 = .ok (.invokevirtual 94, 3) := by decide +kernel
theorem dL_law_789 : decode cL_law 789 = .ok (.pop, 1) := by decide +kernel
theorem dL_law_790 : decode cL_law 790 = .ok (.aload_n 2, 1) := by decide +kernel
theorem dL_law_791 : decode cL_law 791 = .ok (.aload_n 0, 1) := by decide +kernel
theorem dL_law_792 : decode cL_law 792 = .ok (.iload_n 3, 1) := by decide +kernel
theorem dL_law_793 : decode cL_law 793 = .ok (.iconst 1, 1) := by decide +kernel
theorem dL_law_794 : decode cL_law 794 = .ok (.iadd, 1) := by decide +kernel
theorem dL_law_795 : decode cL_law 795 = .ok (.iaload, 1) := by decide +kernel
theorem dL_law_796 : decode cL_law 796 = .ok (.aload_n 0, 1) := by decide +kernel
theorem dL_law_797 : decode cL_law 797 = .ok (.iload_n 3, 1) := by decide +kernel
theorem dL_law_798 : decode cL_law 798 = .ok (.iconst 2, 1) := by decide +kernel
theorem dL_law_799 : decode cL_law 799 = .ok (.iadd, 1) := by decide +kernel
theorem dL_law_800 : decode cL_law 800 = .ok (.iaload, 1) := by decide +kernel
theorem dL_law_801 : decode cL_law 801 = .ok (.invokevirtual 97, 3) := by decide +kernel
theorem dL_law_804 : decode cL_law 804 = .ok (.pop, 1) := by decide +kernel
theorem dL_law_805 : decode cL_law 805 = .ok (.goto 148, 3) := by decide +kernel
theorem dL_law_808 : decode cL_law 808 = .ok (.aload_n 1, 1) := by decide +kernel
theorem dL_law_809 : decode cL_law 809 = .ok (.aload_n 0, 1) := by decide +kernel
theorem dL_law_810 : decode cL_law 810 = .ok (.iload_n 3, 1) := by decide +kernel
theorem dL_law_811 : decode cL_law 811 = .ok (.iconst 1, 1) := by decide +kernel
theorem dL_law_812 : decode cL_law 812 = .ok (.iadd, 1) := by decide +kernel
theorem dL_law_813 : decode cL_law 813 = .ok (.iaload, 1) := by decide +kernel
theorem dL_law_814 : decode cL_law 814 = .ok (.aload_n 0, 1) := by decide +kernel
theorem dL_law_815 : decode cL_law 815 = .ok (.iload_n 3, 1) := by decide +kernel
theorem dL_law_816 : decode cL_law 816 = .ok (.iconst 2, 1) := by decide +kernel
theorem dL_law_817 : decode cL_law 817 = .ok (.iadd, 1) := by decide +kernel
theorem dL_law_818 : decode cL_law 818 = .ok (.iaload, 1) := by decide +kernel
theorem dL_law_819 : decode cL_law 819 = .ok (.invokevirtual 98, 3) := by decide +kernel
theorem dL_law_822 : decode cL_law 822 = .ok (.pop, 1) := by decide +kernel
theorem dL_law_823 : decode cL_law 823 = .ok (.aload_n 2, 1) := by decide +kernel
theorem dL_law_824 : decode cL_law 824 = .ok (.aload_n 0, 1) := by decide +kernel
theorem dL_law_825 : decode cL_law 825 = .ok (.iload_n 3, 1) := by decide +kernel
theorem dL_law_826 : decode cL_law 826 = .ok (.iconst 1, 1) := by decide +kernel
theorem dL_law_827 : decode cL_law 827 = .ok (.iadd, 1) := by decide +kernel
theorem dL_law_828 : decode cL_law 828 = .ok (.iaload, 1) := by decide +kernel
theorem dL_law_829 : decode cL_law 829 = .ok (.aload_n 0, 1) := by decide +kernel
theorem dL_law_830 : decode cL_law 830 = .ok (.iload_n 3, 1) := by decide +kernel
theorem dL_law_831 : decode cL_law 831 = .ok (.iconst 2, 1) := by decide +kernel
theorem dL_law_832 : decode cL_law 832 = .ok (.iadd, 1) := by decide +kernel
theorem dL_law_833 : decode cL_law 833 = .ok (.iaload, 1) := by decide +kernel
theorem dL_law_834 : decode cL_law 834 = .ok (.invokevirtual 101, 3) := by decide +kernel
theorem dL_law_837 : decode cL_law 837 = .ok (.pop, 1) := by decide +kernel
theorem dL_law_838 : decode cL_law 838 = .ok (.goto 115, 3) := by decide +kernel
theorem dL_law_841 : decode cL_law 841 = .ok (.aload_n 1, 1) := by decide +kernel
theorem dL_law_842 : decode cL_law 842 = .ok (.aload_n 0, 1) := by decide +kernel
theorem dL_law_843 : decode cL_law 843 = .ok (.iload_n 3, 1) := by decide +kernel
theorem dL_law_844 : decode cL_law 844 = .ok (.iconst 1, 1) := by decide +kernel
theorem dL_law_845 : decode cL_law 845 = .ok (.iadd, 1) := by decide +kernel
theorem dL_law_846 : decode cL_law 846 = .ok (.iaload, 1) := by decide +kernel
theorem dL_law_847 : decode cL_law 847 = .ok (.aload_n 0, 1) := by decide +kernel
theorem dL_law_848 : decode cL_law 848 = .ok (.iload_n 3, 1) := by decide +kernel
theorem dL_law_849 : decode cL_law 849 = .ok (.iconst 2, 1) := by decide +kernel
theorem dL_law_850 : decode cL_law 850 = .ok (.iadd, 1) := by decide +kernel
theorem dL_law_851 : decode cL_law 851 = .ok (.iaload, 1) := by decide +kernel
theorem dL_law_852 : decode cL_law 852 = .ok (.invokevirtual 102, 3) := by decide +kernel
theorem dL_law_855 : decode cL_law 855 = .ok (.pop, 1) := by decide +kernel
theorem dL_law_856 : decode cL_law 856 = .ok (.aload_n 2, 1) := by decide +kernel
theorem dL_law_857 : decode cL_law 857 = .ok (.aload_n 0, 1) := by decide +kernel
theorem dL_law_858 : decode cL_law 858 = .ok (.iload_n 3, 1) := by decide +kernel
theorem dL_law_859 : decode cL_law 859 = .ok (.iconst 1, 1) := by decide +kernel
theorem dL_law_860 : decode cL_law 860 = .ok (.iadd, 1) := by decide +kernel
theorem dL_law_861 : decode cL_law 861 = .ok (.iaload, 1) := by decide +kernel
theorem dL_law_862 : decode cL_law 862 = .ok (.aload_n 0, 1) := by decide +kernel
theorem dL_law_863 : decode cL_law 863 = .ok (.iload_n 3, 1) := by decide +kernel
theorem dL_law_864 : decode cL_law 864 = .ok (.iconst 2, 1) := by decide +kernel
theorem dL_law_865 : decode cL_law 865 = .ok (.iadd, 1) := by decide +kernel
theorem dL_law_866 : decode cL_law 866 = .ok (.iaload, 1) := by decide +kernel
theorem dL_law_867 : decode cL_law 867 = .ok (.invokevirtual 105, 3) := by decide +kernel
theorem dL_law_870 : decode cL_law 870 = .ok (.pop, 1) := by decide +kernel
theorem dL_law_871 : decode cL_law 871 = .ok (.goto 82, 3) := by decide +kernel
theorem dL_law_874 : decode cL_law 874 = .ok (.aload_n 1, 1) := by decide +kernel
theorem dL_law_875 : decode cL_law 875 = .ok (.aload_n 0, 1) := by decide +kernel
theorem dL_law_876 : decode cL_law 876 = .ok (.iload_n 3, 1) := by decide +kernel
theorem dL_law_877 : decode cL_law 877 = .ok (.iconst 1, 1) := by decide +kernel
theorem dL_law_878 : decode cL_law 878 = .ok (.iadd, 1) := by decide +kernel
theorem dL_law_879 : decode cL_law 879 = .ok (.iaload, 1) := by decide +kernel
theorem dL_law_880 : decode cL_law 880 = .ok (.aload_n 0, 1) := by decide +kernel
theorem dL_law_881 : decode cL_law 881 = .ok (.iload_n 3, 1) := by decide +kernel
theorem dL_law_882 : decode cL_law 882 = .ok (.iconst 2, 1) := by decide +kernel
theorem dL_law_883 : decode cL_law 883 = .ok (.iadd, 1) := by decide +kernel
theorem dL_law_884 : decode cL_law 884 = .ok (.iaload, 1) := by decide +kernel
theorem dL_law_885 : decode cL_law 885 = .ok (.aload_n 0, 1) := by decide +kernel
theorem dL_law_886 : decode cL_law 886 = .ok (.iload_n 3, 1) := by decide +kernel
theorem dL_law_887 : decode cL_law 887 = .ok (.iconst 3, 1) := by decide +kernel
theorem dL_law_888 : decode cL_law 888 = .ok (.iadd, 1) := by decide +kernel
theorem dL_law_889 : decode cL_law 889 = .ok (.iaload, 1) := by decide +kernel
theorem dL_law_890 : decode cL_law 890 = .ok (.invokevirtual 106, 3) := by decide +kernel
theorem dL_law_893 : decode cL_law 893 = .ok (.pop, 1) := by decide +kernel
theorem dL_law_894 : decode cL_law 894 = .ok (.aload_n 2, 1) := by decide +kernel
theorem dL_law_895 : decode cL_law 895 = .ok (.aload_n 0, 1) := by decide +kernel
theorem dL_law_896 : decode cL_law 896 = .ok (.iload_n 3, 1) := by decide +kernel
theorem dL_law_897 : decode cL_law 897 = .ok (.iconst 1, 1) := by decide +kernel
theorem dL_law_898 : decode cL_law 898 = .ok (.iadd, 1) := by decide +kernel
theorem dL_law_899 : decode cL_law 899 = .ok (.iaload, 1) := by decide +kernel
theorem dL_law_900 : decode cL_law 900 = .ok (.aload_n 0, 1) := by decide +kernel
theorem dL_law_901 : decode cL_law 901 = .ok (.iload_n 3, 1) := by decide +kernel
theorem dL_law_902 : decode cL_law 902 = .ok (.iconst 2, 1) := by decide +kernel
theorem dL_law_903 : decode cL_law 903 = .ok (.iadd, 1) := by decide +kernel
theorem dL_law_904 : decode cL_law 904 = .ok (.iaload, 1) := by decide +kernel
theorem dL_law_905 : decode cL_law 905 = .ok (.aload_n 0, 1) := by decide +kernel
theorem dL_law_906 : decode cL_law 906 = .ok (.iload_n 3, 1) := by decide +kernel
theorem dL_law_907 : decode cL_law 907 = .ok (.iconst 3, 1) := by decide +kernel
theorem dL_law_908 : decode cL_law 908 = .ok (.iadd, 1) := by decide +kernel
theorem dL_law_909 : decode cL_law 909 = .ok (.iaload, 1) := by decide +kernel
theorem dL_law_910 : decode cL_law 910 = .ok (.invokevirtual 109, 3) := by decide +kernel
theorem dL_law_913 : decode cL_law 913 = .ok (.pop, 1) := by decide +kernel
theorem dL_law_914 : decode cL_law 914 = .ok (.goto 39, 3) := by decide +kernel
theorem dL_law_917 : decode cL_law 917 = .ok (.aload_n 1, 1) := by decide +kernel
theorem dL_law_918 : decode cL_law 918 = .ok (.invokevirtual 110, 3) := by decide +kernel
theorem dL_law_921 : decode cL_law 921 = .ok (.pop, 1) := by decide +kernel
theorem dL_law_922 : decode cL_law 922 = .ok (.aload_n 2, 1) := by decide +kernel
theorem dL_law_923 : decode cL_law 923 = .ok (.invokevirtual 113, 3) := by decide +kernel
theorem dL_law_926 : decode cL_law 926 = .ok (.pop, 1) := by decide +kernel
theorem dL_law_927 : decode cL_law 927 = .ok (.goto 26, 3) := by decide +kernel
theorem dL_law_930 : decode cL_law 930 = .ok (.aload_n 1, 1) := by decide +kernel
theorem dL_law_931 : decode cL_law 931 = .ok (.aload_n 0, 1) := by decide +kernel
theorem dL_law_932 : decode cL_law 932 = .ok (.iload_n 3, 1) := by decide +kernel
theorem dL_law_933 : decode cL_law 933 = .ok (.iconst 1, 1) := by decide +kernel
theorem dL_law_934 : decode cL_law 934 = .ok (.iadd, 1) := by decide +kernel
theorem dL_law_935 : decode cL_law 935 = .ok (.iaload, 1) := by decide +kernel
theorem dL_law_936 : decode cL_law 936 = .ok (.invokevirtual 114, 3) := by decide +kernel
theorem dL_law_939 : decode cL_law 939 = .ok (.pop, 1) := by decide +kernel
theorem dL_law_940 : decode cL_law 940 = .ok (.aload_n 2, 1) := by decide +kernel
theorem dL_law_941 : decode cL_law 941 = .ok (.aload_n 0, 1) := by decide +kernel
theorem dL_law_942 : decode cL_law 942 = .ok (.iload_n 3, 1) := by decide +kernel
theorem dL_law_943 : decode cL_law 943 = .ok (.iconst 1, 1) := by decide +kernel
theorem dL_law_944 : decode cL_law 944 = .ok (.iadd, 1) := by decide +kernel
theorem dL_law_945 : decode cL_law 945 = .ok (.iaload, 1) := by decide +kernel
theorem dL_law_946 : decode cL_law 946 = .ok (.invokevirtual 117, 3) := by decide +kernel
theorem dL_law_949 : decode cL_law 949 = .ok (.pop, 1) := by decide +kernel
theorem dL_law_950 : decode cL_law 950 = .ok (.goto 3, 3) := by decide +kernel
theorem dL_law_953 : decode cL_law 953 = .ok (.iinc 3 6, 3) := by decide +kernel
theorem dL_law_956 : decode cL_law 956 = .ok (.goto (-938), 3) := by decide +kernel
theorem dL_law_959 : decode cL_law 959 = .ok (.iconst 1, 1) := by decide +kernel
theorem dL_law_960 : decode cL_law 960 = .ok (.ireturn, 1) := by decide +kernel

