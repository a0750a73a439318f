theorem dJ6_bitCount_0f7a4_0 : decode cJ6_bitCount_0f7a4 0 = .ok (.iload_n 0, 1) := by decide +kernel
theorem dJ6_bitCount_0f7a4_1 : decode cJ6_bitCount_0f7a4 1 = .ok (.iload_n 0, 1) := by decide +kernel
theorem dJ6_bitCount_0f7a4_2 : decode cJ6_bitCount_0f7a4 2 = .ok (.iconst 1, 1) := by decide +kernel
theorem dJ6_bitCount_0f7a4_3 : decode cJ6_bitCount_0f7a4 3 = .ok (.iushr, 1) := by decide +kernel
theorem dJ6_bitCount_0f7a4_4 : decode cJ6_bitCount_0f7a4 4 = .ok (.ldc_w 265, 3) := by decide +kernel
theorem dJ6_bitCount_0f7a4_7 : decode cJ6_bitCount_0f7a4 7 = .ok (.iand, 1) := by decide +kernel
theorem dJ6_bitCount_0f7a4_8 : decode cJ6_bitCount_0f7a4 8 = .ok (.isub, 1) := by decide +kernel
theorem dJ6_bitCount_0f7a4_9 : decode cJ6_bitCount_0f7a4 9 = .ok (.istore_n 0, 1) := by decide +kernel
theorem dJ6_bitCount_0f7a4_10 : decode cJ6_bitCount_0f7a4 10 = .ok (.iload_n 0, 1) := by decide +kernel
theorem dJ6_bitCount_0f7a4_11 : decode cJ6_bitCount_0f7a4 11 = .ok (.ldc_w 266, 3) := by decide +kernel
theorem dJ6_bitCount_0f7a4_14 : decode cJ6_bitCount_0f7a4 14 = .ok (.iand, 1) := by decide +kernel
theorem dJ6_bitCount_0f7a4_15 : decode cJ6_bitCount_0f7a4 15 = .ok (.iload_n 0, 1) := by decide +kernel
theorem dJ6_bitCount_0f7a4_16 : decode cJ6_bitCount_0f7a4 16 = .ok (.iconst 2, 1) := by decide +kernel
theorem dJ6_bitCount_0f7a4_17 : decode cJ6_bitCount_0f7a4 17 = .ok (.iushr, 1) := by decide +kernel
theorem dJ6_bitCount_0f7a4_18 : decode cJ6_bitCount_0f7a4 18 = .ok (.ldc_w 266, 3) := by decide +kernel
theorem dJ6_bitCount_0f7a4_21 : decode cJ6_bitCount_0f7a4 21 = .ok (.iand, 1) := by decide +kernel
theorem dJ6_bitCount_0f7a4_22 : decode cJ6_bitCount_0f7a4 22 = .ok (.iadd, 1) := by decide +kernel
theorem dJ6_bitCount_0f7a4_23 : decode cJ6_bitCount_0f7a4 23 = .ok (.istore_n 0, 1) := by decide +kernel
theorem dJ6_bitCount_0f7a4_24 : decode cJ6_bitCount_0f7a4 24 = .ok (.iload_n 0, 1) := by decide +kernel
theorem dJ6_bitCount_0f7a4_25 : decode cJ6_bitCount_0f7a4 25 = .ok (.iload_n 0, 1) := by decide +kernel
theorem dJ6_bitCount_0f7a4_26 : decode cJ6_bitCount_0f7a4 26 = .ok (.iconst 4, 1) := by decide +kernel
theorem dJ6_bitCount_0f7a4_27 : decode cJ6_bitCount_0f7a4 27 = .ok (.iushr, 1) := by decide +kernel
theorem dJ6_bitCount_0f7a4_28 : decode cJ6_bitCount_0f7a4 28 = .ok (.iadd, 1) := by decide +kernel
theorem dJ6_bitCount_0f7a4_29 : decode cJ6_bitCount_0f7a4 29 = .ok (.ldc_w 267, 3) := by decide +kernel
theorem dJ6_bitCount_0f7a4_32 : decode cJ6_bitCount_0f7a4 32 = .ok (.iand, 1) := by decide +kernel
theorem dJ6_bitCount_0f7a4_33 : decode cJ6_bitCount_0f7a4 33 = .ok (.istore_n 0, 1) := by decide +kernel
theorem dJ6_bitCount_0f7a4_34 : decode cJ6_bitCount_0f7a4 34 = .ok (.iload_n 0, 1) := by decide +kernel
theorem dJ6_bitCount_0f7a4_35 : decode cJ6_bitCount_0f7a4 35 = .ok (.iload_n 0, 1) := by decide +kernel
theorem dJ6_bitCount_0f7a4_36 : decode cJ6_bitCount_0f7a4 36 = .ok (.bipush 8, 2) := by decide +kernel
theorem dJ6_bitCount_0f7a4_38 : decode cJ6_bitCount_0f7a4 38 = .ok (.iushr, 1) := by decide +kernel
theorem dJ6_bitCount_0f7a4_39 : decode cJ6_bitCount_0f7a4 39 = .ok (.iadd, 1) := by decide +kernel
theorem dJ6_bitCount_0f7a4_40 : decode cJ6_bitCount_0f7a4 40 = .ok (.istore_n 0, 1) := by decide +kernel
theorem dJ6_bitCount_0f7a4_41 : decode cJ6_bitCount_0f7a4 41 = .ok (.iload_n 0, 1) := by decide +kernel
theorem dJ6_bitCount_0f7a4_42 : decode cJ6_bitCount_0f7a4 42 = .ok (.iload_n 0, 1) := by decide +kernel
theorem dJ6_bitCount_0f7a4_43 : decode cJ6_bitCount_0f7a4 43 = .ok (.bipush 16, 2) := by decide +kernel
theorem dJ6_bitCount_0f7a4_45 : decode cJ6_bitCount_0f7a4 45 = .ok (.iushr, 1) := by decide +kernel
theorem dJ6_bitCount_0f7a4_46 : decode cJ6_bitCount_0f7a4 46 = .ok (.iadd, 1) := by decide +kernel
theorem dJ6_bitCount_0f7a4_47 : decode cJ6_bitCount_0f7a4 47 = .ok (.istore_n 0, 1) := by decide +kernel
theorem dJ6_bitCount_0f7a4_48 : decode cJ6_bitCount_0f7a4 48 = .ok (.iload_n 0, 1) := by decide +kernel
theorem dJ6_bitCount_0f7a4_49 : decode cJ6_bitCount_0f7a4 49 = .ok (.bipush 63, 2) := by decide +kernel
theorem dJ6_bitCount_0f7a4_51 : decode cJ6_bitCount_0f7a4 51 = .ok (.iand, 1) := by decide +kernel
theorem dJ6_bitCount_0f7a4_52 : decode cJ6_bitCount_0f7a4 52 = .ok (.ireturn, 1) := by decide +kernel
theorem dX10_all_0 : decode cX10_all 0 = .ok (.iconst 1, 1) := by decide +kernel
theorem dX10_all_1 : decode cX10_all 1 = .ok (.aload_n 0, 1) := by decide +kernel
theorem dX10_all_2 : decode cX10_all 2 = .ok (.getfield 28, 3) := by decide +kernel
theorem dX10_all_5 : decode cX10_all 5 = .ok (.ishl, 1) := by decide +kernel
theorem dX10_all_6 : decode cX10_all 6 = .ok (.iconst 1, 1) := by decide +kernel
theorem dX10_all_7 : decode cX10_all 7 = .ok (.isub, 1) := by decide +kernel
theorem dX10_all_8 : decode cX10_all 8 = .ok (.ireturn, 1) := by decide +kernel
theorem dX10_isClosed_0 : decode cX10_isClosed 0 = .ok (.iconst 0, 1) := by decide +kernel
theorem dX10_isClosed_1 : decode cX10_isClosed 1 = .ok (.istore_n 2, 1) := by decide +kernel
theorem dX10_isClosed_2 : decode cX10_isClosed 2 = .ok (.iload_n 2, 1) := by decide +kernel
theorem dX10_isClosed_3 : decode cX10_isClosed 3 = .ok (.aload_n 0, 1) := by decide +kernel
theorem dX10_isClosed_4 : decode cX10_isClosed 4 = .ok (.getfield 28, 3) := by decide +kernel
theorem dX10_isClosed_7 : decode cX10_isClosed 7 = .ok (.if_icmp .ge 32, 3) := by decide +kernel
theorem dX10_isClosed_10 : decode cX10_isClosed 10 = .ok (.iload_n 1, 1) := by decide +kernel
theorem dX10_isClosed_11 : decode cX10_isClosed 11 = .ok (.iload_n 2, 1) := by decide +kernel
theorem dX10_isClosed_12 : decode cX10_isClosed 12 = .ok (.ishr, 1) := by decide +kernel
theorem dX10_isClosed_13 : decode cX10_isClosed 13 = .ok (.iconst 1, 1) := by decide +kernel
theorem dX10_isClosed_14 : decode cX10_isClosed 14 = .ok (.iand, 1) := by decide +kernel
theorem dX10_isClosed_15 : decode cX10_isClosed 15 = .ok (.ifCond .eq 18, 3) := by decide +kernel
theorem dX10_isClosed_18 : decode cX10_isClosed 18 = .ok (.aload_n 0, 1) := by decide +kernel
theorem dX10_isClosed_19 : decode cX10_isClosed 19 = .ok (.getfield 15, 3) := by decide +kernel
theorem dX10_isClosed_22 : decode cX10_isClosed 22 = .ok (.iload_n 2, 1) := by decide +kernel
theorem dX10_isClosed_23 : decode cX10_isClosed 23 = .ok (.iaload, 1) := by decide +kernel
theorem dX10_isClosed_24 : decode cX10_isClosed 24 = .ok (.iload_n 1, 1) := by decide +kernel
theorem dX10_isClosed_25 : decode cX10_isClosed 25 = .ok (.iconst (-1), 1) := by decide +kernel
theorem dX10_isClosed_26 : decode cX10_isClosed 26 = .ok (.ixor, 1) := by decide +kernel
theorem dX10_isClosed_27 : decode cX10_isClosed 27 = .ok (.iand, 1) := by decide +kernel
theorem dX10_isClosed_28 : decode cX10_isClosed 28 = .ok (.ifCond .eq 5, 3) := by decide +kernel
theorem dX10_isClosed_31 : decode cX10_isClosed 31 = .ok (.iconst 0, 1) := by decide +kernel
theorem dX10_isClosed_32 : decode cX10_isClosed 32 = .ok (.ireturn, 1) := by decide +kernel
theorem dX10_isClosed_33 : decode cX10_isClosed 33 = .ok (.iinc 2 1, 3) := by decide +kernel
theorem dX10_isClosed_36 : decode cX10_isClosed 36 = .ok (.goto (-34), 3) := by decide +kernel
theorem dX10_isClosed_39 : decode cX10_isClosed 39 = .ok (.iconst 1, 1) := by decide +kernel
theorem dX10_isClosed_40 : decode cX10_isClosed 40 = .ok (.ireturn, 1) := by decide +kernel
theorem dX10_neededBy_0 : decode cX10_neededBy 0 = .ok (.iconst 0, 1) := by decide +kernel
theorem dX10_neededBy_1 : decode cX10_neededBy 1 = .ok (.istore_n 2, 1) := by decide +kernel
theorem dX10_neededBy_2 : decode cX10_neededBy 2 = .ok (.iconst 0, 1) := by decide +kernel
theorem dX10_neededBy_3 : decode cX10_neededBy 3 = .ok (.istore_n 3, 1) := by decide +kernel
theorem dX10_neededBy_4 : decode cX10_neededBy 4 = .ok (.iload_n 3, 1) := by decide +kernel
theorem dX10_neededBy_5 : decode cX10_neededBy 5 = .ok (.aload_n 0, 1) := by decide +kernel
theorem dX10_neededBy_6 : decode cX10_neededBy 6 = .ok (.getfield 28, 3) := by decide +kernel
theorem dX10_neededBy_9 : decode cX10_neededBy 9 = .ok (.if_icmp .ge 26, 3) := by decide +kernel
theorem dX10_neededBy_12 : decode cX10_neededBy 12 = .ok (.iload_n 1, 1) := by decide +kernel
theorem dX10_neededBy_13 : decode cX10_neededBy 13 = .ok (.iload_n 3, 1) := by decide +kernel
theorem dX10_neededBy_14 : decode cX10_neededBy 14 = .ok (.ishr, 1) := by decide +kernel
theorem dX10_neededBy_15 : decode cX10_neededBy 15 = .ok (.iconst 1, 1) := by decide +kernel
theorem dX10_neededBy_16 : decode cX10_neededBy 16 = .ok (.iand, 1) := by decide +kernel
theorem dX10_neededBy_17 : decode cX10_neededBy 17 = .ok (.ifCond .eq 12, 3) := by decide +kernel
theorem dX10_neededBy_20 : decode cX10_neededBy 20 = .ok (.iload_n 2, 1) := by decide +kernel
theorem dX10_neededBy_21 : decode cX10_neededBy 21 = .ok (.aload_n 0, 1) := by decide +kernel
theorem dX10_neededBy_22 : decode cX10_neededBy 22 = .ok (.getfield 9, 3) := by decide +kernel
theorem dX10_neededBy_25 : decode cX10_neededBy 25 = .ok (.iload_n 3, 1) := by decide +kernel
theorem dX10_neededBy_26 : decode cX10_neededBy 26 = .ok (.iaload, 1) := by decide +kernel
theorem dX10_neededBy_27 : decode cX10_neededBy 27 = .ok (.ior, 1) := by decide +kernel
theorem dX10_neededBy_28 : decode cX10_neededBy 28 = .ok (.istore_n 2, 1) := by decide +kernel
theorem dX10_neededBy_29 : decode cX10_neededBy 29 = .ok (.iinc 3 1, 3) := by decide +kernel
theorem dX10_neededBy_32 : decode cX10_neededBy 32 = .ok (.goto (-28), 3) := by decide +kernel
theorem dX10_neededBy_35 : decode cX10_neededBy 35 = .ok (.iload_n 2, 1) := by decide +kernel
theorem dX10_neededBy_36 : decode cX10_neededBy 36 = .ok (.ireturn, 1) := by decide +kernel
theorem dX5_sum_0 : decode cX5_sum 0 = .ok (.aload_n 0, 1) := by decide +kernel
theorem dX5_sum_1 : decode cX5_sum 1 = .ok (.getfield 9, 3) := by decide +kernel
theorem dX5_sum_4 : decode cX5_sum 4 = .ok (.iload_n 1, 1) := by decide +kernel
theorem dX5_sum_5 : decode cX5_sum 5 = .ok (.bipush 31, 2) := by decide +kernel
theorem dX5_sum_7 : decode cX5_sum 7 = .ok (.iand, 1) := by decide +kernel
theorem dX5_sum_8 : decode cX5_sum 8 = .ok (.iaload, 1) := by decide +kernel
theorem dX5_sum_9 : decode cX5_sum 9 = .ok (.aload_n 0, 1) := by decide +kernel
theorem dX5_sum_10 : decode cX5_sum 10 = .ok (.getfield 13, 3) := by decide +kernel
theorem dX5_sum_13 : decode cX5_sum 13 = .ok (.iload_n 1, 1) := by decide +kernel
theorem dX5_sum_14 : decode cX5_sum 14 = .ok (.iconst 5, 1) := by decide +kernel
theorem dX5_sum_15 : decode cX5_sum 15 = .ok (.ishr, 1) := by decide +kernel
theorem dX5_sum_16 : decode cX5_sum 16 = .ok (.bipush 31, 2) := by decide +kernel
theorem dX5_sum_18 : decode cX5_sum 18 = .ok (.iand, 1) := by decide +kernel
theorem dX5_sum_19 : decode cX5_sum 19 = .ok (.iaload, 1) := by decide +kernel
theorem dX5_sum_20 : decode cX5_sum 20 = .ok (.iadd, 1) := by decide +kernel
theorem dX5_sum_21 : decode cX5_sum 21 = .ok (.ireturn, 1) := by decide +kernel
theorem dX0_fillCrossings_0 : decode cX0_fillCrossings 0 = .ok (.iconst 0, 1) := by decide +kernel
theorem dX0_fillCrossings_1 : decode cX0_fillCrossings 1 = .ok (.istore_n 1, 1) := by decide +kernel
theorem dX0_fillCrossings_2 : decode cX0_fillCrossings 2 = .ok (.iload_n 1, 1) := by decide +kernel
theorem dX0_fillCrossings_3 : decode cX0_fillCrossings 3 = .ok (.aload_n 0, 1) := by decide +kernel
theorem dX0_fillCrossings_4 : decode cX0_fillCrossings 4 = .ok (.getfield 22, 3) := by decide +kernel
theorem dX0_fillCrossings_7 : decode cX0_fillCrossings 7 = .ok (.getfield 35, 3) := by decide +kernel
theorem dX0_fillCrossings_10 : decode cX0_fillCrossings 10 = .ok (.if_icmp .gt 17, 3) := by decide +kernel
theorem dX0_fillCrossings_13 : decode cX0_fillCrossings 13 = .ok (.aload_n 0, 1) := by decide +kernel
theorem dX0_fillCrossings_14 : decode cX0_fillCrossings 14 = .ok (.getfield 9, 3) := by decide +kernel
theorem dX0_fillCrossings_17 : decode cX0_fillCrossings 17 = .ok (.iload_n 1, 1) := by decide +kernel
theorem dX0_fillCrossings_18 : decode cX0_fillCrossings 18 = .ok (.ldc 44, 2) := by decide +kernel
theorem dX0_fillCrossings_20 : decode cX0_fillCrossings 20 = .ok (.iastore, 1) := by decide +kernel
theorem dX0_fillCrossings_21 : decode cX0_fillCrossings 21 = .ok (.iinc 1 1, 3) := by decide +kernel
theorem dX0_fillCrossings_24 : decode cX0_fillCrossings 24 = .ok (.goto (-22), 3) := by decide +kernel
theorem dX0_fillCrossings_27 : decode cX0_fillCrossings 27 = .ok (.aload_n 0, 1) := by decide +kernel
theorem dX0_fillCrossings_28 : decode cX0_fillCrossings 28 = .ok (.getfield 22, 3) := by decide +kernel
theorem dX0_fillCrossings_31 : decode cX0_fillCrossings 31 = .ok (.invokevirtual 45, 3) := by decide +kernel
theorem dX0_fillCrossings_34 : decode cX0_fillCrossings 34 = .ok (.istore_n 1, 1) := by decide +kernel
theorem dX0_fillCrossings_35 : decode cX0_fillCrossings 35 = .ok (.iconst 0, 1) := by decide +kernel
theorem dX0_fillCrossings_36 : decode cX0_fillCrossings 36 = .ok (.istore_n 2, 1) := by decide +kernel
theorem dX0_fillCrossings_37 : decode cX0_fillCrossings 37 = .ok (.iload_n 2, 1) := by decide +kernel
theorem dX0_fillCrossings_38 : decode cX0_fillCrossings 38 = .ok (.iload_n 1, 1) := by decide +kernel
theorem dX0_fillCrossings_39 : decode cX0_fillCrossings 39 = .ok (.if_icmp .gt 75, 3) := by decide +kernel
theorem dX0_fillCrossings_42 : decode cX0_fillCrossings 42 = .ok (.aload_n 0, 1) := by decide +kernel
theorem dX0_fillCrossings_43 : decode cX0_fillCrossings 43 = .ok (.getfield 22, 3) := by decide +kernel
theorem dX0_fillCrossings_46 : decode cX0_fillCrossings 46 = .ok (.iload_n 2, 1) := by decide +kernel
theorem dX0_fillCrossings_47 : decode cX0_fillCrossings 47 = .ok (.invokevirtual 49, 3) := by decide +kernel
theorem dX0_fillCrossings_50 : decode cX0_fillCrossings 50 = .ok (.ifCond .eq 58, 3) := by decide +kernel
theorem dX0_fillCrossings_53 : decode cX0_fillCrossings 53 = .ok (.iload_n 2, 1) := by decide +kernel
theorem dX0_fillCrossings_54 : decode cX0_fillCrossings 54 = .ok (.invokestatic 53, 3) := by decide +kernel
theorem dX0_fillCrossings_57 : decode cX0_fillCrossings 57 = .ok (.istore_n 3, 1) := by decide +kernel
theorem dX0_fillCrossings_58 : decode cX0_fillCrossings 58 = .ok (.aload_n 0, 1) := by decide +kernel
theorem dX0_fillCrossings_59 : decode cX0_fillCrossings 59 = .ok (.getfield 22, 3) := by decide +kernel
theorem dX0_fillCrossings_62 : decode cX0_fillCrossings 62 = .ok (.iload_n 2, 1) := by decide +kernel
theorem dX0_fillCrossings_63 : decode cX0_fillCrossings 63 = .ok (.invokevirtual 59, 3) := by decide +kernel
theorem dX0_fillCrossings_66 : decode cX0_fillCrossings 66 = .ok (.aload_n 0, 1) := by decide +kernel
theorem dX0_fillCrossings_67 : decode cX0_fillCrossings 67 = .ok (.getfield 22, 3) := by decide +kernel
theorem dX0_fillCrossings_70 : decode cX0_fillCrossings 70 = .ok (.iload_n 1, 1) := by decide +kernel
theorem dX0_fillCrossings_71 : decode cX0_fillCrossings 71 = .ok (.iload_n 2, 1) := by decide +kernel
theorem dX0_fillCrossings_72 : decode cX0_fillCrossings 72 = .ok (.iconst (-1), 1) := by decide +kernel
theorem dX0_fillCrossings_73 : decode cX0_fillCrossings 73 = .ok (.ixor, 1) := by decide +kernel
theorem dX0_fillCrossings_74 : decode cX0_fillCrossings 74 = .ok (.iand, 1) := by decide +kernel
theorem dX0_fillCrossings_75 : decode cX0_fillCrossings 75 = .ok (.invokevirtual 59, 3) := by decide +kernel
theorem dX0_fillCrossings_78 : decode cX0_fillCrossings 78 = .ok (.iand, 1) := by decide +kernel
theorem dX0_fillCrossings_79 : decode cX0_fillCrossings 79 = .ok (.istore 4, 2) := by decide +kernel
theorem dX0_fillCrossings_81 : decode cX0_fillCrossings 81 = .ok (.aload_n 0, 1) := by decide +kernel
theorem dX0_fillCrossings_82 : decode cX0_fillCrossings 82 = .ok (.getfield 9, 3) := by decide +kernel
theorem dX0_fillCrossings_85 : decode cX0_fillCrossings 85 = .ok (.iload_n 3, 1) := by decide +kernel
theorem dX0_fillCrossings_86 : decode cX0_fillCrossings 86 = .ok (.aload_n 0, 1) := by decide +kernel
theorem dX0_fillCrossings_87 : decode cX0_fillCrossings 87 = .ok (.getfield 9, 3) := by decide +kernel
theorem dX0_fillCrossings_90 : decode cX0_fillCrossings 90 = .ok (.iload_n 3, 1) := by decide +kernel
theorem dX0_fillCrossings_91 : decode cX0_fillCrossings 91 = .ok (.iaload, 1) := by decide +kernel
theorem dX0_fillCrossings_92 : decode cX0_fillCrossings 92 = .ok (.aload_n 0, 1) := by decide +kernel
theorem dX0_fillCrossings_93 : decode cX0_fillCrossings 93 = .ok (.getfield 22, 3) := by decide +kernel
theorem dX0_fillCrossings_96 : decode cX0_fillCrossings 96 = .ok (.getfield 62, 3) := by decide +kernel
theorem dX0_fillCrossings_99 : decode cX0_fillCrossings 99 = .ok (.iload 4, 2) := by decide +kernel
theorem dX0_fillCrossings_101 : decode cX0_fillCrossings 101 = .ok (.invokevirtual 66, 3) := by decide +kernel
theorem dX0_fillCrossings_104 : decode cX0_fillCrossings 104 = .ok (.invokestatic 71, 3) := by decide +kernel
theorem dX0_fillCrossings_107 : decode cX0_fillCrossings 107 = .ok (.iastore, 1) := by decide +kernel
theorem dX0_fillCrossings_108 : decode cX0_fillCrossings 108 = .ok (.iinc 2 1, 3) := by decide +kernel
theorem dX0_fillCrossings_111 : decode cX0_fillCrossings 111 = .ok (.goto (-74), 3) := by decide +kernel
theorem dX0_fillCrossings_114 : decode cX0_fillCrossings 114 = .ok (.return_, 1) := by decide +kernel
theorem dX0_fillJoined_0 : decode cX0_fillJoined 0 = .ok (.iconst 0, 1) := by decide +kernel
theorem dX0_fillJoined_1 : decode cX0_fillJoined 1 = .ok (.istore_n 1, 1) := by decide +kernel
theorem dX0_fillJoined_2 : decode cX0_fillJoined 2 = .ok (.iload_n 1, 1) := by decide +kernel
theorem dX0_fillJoined_3 : decode cX0_fillJoined 3 = .ok (.bipush 10, 2) := by decide +kernel
theorem dX0_fillJoined_5 : decode cX0_fillJoined 5 = .ok (.if_icmp .ge 69, 3) := by decide +kernel
theorem dX0_fillJoined_8 : decode cX0_fillJoined 8 = .ok (.aload_n 0, 1) := by decide +kernel
theorem dX0_fillJoined_9 : decode cX0_fillJoined 9 = .ok (.getfield 15, 3) := by decide +kernel
theorem dX0_fillJoined_12 : decode cX0_fillJoined 12 = .ok (.iload_n 1, 1) := by decide +kernel
theorem dX0_fillJoined_13 : decode cX0_fillJoined 13 = .ok (.iconst 0, 1) := by decide +kernel
theorem dX0_fillJoined_14 : decode cX0_fillJoined 14 = .ok (.iastore, 1) := by decide +kernel
theorem dX0_fillJoined_15 : decode cX0_fillJoined 15 = .ok (.iconst 0, 1) := by decide +kernel
theorem dX0_fillJoined_16 : decode cX0_fillJoined 16 = .ok (.istore_n 2, 1) := by decide +kernel
theorem dX0_fillJoined_17 : decode cX0_fillJoined 17 = .ok (.iload_n 2, 1) := by decide +kernel
theorem dX0_fillJoined_18 : decode cX0_fillJoined 18 = .ok (.aload_n 0, 1) := by decide +kernel
theorem dX0_fillJoined_19 : decode cX0_fillJoined 19 = .ok (.getfield 22, 3) := by decide +kernel
theorem dX0_fillJoined_22 : decode cX0_fillJoined 22 = .ok (.getfield 35, 3) := by decide +kernel
theorem dX0_fillJoined_25 : decode cX0_fillJoined 25 = .ok (.if_icmp .ge 43, 3) := by decide +kernel
theorem dX0_fillJoined_28 : decode cX0_fillJoined 28 = .ok (.aload_n 0, 1) := by decide +kernel
theorem dX0_fillJoined_29 : decode cX0_fillJoined 29 = .ok (.getfield 22, 3) := by decide +kernel
theorem dX0_fillJoined_32 : decode cX0_fillJoined 32 = .ok (.getfield 86, 3) := by decide +kernel
theorem dX0_fillJoined_35 : decode cX0_fillJoined 35 = .ok (.iload_n 2, 1) := by decide +kernel
theorem dX0_fillJoined_36 : decode cX0_fillJoined 36 = .ok (.iaload, 1) := by decide +kernel
theorem dX0_fillJoined_37 : decode cX0_fillJoined 37 = .ok (.iload_n 1, 1) := by decide +kernel
theorem dX0_fillJoined_38 : decode cX0_fillJoined 38 = .ok (.ishr, 1) := by decide +kernel
theorem dX0_fillJoined_39 : decode cX0_fillJoined 39 = .ok (.iconst 1, 1) := by decide +kernel
theorem dX0_fillJoined_40 : decode cX0_fillJoined 40 = .ok (.iand, 1) := by decide +kernel
theorem dX0_fillJoined_41 : decode cX0_fillJoined 41 = .ok (.ifCond .eq 21, 3) := by decide +kernel
theorem dX0_fillJoined_44 : decode cX0_fillJoined 44 = .ok (.aload_n 0, 1) := by decide +kernel
theorem dX0_fillJoined_45 : decode cX0_fillJoined 45 = .ok (.getfield 15, 3) := by decide +kernel
theorem dX0_fillJoined_48 : decode cX0_fillJoined 48 = .ok (.iload_n 1, 1) := by decide +kernel
theorem dX0_fillJoined_49 : decode cX0_fillJoined 49 = .ok (.dup2, 1) := by decide +kernel
theorem dX0_fillJoined_50 : decode cX0_fillJoined 50 = .ok (.iaload, 1) := by decide +kernel
theorem dX0_fillJoined_51 : decode cX0_fillJoined 51 = .ok (.aload_n 0, 1) := by decide +kernel
theorem dX0_fillJoined_52 : decode cX0_fillJoined 52 = .ok (.getfield 22, 3) := by decide +kernel
theorem dX0_fillJoined_55 : decode cX0_fillJoined 55 = .ok (.getfield 86, 3) := by decide +kernel
theorem dX0_fillJoined_58 : decode cX0_fillJoined 58 = .ok (.iload_n 2, 1) := by decide +kernel
theorem dX0_fillJoined_59 : decode cX0_fillJoined 59 = .ok (.iaload, 1) := by decide +kernel
theorem dX0_fillJoined_60 : decode cX0_fillJoined 60 = .ok (.ior, 1) := by decide +kernel
theorem dX0_fillJoined_61 : decode cX0_fillJoined 61 = .ok (.iastore, 1) := by decide +kernel
theorem dX0_fillJoined_62 : decode cX0_fillJoined 62 = .ok (.iinc 2 1, 3) := by decide +kernel
theorem dX0_fillJoined_65 : decode cX0_fillJoined 65 = .ok (.goto (-48), 3) := by decide +kernel
theorem dX0_fillJoined_68 : decode cX0_fillJoined 68 = .ok (.iinc 1 1, 3) := by decide +kernel
theorem dX0_fillJoined_71 : decode cX0_fillJoined 71 = .ok (.goto (-69), 3) := by decide +kernel
theorem dX0_fillJoined_74 : decode cX0_fillJoined 74 = .ok (.return_, 1) := by decide +kernel
theorem dX0_isKnot_0 : decode cX0_isKnot 0 = .ok (.iconst 0, 1) := by decide +kernel
theorem dX0_isKnot_1 : decode cX0_isKnot 1 = .ok (.istore_n 2, 1) := by decide +kernel
theorem dX0_isKnot_2 : decode cX0_isKnot 2 = .ok (.iload_n 2, 1) := by decide +kernel
theorem dX0_isKnot_3 : decode cX0_isKnot 3 = .ok (.bipush 10, 2) := by decide +kernel
theorem dX0_isKnot_5 : decode cX0_isKnot 5 = .ok (.if_icmp .ge 32, 3) := by decide +kernel
theorem dX0_isKnot_8 : decode cX0_isKnot 8 = .ok (.iload_n 1, 1) := by decide +kernel
theorem dX0_isKnot_9 : decode cX0_isKnot 9 = .ok (.iload_n 2, 1) := by decide +kernel
theorem dX0_isKnot_10 : decode cX0_isKnot 10 = .ok (.ishr, 1) := by decide +kernel
theorem dX0_isKnot_11 : decode cX0_isKnot 11 = .ok (.iconst 1, 1) := by decide +kernel
theorem dX0_isKnot_12 : decode cX0_isKnot 12 = .ok (.iand, 1) := by decide +kernel
theorem dX0_isKnot_13 : decode cX0_isKnot 13 = .ok (.ifCond .eq 18, 3) := by decide +kernel
theorem dX0_isKnot_16 : decode cX0_isKnot 16 = .ok (.iload_n 1, 1) := by decide +kernel
theorem dX0_isKnot_17 : decode cX0_isKnot 17 = .ok (.aload_n 0, 1) := by decide +kernel
theorem dX0_isKnot_18 : decode cX0_isKnot 18 = .ok (.getfield 15, 3) := by decide +kernel
theorem dX0_isKnot_21 : decode cX0_isKnot 21 = .ok (.iload_n 2, 1) := by decide +kernel
theorem dX0_isKnot_22 : decode cX0_isKnot 22 = .ok (.iaload, 1) := by decide +kernel
theorem dX0_isKnot_23 : decode cX0_isKnot 23 = .ok (.iconst (-1), 1) := by decide +kernel
theorem dX0_isKnot_24 : decode cX0_isKnot 24 = .ok (.ixor, 1) := by decide +kernel
theorem dX0_isKnot_25 : decode cX0_isKnot 25 = .ok (.iand, 1) := by decide +kernel
theorem dX0_isKnot_26 : decode cX0_isKnot 26 = .ok (.ifCond .eq 5, 3) := by decide +kernel
theorem dX0_isKnot_29 : decode cX0_isKnot 29 = .ok (.iconst 0, 1) := by decide +kernel
theorem dX0_isKnot_30 : decode cX0_isKnot 30 = .ok (.ireturn, 1) := by decide +kernel
theorem dX0_isKnot_31 : decode cX0_isKnot 31 = .ok (.iinc 2 1, 3) := by decide +kernel
theorem dX0_isKnot_34 : decode cX0_isKnot 34 = .ok (.goto (-32), 3) := by decide +kernel
theorem dX0_isKnot_37 : decode cX0_isKnot 37 = .ok (.iconst 1, 1) := by decide +kernel
theorem dX0_isKnot_38 : decode cX0_isKnot 38 = .ok (.ireturn, 1) := by decide +kernel
theorem dX0_findKnot_0 : decode cX0_findKnot 0 = .ok (.aload_n 0, 1) := by decide +kernel
theorem dX0_findKnot_1 : decode cX0_findKnot 1 = .ok (.invokevirtual 74, 3) := by decide +kernel
theorem dX0_findKnot_4 : decode cX0_findKnot 4 = .ok (.aload_n 0, 1) := by decide +kernel
theorem dX0_findKnot_5 : decode cX0_findKnot 5 = .ok (.getfield 22, 3) := by decide +kernel
theorem dX0_findKnot_8 : decode cX0_findKnot 8 = .ok (.aload_n 0, 1) := by decide +kernel
theorem dX0_findKnot_9 : decode cX0_findKnot 9 = .ok (.getfield 22, 3) := by decide +kernel
theorem dX0_findKnot_12 : decode cX0_findKnot 12 = .ok (.invokevirtual 45, 3) := by decide +kernel
theorem dX0_findKnot_15 : decode cX0_findKnot 15 = .ok (.invokevirtual 59, 3) := by decide +kernel
theorem dX0_findKnot_18 : decode cX0_findKnot 18 = .ok (.istore_n 1, 1) := by decide +kernel
theorem dX0_findKnot_19 : decode cX0_findKnot 19 = .ok (.aload_n 0, 1) := by decide +kernel
theorem dX0_findKnot_20 : decode cX0_findKnot 20 = .ok (.iconst 0, 1) := by decide +kernel
theorem dX0_findKnot_21 : decode cX0_findKnot 21 = .ok (.putfield 77, 3) := by decide +kernel
theorem dX0_findKnot_24 : decode cX0_findKnot 24 = .ok (.aload_n 0, 1) := by decide +kernel
theorem dX0_findKnot_25 : decode cX0_findKnot 25 = .ok (.iconst 0, 1) := by decide +kernel
theorem dX0_findKnot_26 : decode cX0_findKnot 26 = .ok (.putfield 80, 3) := by decide +kernel
theorem dX0_findKnot_29 : decode cX0_findKnot 29 = .ok (.iconst 1, 1) := by decide +kernel
theorem dX0_findKnot_30 : decode cX0_findKnot 30 = .ok (.istore_n 2, 1) := by decide +kernel
theorem dX0_findKnot_31 : decode cX0_findKnot 31 = .ok (.iload_n 2, 1) := by decide +kernel
theorem dX0_findKnot_32 : decode cX0_findKnot 32 = .ok (.iload_n 1, 1) := by decide +kernel
theorem dX0_findKnot_33 : decode cX0_findKnot 33 = .ok (.if_icmp .gt 63, 3) := by decide +kernel
theorem dX0_findKnot_36 : decode cX0_findKnot 36 = .ok (.iload_n 2, 1) := by decide +kernel
theorem dX0_findKnot_37 : decode cX0_findKnot 37 = .ok (.iload_n 1, 1) := by decide +kernel
theorem dX0_findKnot_38 : decode cX0_findKnot 38 = .ok (.iconst (-1), 1) := by decide +kernel
theorem dX0_findKnot_39 : decode cX0_findKnot 39 = .ok (.ixor, 1) := by decide +kernel
theorem dX0_findKnot_40 : decode cX0_findKnot 40 = .ok (.iand, 1) := by decide +kernel
theorem dX0_findKnot_41 : decode cX0_findKnot 41 = .ok (.ifCond .ne 49, 3) := by decide +kernel
theorem dX0_findKnot_44 : decode cX0_findKnot 44 = .ok (.aload_n 0, 1) := by decide +kernel
theorem dX0_findKnot_45 : decode cX0_findKnot 45 = .ok (.getfield 22, 3) := by decide +kernel
theorem dX0_findKnot_48 : decode cX0_findKnot 48 = .ok (.getfield 62, 3) := by decide +kernel
theorem dX0_findKnot_51 : decode cX0_findKnot 51 = .ok (.iload_n 2, 1) := by decide +kernel
theorem dX0_findKnot_52 : decode cX0_findKnot 52 = .ok (.invokevirtual 66, 3) := by decide +kernel
theorem dX0_findKnot_55 : decode cX0_findKnot 55 = .ok (.aload_n 0, 1) := by decide +kernel
theorem dX0_findKnot_56 : decode cX0_findKnot 56 = .ok (.getfield 80, 3) := by decide +kernel
theorem dX0_findKnot_59 : decode cX0_findKnot 59 = .ok (.if_icmp .le 31, 3) := by decide +kernel
theorem dX0_findKnot_62 : decode cX0_findKnot 62 = .ok (.aload_n 0, 1) := by decide +kernel
theorem dX0_findKnot_63 : decode cX0_findKnot 63 = .ok (.iload_n 2, 1) := by decide +kernel
theorem dX0_findKnot_64 : decode cX0_findKnot 64 = .ok (.invokevirtual 83, 3) := by decide +kernel
theorem dX0_findKnot_67 : decode cX0_findKnot 67 = .ok (.ifCond .eq 23, 3) := by decide +kernel
theorem dX0_findKnot_70 : decode cX0_findKnot 70 = .ok (.aload_n 0, 1) := by decide +kernel
theorem dX0_findKnot_71 : decode cX0_findKnot 71 = .ok (.iload_n 2, 1) := by decide +kernel
theorem dX0_findKnot_72 : decode cX0_findKnot 72 = .ok (.putfield 77, 3) := by decide +kernel
theorem dX0_findKnot_75 : decode cX0_findKnot 75 = .ok (.aload_n 0, 1) := by decide +kernel
theorem dX0_findKnot_76 : decode cX0_findKnot 76 = .ok (.aload_n 0, 1) := by decide +kernel
theorem dX0_findKnot_77 : decode cX0_findKnot 77 = .ok (.getfield 22, 3) := by decide +kernel
theorem dX0_findKnot_80 : decode cX0_findKnot 80 = .ok (.getfield 62, 3) := by decide +kernel
theorem dX0_findKnot_83 : decode cX0_findKnot 83 = .ok (.iload_n 2, 1) := by decide +kernel
theorem dX0_findKnot_84 : decode cX0_findKnot 84 = .ok (.invokevirtual 66, 3) := by decide +kernel
theorem dX0_findKnot_87 : decode cX0_findKnot 87 = .ok (.putfield 80, 3) := by decide +kernel
theorem dX0_findKnot_90 : decode cX0_findKnot 90 = .ok (.iinc 2 1, 3) := by decide +kernel
theorem dX0_findKnot_93 : decode cX0_findKnot 93 = .ok (.goto (-62), 3) := by decide +kernel
theorem dX0_findKnot_96 : decode cX0_findKnot 96 = .ok (.return_, 1) := by decide +kernel
theorem dX0_refresh_0 : decode cX0_refresh 0 = .ok (.aload_n 0, 1) := by decide +kernel
theorem dX0_refresh_1 : decode cX0_refresh 1 = .ok (.getfield 18, 3) := by decide +kernel
theorem dX0_refresh_4 : decode cX0_refresh 4 = .ok (.aload_n 0, 1) := by decide +kernel
theorem dX0_refresh_5 : decode cX0_refresh 5 = .ok (.getfield 22, 3) := by decide +kernel
theorem dX0_refresh_8 : decode cX0_refresh 8 = .ok (.getfield 26, 3) := by decide +kernel
theorem dX0_refresh_11 : decode cX0_refresh 11 = .ok (.if_icmp .eq 22, 3) := by decide +kernel
theorem dX0_refresh_14 : decode cX0_refresh 14 = .ok (.aload_n 0, 1) := by decide +kernel
theorem dX0_refresh_15 : decode cX0_refresh 15 = .ok (.invokevirtual 29, 3) := by decide +kernel
theorem dX0_refresh_18 : decode cX0_refresh 18 = .ok (.aload_n 0, 1) := by decide +kernel
theorem dX0_refresh_19 : decode cX0_refresh 19 = .ok (.invokevirtual 32, 3) := by decide +kernel
theorem dX0_refresh_22 : decode cX0_refresh 22 = .ok (.aload_n 0, 1) := by decide +kernel
theorem dX0_refresh_23 : decode cX0_refresh 23 = .ok (.aload_n 0, 1) := by decide +kernel
theorem dX0_refresh_24 : decode cX0_refresh 24 = .ok (.getfield 22, 3) := by decide +kernel
theorem dX0_refresh_27 : decode cX0_refresh 27 = .ok (.getfield 26, 3) := by decide +kernel
theorem dX0_refresh_30 : decode cX0_refresh 30 = .ok (.putfield 18, 3) := by decide +kernel
theorem dX0_refresh_33 : decode cX0_refresh 33 = .ok (.return_, 1) := by decide +kernel
theorem dX0_greatestCross_0 : decode cX0_greatestCross 0 = .ok (.iconst 0, 1) := by decide +kernel
theorem dX0_greatestCross_1 : decode cX0_greatestCross 1 = .ok (.istore_n 1, 1) := by decide +kernel
theorem dX0_greatestCross_2 : decode cX0_greatestCross 2 = .ok (.iconst 0, 1) := by decide +kernel
theorem dX0_greatestCross_3 : decode cX0_greatestCross 3 = .ok (.istore_n 2, 1) := by decide +kernel
theorem dX0_greatestCross_4 : decode cX0_greatestCross 4 = .ok (.iload_n 2, 1) := by decide +kernel
theorem dX0_greatestCross_5 : decode cX0_greatestCross 5 = .ok (.aload_n 0, 1) := by decide +kernel
theorem dX0_greatestCross_6 : decode cX0_greatestCross 6 = .ok (.getfield 22, 3) := by decide +kernel
theorem dX0_greatestCross_9 : decode cX0_greatestCross 9 = .ok (.getfield 35, 3) := by decide +kernel
theorem dX0_greatestCross_12 : decode cX0_greatestCross 12 = .ok (.if_icmp .gt 20, 3) := by decide +kernel
theorem dX0_greatestCross_15 : decode cX0_greatestCross 15 = .ok (.iload_n 1, 1) := by decide +kernel
theorem dX0_greatestCross_16 : decode cX0_greatestCross 16 = .ok (.aload_n 0, 1) := by decide +kernel
theorem dX0_greatestCross_17 : decode cX0_greatestCross 17 = .ok (.getfield 9, 3) := by decide +kernel
theorem dX0_greatestCross_20 : decode cX0_greatestCross 20 = .ok (.iload_n 2, 1) := by decide +kernel
theorem dX0_greatestCross_21 : decode cX0_greatestCross 21 = .ok (.iaload, 1) := by decide +kernel
theorem dX0_greatestCross_22 : decode cX0_greatestCross 22 = .ok (.invokestatic 38, 3) := by decide +kernel
theorem dX0_greatestCross_25 : decode cX0_greatestCross 25 = .ok (.istore_n 1, 1) := by decide +kernel
theorem dX0_greatestCross_26 : decode cX0_greatestCross 26 = .ok (.iinc 2 1, 3) := by decide +kernel
theorem dX0_greatestCross_29 : decode cX0_greatestCross 29 = .ok (.goto (-25), 3) := by decide +kernel
theorem dX0_greatestCross_32 : decode cX0_greatestCross 32 = .ok (.iload_n 1, 1) := by decide +kernel
theorem dX0_greatestCross_33 : decode cX0_greatestCross 33 = .ok (.ireturn, 1) := by decide +kernel
theorem dX0_leastOfPart_0 : decode cX0_leastOfPart 0 = .ok (.iload_n 1, 1) := by decide +kernel
theorem dX0_leastOfPart_1 : decode cX0_leastOfPart 1 = .ok (.istore_n 2, 1) := by decide +kernel
theorem dX0_leastOfPart_2 : decode cX0_leastOfPart 2 = .ok (.aload_n 0, 1) := by decide +kernel
theorem dX0_leastOfPart_3 : decode cX0_leastOfPart 3 = .ok (.getfield 22, 3) := by decide +kernel
theorem dX0_leastOfPart_6 : decode cX0_leastOfPart 6 = .ok (.getfield 86, 3) := by decide +kernel
theorem dX0_leastOfPart_9 : decode cX0_leastOfPart 9 = .ok (.iload_n 1, 1) := by decide +kernel
theorem dX0_leastOfPart_10 : decode cX0_leastOfPart 10 = .ok (.iaload, 1) := by decide +kernel
theorem dX0_leastOfPart_11 : decode cX0_leastOfPart 11 = .ok (.istore_n 3, 1) := by decide +kernel
theorem dX0_leastOfPart_12 : decode cX0_leastOfPart 12 = .ok (.iconst 0, 1) := by decide +kernel
theorem dX0_leastOfPart_13 : decode cX0_leastOfPart 13 = .ok (.istore 4, 2) := by decide +kernel
theorem dX0_leastOfPart_15 : decode cX0_leastOfPart 15 = .ok (.iload 4, 2) := by decide +kernel
theorem dX0_leastOfPart_17 : decode cX0_leastOfPart 17 = .ok (.aload_n 0, 1) := by decide +kernel
theorem dX0_leastOfPart_18 : decode cX0_leastOfPart 18 = .ok (.getfield 22, 3) := by decide +kernel
theorem dX0_leastOfPart_21 : decode cX0_leastOfPart 21 = .ok (.getfield 35, 3) := by decide +kernel
theorem dX0_leastOfPart_24 : decode cX0_leastOfPart 24 = .ok (.if_icmp .ge 65, 3) := by decide +kernel
theorem dX0_leastOfPart_27 : decode cX0_leastOfPart 27 = .ok (.iconst 0, 1) := by decide +kernel
theorem dX0_leastOfPart_28 : decode cX0_leastOfPart 28 = .ok (.istore 5, 2) := by decide +kernel
theorem dX0_leastOfPart_30 : decode cX0_leastOfPart 30 = .ok (.iload 5, 2) := by decide +kernel
theorem dX0_leastOfPart_32 : decode cX0_leastOfPart 32 = .ok (.aload_n 0, 1) := by decide +kernel
theorem dX0_leastOfPart_33 : decode cX0_leastOfPart 33 = .ok (.getfield 22, 3) := by decide +kernel
theorem dX0_leastOfPart_36 : decode cX0_leastOfPart 36 = .ok (.getfield 35, 3) := by decide +kernel
theorem dX0_leastOfPart_39 : decode cX0_leastOfPart 39 = .ok (.if_icmp .ge 44, 3) := by decide +kernel
theorem dX0_leastOfPart_42 : decode cX0_leastOfPart 42 = .ok (.aload_n 0, 1) := by decide +kernel
theorem dX0_leastOfPart_43 : decode cX0_leastOfPart 43 = .ok (.getfield 22, 3) := by decide +kernel
theorem dX0_leastOfPart_46 : decode cX0_leastOfPart 46 = .ok (.getfield 86, 3) := by decide +kernel
theorem dX0_leastOfPart_49 : decode cX0_leastOfPart 49 = .ok (.iload 5, 2) := by decide +kernel
theorem dX0_leastOfPart_51 : decode cX0_leastOfPart 51 = .ok (.iaload, 1) := by decide +kernel
theorem dX0_leastOfPart_52 : decode cX0_leastOfPart 52 = .ok (.iload_n 3, 1) := by decide +kernel
theorem dX0_leastOfPart_53 : decode cX0_leastOfPart 53 = .ok (.iand, 1) := by decide +kernel
theorem dX0_leastOfPart_54 : decode cX0_leastOfPart 54 = .ok (.ifCond .eq 23, 3) := by decide +kernel
theorem dX0_leastOfPart_57 : decode cX0_leastOfPart 57 = .ok (.iload_n 3, 1) := by decide +kernel
theorem dX0_leastOfPart_58 : decode cX0_leastOfPart 58 = .ok (.aload_n 0, 1) := by decide +kernel
theorem dX0_leastOfPart_59 : decode cX0_leastOfPart 59 = .ok (.getfield 22, 3) := by decide +kernel
theorem dX0_leastOfPart_62 : decode cX0_leastOfPart 62 = .ok (.getfield 86, 3) := by decide +kernel
theorem dX0_leastOfPart_65 : decode cX0_leastOfPart 65 = .ok (.iload 5, 2) := by decide +kernel
theorem dX0_leastOfPart_67 : decode cX0_leastOfPart 67 = .ok (.iaload, 1) := by decide +kernel
theorem dX0_leastOfPart_68 : decode cX0_leastOfPart 68 = .ok (.ior, 1) := by decide +kernel
theorem dX0_leastOfPart_69 : decode cX0_leastOfPart 69 = .ok (.istore_n 3, 1) := by decide +kernel
theorem dX0_leastOfPart_70 : decode cX0_leastOfPart 70 = .ok (.iload_n 2, 1) := by decide +kernel
theorem dX0_leastOfPart_71 : decode cX0_leastOfPart 71 = .ok (.iload 5, 2) := by decide +kernel
theorem dX0_leastOfPart_73 : decode cX0_leastOfPart 73 = .ok (.invokestatic 71, 3) := by decide +kernel
theorem dX0_leastOfPart_76 : decode cX0_leastOfPart 76 = .ok (.istore_n 2, 1) := by decide +kernel
theorem dX0_leastOfPart_77 : decode cX0_leastOfPart 77 = .ok (.iinc 5 1, 3) := by decide +kernel
theorem dX0_leastOfPart_80 : decode cX0_leastOfPart 80 = .ok (.goto (-50), 3) := by decide +kernel
theorem dX0_leastOfPart_83 : decode cX0_leastOfPart 83 = .ok (.iinc 4 1, 3) := by decide +kernel
theorem dX0_leastOfPart_86 : decode cX0_leastOfPart 86 = .ok (.goto (-71), 3) := by decide +kernel
theorem dX0_leastOfPart_89 : decode cX0_leastOfPart 89 = .ok (.iload_n 2, 1) := by decide +kernel
theorem dX0_leastOfPart_90 : decode cX0_leastOfPart 90 = .ok (.ireturn, 1) := by decide +kernel
theorem dX0_countParts_0 : decode cX0_countParts 0 = .ok (.iconst 0, 1) := by decide +kernel
theorem dX0_countParts_1 : decode cX0_countParts 1 = .ok (.istore_n 1, 1) := by decide +kernel
theorem dX0_countParts_2 : decode cX0_countParts 2 = .ok (.iconst 0, 1) := by decide +kernel
theorem dX0_countParts_3 : decode cX0_countParts 3 = .ok (.istore_n 2, 1) := by decide +kernel
theorem dX0_countParts_4 : decode cX0_countParts 4 = .ok (.iload_n 2, 1) := by decide +kernel
theorem dX0_countParts_5 : decode cX0_countParts 5 = .ok (.aload_n 0, 1) := by decide +kernel
theorem dX0_countParts_6 : decode cX0_countParts 6 = .ok (.getfield 22, 3) := by decide +kernel
theorem dX0_countParts_9 : decode cX0_countParts 9 = .ok (.getfield 35, 3) := by decide +kernel
theorem dX0_countParts_12 : decode cX0_countParts 12 = .ok (.if_icmp .ge 21, 3) := by decide +kernel
theorem dX0_countParts_15 : decode cX0_countParts 15 = .ok (.aload_n 0, 1) := by decide +kernel
theorem dX0_countParts_16 : decode cX0_countParts 16 = .ok (.iload_n 2, 1) := by decide +kernel
theorem dX0_countParts_17 : decode cX0_countParts 17 = .ok (.invokevirtual 89, 3) := by decide +kernel
theorem dX0_countParts_20 : decode cX0_countParts 20 = .ok (.iload_n 2, 1) := by decide +kernel
theorem dX0_countParts_21 : decode cX0_countParts 21 = .ok (.if_icmp .ne 6, 3) := by decide +kernel
theorem dX0_countParts_24 : decode cX0_countParts 24 = .ok (.iinc 1 1, 3) := by decide +kernel
theorem dX0_countParts_27 : decode cX0_countParts 27 = .ok (.iinc 2 1, 3) := by decide +kernel
theorem dX0_countParts_30 : decode cX0_countParts 30 = .ok (.goto (-26), 3) := by decide +kernel
theorem dX0_countParts_33 : decode cX0_countParts 33 = .ok (.iload_n 1, 1) := by decide +kernel
theorem dX0_countParts_34 : decode cX0_countParts 34 = .ok (.ireturn, 1) := by decide +kernel
theorem dX0_isWithin_0 : decode cX0_isWithin 0 = .ok (.aload_n 0, 1) := by decide +kernel
theorem dX0_isWithin_1 : decode cX0_isWithin 1 = .ok (.getfield 22, 3) := by decide +kernel
theorem dX0_isWithin_4 : decode cX0_isWithin 4 = .ok (.getfield 86, 3) := by decide +kernel
theorem dX0_isWithin_7 : decode cX0_isWithin 7 = .ok (.iload_n 1, 1) := by decide +kernel
theorem dX0_isWithin_8 : decode cX0_isWithin 8 = .ok (.iaload, 1) := by decide +kernel
theorem dX0_isWithin_9 : decode cX0_isWithin 9 = .ok (.aload_n 0, 1) := by decide +kernel
theorem dX0_isWithin_10 : decode cX0_isWithin 10 = .ok (.getfield 22, 3) := by decide +kernel
theorem dX0_isWithin_13 : decode cX0_isWithin 13 = .ok (.getfield 86, 3) := by decide +kernel
theorem dX0_isWithin_16 : decode cX0_isWithin 16 = .ok (.iload_n 2, 1) := by decide +kernel
theorem dX0_isWithin_17 : decode cX0_isWithin 17 = .ok (.iaload, 1) := by decide +kernel
theorem dX0_isWithin_18 : decode cX0_isWithin 18 = .ok (.if_icmp .ne 14, 3) := by decide +kernel
theorem dX0_isWithin_21 : decode cX0_isWithin 21 = .ok (.iload_n 2, 1) := by decide +kernel
theorem dX0_isWithin_22 : decode cX0_isWithin 22 = .ok (.iload_n 1, 1) := by decide +kernel
theorem dX0_isWithin_23 : decode cX0_isWithin 23 = .ok (.if_icmp .ge 7, 3) := by decide +kernel
theorem dX0_isWithin_26 : decode cX0_isWithin 26 = .ok (.iconst 1, 1) := by decide +kernel
theorem dX0_isWithin_27 : decode cX0_isWithin 27 = .ok (.goto 4, 3) := by decide +kernel
theorem dX0_isWithin_30 : decode cX0_isWithin 30 = .ok (.iconst 0, 1) := by decide +kernel
theorem dX0_isWithin_31 : decode cX0_isWithin 31 = .ok (.ireturn, 1) := by decide +kernel
theorem dX0_isWithin_32 : decode cX0_isWithin 32 = .ok (.aload_n 0, 1) := by decide +kernel
theorem dX0_isWithin_33 : decode cX0_isWithin 33 = .ok (.getfield 22, 3) := by decide +kernel
theorem dX0_isWithin_36 : decode cX0_isWithin 36 = .ok (.getfield 86, 3) := by decide +kernel
theorem dX0_isWithin_39 : decode cX0_isWithin 39 = .ok (.iload_n 1, 1) := by decide +kernel
theorem dX0_isWithin_40 : decode cX0_isWithin 40 = .ok (.iaload, 1) := by decide +kernel
theorem dX0_isWithin_41 : decode cX0_isWithin 41 = .ok (.aload_n 0, 1) := by decide +kernel
theorem dX0_isWithin_42 : decode cX0_isWithin 42 = .ok (.getfield 22, 3) := by decide +kernel
theorem dX0_isWithin_45 : decode cX0_isWithin 45 = .ok (.getfield 86, 3) := by decide +kernel
theorem dX0_isWithin_48 : decode cX0_isWithin 48 = .ok (.iload_n 2, 1) := by decide +kernel
theorem dX0_isWithin_49 : decode cX0_isWithin 49 = .ok (.iaload, 1) := by decide +kernel
theorem dX0_isWithin_50 : decode cX0_isWithin 50 = .ok (.iconst (-1), 1) := by decide +kernel
theorem dX0_isWithin_51 : decode cX0_isWithin 51 = .ok (.ixor, 1) := by decide +kernel
theorem dX0_isWithin_52 : decode cX0_isWithin 52 = .ok (.iand, 1) := by decide +kernel
theorem dX0_isWithin_53 : decode cX0_isWithin 53 = .ok (.ifCond .ne 7, 3) := by decide +kernel
theorem dX0_isWithin_56 : decode cX0_isWithin 56 = .ok (.iconst 1, 1) := by decide +kernel
theorem dX0_isWithin_57 : decode cX0_isWithin 57 = .ok (.goto 4, 3) := by decide +kernel
theorem dX0_isWithin_60 : decode cX0_isWithin 60 = .ok (.iconst 0, 1) := by decide +kernel
theorem dX0_isWithin_61 : decode cX0_isWithin 61 = .ok (.ireturn, 1) := by decide +kernel
theorem dX0_allWithin_0 : decode cX0_allWithin 0 = .ok (.iconst 0, 1) := by decide +kernel
theorem dX0_allWithin_1 : decode cX0_allWithin 1 = .ok (.istore_n 1, 1) := by decide +kernel
theorem dX0_allWithin_2 : decode cX0_allWithin 2 = .ok (.iconst 0, 1) := by decide +kernel
theorem dX0_allWithin_3 : decode cX0_allWithin 3 = .ok (.istore_n 2, 1) := by decide +kernel
theorem dX0_allWithin_4 : decode cX0_allWithin 4 = .ok (.iload_n 2, 1) := by decide +kernel
theorem dX0_allWithin_5 : decode cX0_allWithin 5 = .ok (.aload_n 0, 1) := by decide +kernel
theorem dX0_allWithin_6 : decode cX0_allWithin 6 = .ok (.getfield 22, 3) := by decide +kernel
theorem dX0_allWithin_9 : decode cX0_allWithin 9 = .ok (.getfield 35, 3) := by decide +kernel
theorem dX0_allWithin_12 : decode cX0_allWithin 12 = .ok (.if_icmp .ge 43, 3) := by decide +kernel
theorem dX0_allWithin_15 : decode cX0_allWithin 15 = .ok (.iconst 0, 1) := by decide +kernel
theorem dX0_allWithin_16 : decode cX0_allWithin 16 = .ok (.istore_n 3, 1) := by decide +kernel
theorem dX0_allWithin_17 : decode cX0_allWithin 17 = .ok (.iload_n 3, 1) := by decide +kernel
theorem dX0_allWithin_18 : decode cX0_allWithin 18 = .ok (.aload_n 0, 1) := by decide +kernel
theorem dX0_allWithin_19 : decode cX0_allWithin 19 = .ok (.getfield 22, 3) := by decide +kernel
theorem dX0_allWithin_22 : decode cX0_allWithin 22 = .ok (.getfield 35, 3) := by decide +kernel
theorem dX0_allWithin_25 : decode cX0_allWithin 25 = .ok (.if_icmp .ge 24, 3) := by decide +kernel
theorem dX0_allWithin_28 : decode cX0_allWithin 28 = .ok (.aload_n 0, 1) := by decide +kernel
theorem dX0_allWithin_29 : decode cX0_allWithin 29 = .ok (.iload_n 2, 1) := by decide +kernel
theorem dX0_allWithin_30 : decode cX0_allWithin 30 = .ok (.iload_n 3, 1) := by decide +kernel
theorem dX0_allWithin_31 : decode cX0_allWithin 31 = .ok (.invokevirtual 92, 3) := by decide +kernel
theorem dX0_allWithin_34 : decode cX0_allWithin 34 = .ok (.ifCond .eq 9, 3) := by decide +kernel
theorem dX0_allWithin_37 : decode cX0_allWithin 37 = .ok (.iload_n 1, 1) := by decide +kernel
theorem dX0_allWithin_38 : decode cX0_allWithin 38 = .ok (.iconst 1, 1) := by decide +kernel
theorem dX0_allWithin_39 : decode cX0_allWithin 39 = .ok (.iload_n 2, 1) := by decide +kernel
theorem dX0_allWithin_40 : decode cX0_allWithin 40 = .ok (.ishl, 1) := by decide +kernel
theorem dX0_allWithin_41 : decode cX0_allWithin 41 = .ok (.ior, 1) := by decide +kernel
theorem dX0_allWithin_42 : decode cX0_allWithin 42 = .ok (.istore_n 1, 1) := by decide +kernel
theorem dX0_allWithin_43 : decode cX0_allWithin 43 = .ok (.iinc 3 1, 3) := by decide +kernel
theorem dX0_allWithin_46 : decode cX0_allWithin 46 = .ok (.goto (-29), 3) := by decide +kernel
theorem dX0_allWithin_49 : decode cX0_allWithin 49 = .ok (.iinc 2 1, 3) := by decide +kernel
theorem dX0_allWithin_52 : decode cX0_allWithin 52 = .ok (.goto (-48), 3) := by decide +kernel
theorem dX0_allWithin_55 : decode cX0_allWithin 55 = .ok (.iload_n 1, 1) := by decide +kernel
theorem dX0_allWithin_56 : decode cX0_allWithin 56 = .ok (.ireturn, 1) := by decide +kernel
theorem dX1_fillNeededFromHereOn_0 : decode cX1_fillNeededFromHereOn 0 = .ok (.iconst 0, 1) := by decide +kernel
theorem dX1_fillNeededFromHereOn_1 : decode cX1_fillNeededFromHereOn 1 = .ok (.istore_n 2, 1) := by decide +kernel
theorem dX1_fillNeededFromHereOn_2 : decode cX1_fillNeededFromHereOn 2 = .ok (.aload_n 0, 1) := by decide +kernel
theorem dX1_fillNeededFromHereOn_3 : decode cX1_fillNeededFromHereOn 3 = .ok (.getfield 15, 3) := by decide +kernel
theorem dX1_fillNeededFromHereOn_6 : decode cX1_fillNeededFromHereOn 6 = .ok (.getfield 34, 3) := by decide +kernel
theorem dX1_fillNeededFromHereOn_9 : decode cX1_fillNeededFromHereOn 9 = .ok (.iconst 1, 1) := by decide +kernel
theorem dX1_fillNeededFromHereOn_10 : decode cX1_fillNeededFromHereOn 10 = .ok (.isub, 1) := by decide +kernel
theorem dX1_fillNeededFromHereOn_11 : decode cX1_fillNeededFromHereOn 11 = .ok (.istore_n 3, 1) := by decide +kernel
theorem dX1_fillNeededFromHereOn_12 : decode cX1_fillNeededFromHereOn 12 = .ok (.iload_n 3, 1) := by decide +kernel
theorem dX1_fillNeededFromHereOn_13 : decode cX1_fillNeededFromHereOn 13 = .ok (.ifCond .lt 30, 3) := by decide +kernel
theorem dX1_fillNeededFromHereOn_16 : decode cX1_fillNeededFromHereOn 16 = .ok (.iload_n 2, 1) := by decide +kernel
theorem dX1_fillNeededFromHereOn_17 : decode cX1_fillNeededFromHereOn 17 = .ok (.aload_n 0, 1) := by decide +kernel
theorem dX1_fillNeededFromHereOn_18 : decode cX1_fillNeededFromHereOn 18 = .ok (.getfield 15, 3) := by decide +kernel
theorem dX1_fillNeededFromHereOn_21 : decode cX1_fillNeededFromHereOn 21 = .ok (.getfield 42, 3) := by decide +kernel
theorem dX1_fillNeededFromHereOn_24 : decode cX1_fillNeededFromHereOn 24 = .ok (.aload_n 1, 1) := by decide +kernel
theorem dX1_fillNeededFromHereOn_25 : decode cX1_fillNeededFromHereOn 25 = .ok (.iload_n 3, 1) := by decide +kernel
theorem dX1_fillNeededFromHereOn_26 : decode cX1_fillNeededFromHereOn 26 = .ok (.iaload, 1) := by decide +kernel
theorem dX1_fillNeededFromHereOn_27 : decode cX1_fillNeededFromHereOn 27 = .ok (.iaload, 1) := by decide +kernel
theorem dX1_fillNeededFromHereOn_28 : decode cX1_fillNeededFromHereOn 28 = .ok (.ior, 1) := by decide +kernel
theorem dX1_fillNeededFromHereOn_29 : decode cX1_fillNeededFromHereOn 29 = .ok (.istore_n 2, 1) := by decide +kernel
theorem dX1_fillNeededFromHereOn_30 : decode cX1_fillNeededFromHereOn 30 = .ok (.aload_n 0, 1) := by decide +kernel
theorem dX1_fillNeededFromHereOn_31 : decode cX1_fillNeededFromHereOn 31 = .ok (.getfield 9, 3) := by decide +kernel
theorem dX1_fillNeededFromHereOn_34 : decode cX1_fillNeededFromHereOn 34 = .ok (.iload_n 3, 1) := by decide +kernel
theorem dX1_fillNeededFromHereOn_35 : decode cX1_fillNeededFromHereOn 35 = .ok (.iload_n 2, 1) := by decide +kernel
theorem dX1_fillNeededFromHereOn_36 : decode cX1_fillNeededFromHereOn 36 = .ok (.iastore, 1) := by decide +kernel
theorem dX1_fillNeededFromHereOn_37 : decode cX1_fillNeededFromHereOn 37 = .ok (.iinc 3 (-1), 3) := by decide +kernel
theorem dX1_fillNeededFromHereOn_40 : decode cX1_fillNeededFromHereOn 40 = .ok (.goto (-28), 3) := by decide +kernel
theorem dX1_fillNeededFromHereOn_43 : decode cX1_fillNeededFromHereOn 43 = .ok (.return_, 1) := by decide +kernel
theorem dX1_measure_0 : decode cX1_measure 0 = .ok (.aload_n 0, 1) := by decide +kernel
theorem dX1_measure_1 : decode cX1_measure 1 = .ok (.aload_n 1, 1) := by decide +kernel
theorem dX1_measure_2 : decode cX1_measure 2 = .ok (.invokevirtual 19, 3) := by decide +kernel
theorem dX1_measure_5 : decode cX1_measure 5 = .ok (.aload_n 0, 1) := by decide +kernel
theorem dX1_measure_6 : decode cX1_measure 6 = .ok (.iconst 0, 1) := by decide +kernel
theorem dX1_measure_7 : decode cX1_measure 7 = .ok (.putfield 23, 3) := by decide +kernel
theorem dX1_measure_10 : decode cX1_measure 10 = .ok (.aload_n 0, 1) := by decide +kernel
theorem dX1_measure_11 : decode cX1_measure 11 = .ok (.iconst 0, 1) := by decide +kernel
theorem dX1_measure_12 : decode cX1_measure 12 = .ok (.putfield 27, 3) := by decide +kernel
theorem dX1_measure_15 : decode cX1_measure 15 = .ok (.aload_n 0, 1) := by decide +kernel
theorem dX1_measure_16 : decode cX1_measure 16 = .ok (.iconst 1, 1) := by decide +kernel
theorem dX1_measure_17 : decode cX1_measure 17 = .ok (.putfield 30, 3) := by decide +kernel
theorem dX1_measure_20 : decode cX1_measure 20 = .ok (.iconst 0, 1) := by decide +kernel
theorem dX1_measure_21 : decode cX1_measure 21 = .ok (.istore_n 2, 1) := by decide +kernel
theorem dX1_measure_22 : decode cX1_measure 22 = .ok (.iconst 0, 1) := by decide +kernel
theorem dX1_measure_23 : decode cX1_measure 23 = .ok (.istore_n 3, 1) := by decide +kernel
theorem dX1_measure_24 : decode cX1_measure 24 = .ok (.iconst 0, 1) := by decide +kernel
theorem dX1_measure_25 : decode cX1_measure 25 = .ok (.istore 4, 2) := by decide +kernel
theorem dX1_measure_27 : decode cX1_measure 27 = .ok (.iload 4, 2) := by decide +kernel
theorem dX1_measure_29 : decode cX1_measure 29 = .ok (.aload_n 0, 1) := by decide +kernel
theorem dX1_measure_30 : decode cX1_measure 30 = .ok (.getfield 15, 3) := by decide +kernel
theorem dX1_measure_33 : decode cX1_measure 33 = .ok (.getfield 34, 3) := by decide +kernel
theorem dX1_measure_36 : decode cX1_measure 36 = .ok (.if_icmp .ge 122, 3) := by decide +kernel
theorem dX1_measure_39 : decode cX1_measure 39 = .ok (.aload_n 1, 1) := by decide +kernel
theorem dX1_measure_40 : decode cX1_measure 40 = .ok (.iload 4, 2) := by decide +kernel
theorem dX1_measure_42 : decode cX1_measure 42 = .ok (.iaload, 1) := by decide +kernel
theorem dX1_measure_43 : decode cX1_measure 43 = .ok (.istore 5, 2) := by decide +kernel
theorem dX1_measure_45 : decode cX1_measure 45 = .ok (.aload_n 0, 1) := by decide +kernel
theorem dX1_measure_46 : decode cX1_measure 46 = .ok (.aload_n 0, 1) := by decide +kernel
theorem dX1_measure_47 : decode cX1_measure 47 = .ok (.getfield 30, 3) := by decide +kernel
theorem dX1_measure_50 : decode cX1_measure 50 = .ok (.ifCond .eq 24, 3) := by decide +kernel
theorem dX1_measure_53 : decode cX1_measure 53 = .ok (.aload_n 0, 1) := by decide +kernel
theorem dX1_measure_54 : decode cX1_measure 54 = .ok (.getfield 15, 3) := by decide +kernel
theorem dX1_measure_57 : decode cX1_measure 57 = .ok (.getfield 39, 3) := by decide +kernel
theorem dX1_measure_60 : decode cX1_measure 60 = .ok (.iload 5, 2) := by decide +kernel
theorem dX1_measure_62 : decode cX1_measure 62 = .ok (.iaload, 1) := by decide +kernel
theorem dX1_measure_63 : decode cX1_measure 63 = .ok (.iload_n 2, 1) := by decide +kernel
theorem dX1_measure_64 : decode cX1_measure 64 = .ok (.iconst (-1), 1) := by decide +kernel
theorem dX1_measure_65 : decode cX1_measure 65 = .ok (.ixor, 1) := by decide +kernel
theorem dX1_measure_66 : decode cX1_measure 66 = .ok (.iand, 1) := by decide +kernel
theorem dX1_measure_67 : decode cX1_measure 67 = .ok (.ifCond .ne 7, 3) := by decide +kernel
theorem dX1_measure_70 : decode cX1_measure 70 = .ok (.iconst 1, 1) := by decide +kernel
theorem dX1_measure_71 : decode cX1_measure 71 = .ok (.goto 4, 3) := by decide +kernel
theorem dX1_measure_74 : decode cX1_measure 74 = .ok (.iconst 0, 1) := by decide +kernel
theorem dX1_measure_75 : decode cX1_measure 75 = .ok (.putfield 30, 3) := by decide +kernel
theorem dX1_measure_78 : decode cX1_measure 78 = .ok (.iload_n 2, 1) := by decide +kernel
theorem dX1_measure_79 : decode cX1_measure 79 = .ok (.iconst 1, 1) := by decide +kernel
theorem dX1_measure_80 : decode cX1_measure 80 = .ok (.iload 5, 2) := by decide +kernel
theorem dX1_measure_82 : decode cX1_measure 82 = .ok (.ishl, 1) := by decide +kernel
theorem dX1_measure_83 : decode cX1_measure 83 = .ok (.ior, 1) := by decide +kernel
theorem dX1_measure_84 : decode cX1_measure 84 = .ok (.istore_n 2, 1) := by decide +kernel
theorem dX1_measure_85 : decode cX1_measure 85 = .ok (.iload_n 3, 1) := by decide +kernel
theorem dX1_measure_86 : decode cX1_measure 86 = .ok (.aload_n 0, 1) := by decide +kernel
theorem dX1_measure_87 : decode cX1_measure 87 = .ok (.getfield 15, 3) := by decide +kernel
theorem dX1_measure_90 : decode cX1_measure 90 = .ok (.getfield 42, 3) := by decide +kernel
theorem dX1_measure_93 : decode cX1_measure 93 = .ok (.iload 5, 2) := by decide +kernel
theorem dX1_measure_95 : decode cX1_measure 95 = .ok (.iaload, 1) := by decide +kernel
theorem dX1_measure_96 : decode cX1_measure 96 = .ok (.ior, 1) := by decide +kernel
theorem dX1_measure_97 : decode cX1_measure 97 = .ok (.istore_n 3, 1) := by decide +kernel
theorem dX1_measure_98 : decode cX1_measure 98 = .ok (.aload_n 0, 1) := by decide +kernel
theorem dX1_measure_99 : decode cX1_measure 99 = .ok (.getfield 9, 3) := by decide +kernel
theorem dX1_measure_102 : decode cX1_measure 102 = .ok (.iload 4, 2) := by decide +kernel
theorem dX1_measure_104 : decode cX1_measure 104 = .ok (.dup2, 1) := by decide +kernel
theorem dX1_measure_105 : decode cX1_measure 105 = .ok (.iaload, 1) := by decide +kernel
theorem dX1_measure_106 : decode cX1_measure 106 = .ok (.iload_n 3, 1) := by decide +kernel
theorem dX1_measure_107 : decode cX1_measure 107 = .ok (.iand, 1) := by decide +kernel
theorem dX1_measure_108 : decode cX1_measure 108 = .ok (.iastore, 1) := by decide +kernel
theorem dX1_measure_109 : decode cX1_measure 109 = .ok (.aload_n 0, 1) := by decide +kernel
theorem dX1_measure_110 : decode cX1_measure 110 = .ok (.getfield 15, 3) := by decide +kernel
theorem dX1_measure_113 : decode cX1_measure 113 = .ok (.getfield 45, 3) := by decide +kernel
theorem dX1_measure_116 : decode cX1_measure 116 = .ok (.aload_n 0, 1) := by decide +kernel
theorem dX1_measure_117 : decode cX1_measure 117 = .ok (.getfield 9, 3) := by decide +kernel
theorem dX1_measure_120 : decode cX1_measure 120 = .ok (.iload 4, 2) := by decide +kernel
theorem dX1_measure_122 : decode cX1_measure 122 = .ok (.iaload, 1) := by decide +kernel
theorem dX1_measure_123 : decode cX1_measure 123 = .ok (.invokevirtual 49, 3) := by decide +kernel
theorem dX1_measure_126 : decode cX1_measure 126 = .ok (.istore 6, 2) := by decide +kernel
theorem dX1_measure_128 : decode cX1_measure 128 = .ok (.aload_n 0, 1) := by decide +kernel
theorem dX1_measure_129 : decode cX1_measure 129 = .ok (.aload_n 0, 1) := by decide +kernel
theorem dX1_measure_130 : decode cX1_measure 130 = .ok (.getfield 23, 3) := by decide +kernel
theorem dX1_measure_133 : decode cX1_measure 133 = .ok (.iload 6, 2) := by decide +kernel
theorem dX1_measure_135 : decode cX1_measure 135 = .ok (.invokestatic 55, 3) := by decide +kernel
theorem dX1_measure_138 : decode cX1_measure 138 = .ok (.putfield 23, 3) := by decide +kernel
theorem dX1_measure_141 : decode cX1_measure 141 = .ok (.aload_n 0, 1) := by decide +kernel
theorem dX1_measure_142 : decode cX1_measure 142 = .ok (.dup, 1) := by decide +kernel
theorem dX1_measure_143 : decode cX1_measure 143 = .ok (.getfield 27, 3) := by decide +kernel
theorem dX1_measure_146 : decode cX1_measure 146 = .ok (.iload 6, 2) := by decide +kernel
theorem dX1_measure_148 : decode cX1_measure 148 = .ok (.iadd, 1) := by decide +kernel
theorem dX1_measure_149 : decode cX1_measure 149 = .ok (.putfield 27, 3) := by decide +kernel
theorem dX1_measure_152 : decode cX1_measure 152 = .ok (.iinc 4 1, 3) := by decide +kernel
theorem dX1_measure_155 : decode cX1_measure 155 = .ok (.goto (-128), 3) := by decide +kernel
theorem dX1_measure_158 : decode cX1_measure 158 = .ok (.return_, 1) := by decide +kernel
theorem dX1_beats_0 : decode cX1_beats 0 = .ok (.aload_n 0, 1) := by decide +kernel
theorem dX1_beats_1 : decode cX1_beats 1 = .ok (.getfield 23, 3) := by decide +kernel
theorem dX1_beats_4 : decode cX1_beats 4 = .ok (.iload_n 1, 1) := by decide +kernel
theorem dX1_beats_5 : decode cX1_beats 5 = .ok (.if_icmp .eq 17, 3) := by decide +kernel
theorem dX1_beats_8 : decode cX1_beats 8 = .ok (.aload_n 0, 1) := by decide +kernel
theorem dX1_beats_9 : decode cX1_beats 9 = .ok (.getfield 23, 3) := by decide +kernel
theorem dX1_beats_12 : decode cX1_beats 12 = .ok (.iload_n 1, 1) := by decide +kernel
theorem dX1_beats_13 : decode cX1_beats 13 = .ok (.if_icmp .ge 7, 3) := by decide +kernel
theorem dX1_beats_16 : decode cX1_beats 16 = .ok (.iconst 1, 1) := by decide +kernel
theorem dX1_beats_17 : decode cX1_beats 17 = .ok (.goto 4, 3) := by decide +kernel
theorem dX1_beats_20 : decode cX1_beats 20 = .ok (.iconst 0, 1) := by decide +kernel
theorem dX1_beats_21 : decode cX1_beats 21 = .ok (.ireturn, 1) := by decide +kernel
theorem dX1_beats_22 : decode cX1_beats 22 = .ok (.aload_n 0, 1) := by decide +kernel
theorem dX1_beats_23 : decode cX1_beats 23 = .ok (.getfield 27, 3) := by decide +kernel
theorem dX1_beats_26 : decode cX1_beats 26 = .ok (.iload_n 2, 1) := by decide +kernel
theorem dX1_beats_27 : decode cX1_beats 27 = .ok (.if_icmp .eq 17, 3) := by decide +kernel
theorem dX1_beats_30 : decode cX1_beats 30 = .ok (.aload_n 0, 1) := by decide +kernel
theorem dX1_beats_31 : decode cX1_beats 31 = .ok (.getfield 27, 3) := by decide +kernel
theorem dX1_beats_34 : decode cX1_beats 34 = .ok (.iload_n 2, 1) := by decide +kernel
theorem dX1_beats_35 : decode cX1_beats 35 = .ok (.if_icmp .ge 7, 3) := by decide +kernel
theorem dX1_beats_38 : decode cX1_beats 38 = .ok (.iconst 1, 1) := by decide +kernel
theorem dX1_beats_39 : decode cX1_beats 39 = .ok (.goto 4, 3) := by decide +kernel
theorem dX1_beats_42 : decode cX1_beats 42 = .ok (.iconst 0, 1) := by decide +kernel
theorem dX1_beats_43 : decode cX1_beats 43 = .ok (.ireturn, 1) := by decide +kernel
theorem dX1_beats_44 : decode cX1_beats 44 = .ok (.iconst 0, 1) := by decide +kernel
theorem dX1_beats_45 : decode cX1_beats 45 = .ok (.istore 5, 2) := by decide +kernel
theorem dX1_beats_47 : decode cX1_beats 47 = .ok (.iload 5, 2) := by decide +kernel
theorem dX1_beats_49 : decode cX1_beats 49 = .ok (.aload_n 0, 1) := by decide +kernel
theorem dX1_beats_50 : decode cX1_beats 50 = .ok (.getfield 15, 3) := by decide +kernel
theorem dX1_beats_53 : decode cX1_beats 53 = .ok (.getfield 34, 3) := by decide +kernel
theorem dX1_beats_56 : decode cX1_beats 56 = .ok (.if_icmp .ge 39, 3) := by decide +kernel
theorem dX1_beats_59 : decode cX1_beats 59 = .ok (.aload_n 3, 1) := by decide +kernel
theorem dX1_beats_60 : decode cX1_beats 60 = .ok (.iload 5, 2) := by decide +kernel
theorem dX1_beats_62 : decode cX1_beats 62 = .ok (.iaload, 1) := by decide +kernel
theorem dX1_beats_63 : decode cX1_beats 63 = .ok (.aload 4, 2) := by decide +kernel
theorem dX1_beats_65 : decode cX1_beats 65 = .ok (.iload 5, 2) := by decide +kernel
theorem dX1_beats_67 : decode cX1_beats 67 = .ok (.iaload, 1) := by decide +kernel
theorem dX1_beats_68 : decode cX1_beats 68 = .ok (.if_icmp .eq 21, 3) := by decide +kernel
theorem dX1_beats_71 : decode cX1_beats 71 = .ok (.aload_n 3, 1) := by decide +kernel
theorem dX1_beats_72 : decode cX1_beats 72 = .ok (.iload 5, 2) := by decide +kernel
theorem dX1_beats_74 : decode cX1_beats 74 = .ok (.iaload, 1) := by decide +kernel
theorem dX1_beats_75 : decode cX1_beats 75 = .ok (.aload 4, 2) := by decide +kernel
theorem dX1_beats_77 : decode cX1_beats 77 = .ok (.iload 5, 2) := by decide +kernel
theorem dX1_beats_79 : decode cX1_beats 79 = .ok (.iaload, 1) := by decide +kernel
theorem dX1_beats_80 : decode cX1_beats 80 = .ok (.if_icmp .ge 7, 3) := by decide +kernel
theorem dX1_beats_83 : decode cX1_beats 83 = .ok (.iconst 1, 1) := by decide +kernel
theorem dX1_beats_84 : decode cX1_beats 84 = .ok (.goto 4, 3) := by decide +kernel
theorem dX1_beats_87 : decode cX1_beats 87 = .ok (.iconst 0, 1) := by decide +kernel
theorem dX1_beats_88 : decode cX1_beats 88 = .ok (.ireturn, 1) := by decide +kernel
theorem dX1_beats_89 : decode cX1_beats 89 = .ok (.iinc 5 1, 3) := by decide +kernel
theorem dX1_beats_92 : decode cX1_beats 92 = .ok (.goto (-45), 3) := by decide +kernel
theorem dX1_beats_95 : decode cX1_beats 95 = .ok (.iconst 0, 1) := by decide +kernel
theorem dX1_beats_96 : decode cX1_beats 96 = .ok (.ireturn, 1) := by decide +kernel
theorem dX2_isGood_0 : decode cX2_isGood 0 = .ok (.aload_n 0, 1) := by decide +kernel
theorem dX2_isGood_1 : decode cX2_isGood 1 = .ok (.getfield 9, 3) := by decide +kernel
theorem dX2_isGood_4 : decode cX2_isGood 4 = .ok (.iconst 0, 1) := by decide +kernel
theorem dX2_isGood_5 : decode cX2_isGood 5 = .ok (.aload_n 0, 1) := by decide +kernel
theorem dX2_isGood_6 : decode cX2_isGood 6 = .ok (.getfield 15, 3) := by decide +kernel
theorem dX2_isGood_9 : decode cX2_isGood 9 = .ok (.iconst 0, 1) := by decide +kernel
theorem dX2_isGood_10 : decode cX2_isGood 10 = .ok (.bipush 9, 2) := by decide +kernel
theorem dX2_isGood_12 : decode cX2_isGood 12 = .ok (.invokestatic 26, 3) := by decide +kernel
theorem dX2_isGood_15 : decode cX2_isGood 15 = .ok (.iload_n 1, 1) := by decide +kernel
theorem dX2_isGood_16 : decode cX2_isGood 16 = .ok (.iload_n 2, 1) := by decide +kernel
theorem dX2_isGood_17 : decode cX2_isGood 17 = .ok (.if_icmp .ge 24, 3) := by decide +kernel
theorem dX2_isGood_20 : decode cX2_isGood 20 = .ok (.aload_n 0, 1) := by decide +kernel
theorem dX2_isGood_21 : decode cX2_isGood 21 = .ok (.getfield 9, 3) := by decide +kernel
theorem dX2_isGood_24 : decode cX2_isGood 24 = .ok (.iload_n 1, 1) := by decide +kernel
theorem dX2_isGood_25 : decode cX2_isGood 25 = .ok (.iconst 1, 1) := by decide +kernel
theorem dX2_isGood_26 : decode cX2_isGood 26 = .ok (.iadd, 1) := by decide +kernel
theorem dX2_isGood_27 : decode cX2_isGood 27 = .ok (.aload_n 0, 1) := by decide +kernel
theorem dX2_isGood_28 : decode cX2_isGood 28 = .ok (.getfield 15, 3) := by decide +kernel
theorem dX2_isGood_31 : decode cX2_isGood 31 = .ok (.iload_n 1, 1) := by decide +kernel
theorem dX2_isGood_32 : decode cX2_isGood 32 = .ok (.iload_n 2, 1) := by decide +kernel
theorem dX2_isGood_33 : decode cX2_isGood 33 = .ok (.iload_n 1, 1) := by decide +kernel
theorem dX2_isGood_34 : decode cX2_isGood 34 = .ok (.isub, 1) := by decide +kernel
theorem dX2_isGood_35 : decode cX2_isGood 35 = .ok (.invokestatic 26, 3) := by decide +kernel
theorem dX2_isGood_38 : decode cX2_isGood 38 = .ok (.goto 21, 3) := by decide +kernel
theorem dX2_isGood_41 : decode cX2_isGood 41 = .ok (.aload_n 0, 1) := by decide +kernel
theorem dX2_isGood_42 : decode cX2_isGood 42 = .ok (.getfield 9, 3) := by decide +kernel
theorem dX2_isGood_45 : decode cX2_isGood 45 = .ok (.iload_n 2, 1) := by decide +kernel
theorem dX2_isGood_46 : decode cX2_isGood 46 = .ok (.aload_n 0, 1) := by decide +kernel
theorem dX2_isGood_47 : decode cX2_isGood 47 = .ok (.getfield 15, 3) := by decide +kernel
theorem dX2_isGood_50 : decode cX2_isGood 50 = .ok (.iload_n 2, 1) := by decide +kernel
theorem dX2_isGood_51 : decode cX2_isGood 51 = .ok (.iconst 1, 1) := by decide +kernel
theorem dX2_isGood_52 : decode cX2_isGood 52 = .ok (.iadd, 1) := by decide +kernel
theorem dX2_isGood_53 : decode cX2_isGood 53 = .ok (.iload_n 1, 1) := by decide +kernel
theorem dX2_isGood_54 : decode cX2_isGood 54 = .ok (.iload_n 2, 1) := by decide +kernel
theorem dX2_isGood_55 : decode cX2_isGood 55 = .ok (.isub, 1) := by decide +kernel
theorem dX2_isGood_56 : decode cX2_isGood 56 = .ok (.invokestatic 26, 3) := by decide +kernel
theorem dX2_isGood_59 : decode cX2_isGood 59 = .ok (.aload_n 0, 1) := by decide +kernel
theorem dX2_isGood_60 : decode cX2_isGood 60 = .ok (.getfield 15, 3) := by decide +kernel
theorem dX2_isGood_63 : decode cX2_isGood 63 = .ok (.iload_n 2, 1) := by decide +kernel
theorem dX2_isGood_64 : decode cX2_isGood 64 = .ok (.aload_n 0, 1) := by decide +kernel
theorem dX2_isGood_65 : decode cX2_isGood 65 = .ok (.getfield 9, 3) := by decide +kernel
theorem dX2_isGood_68 : decode cX2_isGood 68 = .ok (.iload_n 1, 1) := by decide +kernel
theorem dX2_isGood_69 : decode cX2_isGood 69 = .ok (.iaload, 1) := by decide +kernel
theorem dX2_isGood_70 : decode cX2_isGood 70 = .ok (.iastore, 1) := by decide +kernel
theorem dX2_isGood_71 : decode cX2_isGood 71 = .ok (.aload_n 0, 1) := by decide +kernel
theorem dX2_isGood_72 : decode cX2_isGood 72 = .ok (.getfield 22, 3) := by decide +kernel
theorem dX2_isGood_75 : decode cX2_isGood 75 = .ok (.aload_n 0, 1) := by decide +kernel
theorem dX2_isGood_76 : decode cX2_isGood 76 = .ok (.getfield 15, 3) := by decide +kernel
theorem dX2_isGood_79 : decode cX2_isGood 79 = .ok (.invokevirtual 32, 3) := by decide +kernel
theorem dX2_isGood_82 : decode cX2_isGood 82 = .ok (.aload_n 0, 1) := by decide +kernel
theorem dX2_isGood_83 : decode cX2_isGood 83 = .ok (.getfield 22, 3) := by decide +kernel
theorem dX2_isGood_86 : decode cX2_isGood 86 = .ok (.getfield 61, 3) := by decide +kernel
theorem dX2_isGood_89 : decode cX2_isGood 89 = .ok (.ifCond .eq 33, 3) := by decide +kernel
theorem dX2_isGood_92 : decode cX2_isGood 92 = .ok (.aload_n 0, 1) := by decide +kernel
theorem dX2_isGood_93 : decode cX2_isGood 93 = .ok (.getfield 22, 3) := by decide +kernel
theorem dX2_isGood_96 : decode cX2_isGood 96 = .ok (.aload_n 0, 1) := by decide +kernel
theorem dX2_isGood_97 : decode cX2_isGood 97 = .ok (.getfield 42, 3) := by decide +kernel
theorem dX2_isGood_100 : decode cX2_isGood 100 = .ok (.aload_n 0, 1) := by decide +kernel
theorem dX2_isGood_101 : decode cX2_isGood 101 = .ok (.getfield 46, 3) := by decide +kernel
theorem dX2_isGood_104 : decode cX2_isGood 104 = .ok (.aload_n 0, 1) := by decide +kernel
theorem dX2_isGood_105 : decode cX2_isGood 105 = .ok (.getfield 15, 3) := by decide +kernel
theorem dX2_isGood_108 : decode cX2_isGood 108 = .ok (.aload_n 0, 1) := by decide +kernel
theorem dX2_isGood_109 : decode cX2_isGood 109 = .ok (.getfield 9, 3) := by decide +kernel
theorem dX2_isGood_112 : decode cX2_isGood 112 = .ok (.invokevirtual 65, 3) := by decide +kernel
theorem dX2_isGood_115 : decode cX2_isGood 115 = .ok (.ifCond .eq 7, 3) := by decide +kernel
theorem dX2_isGood_118 : decode cX2_isGood 118 = .ok (.iconst 1, 1) := by decide +kernel
theorem dX2_isGood_119 : decode cX2_isGood 119 = .ok (.goto 4, 3) := by decide +kernel
theorem dX2_isGood_122 : decode cX2_isGood 122 = .ok (.iconst 0, 1) := by decide +kernel
theorem dX2_isGood_123 : decode cX2_isGood 123 = .ok (.ireturn, 1) := by decide +kernel
theorem dX2_doFirstMove_0 : decode cX2_doFirstMove 0 = .ok (.iconst 0, 1) := by decide +kernel
theorem dX2_doFirstMove_1 : decode cX2_doFirstMove 1 = .ok (.istore_n 1, 1) := by decide +kernel
theorem dX2_doFirstMove_2 : decode cX2_doFirstMove 2 = .ok (.iload_n 1, 1) := by decide +kernel
theorem dX2_doFirstMove_3 : decode cX2_doFirstMove 3 = .ok (.aload_n 0, 1) := by decide +kernel
theorem dX2_doFirstMove_4 : decode cX2_doFirstMove 4 = .ok (.getfield 18, 3) := by decide +kernel
theorem dX2_doFirstMove_7 : decode cX2_doFirstMove 7 = .ok (.getfield 52, 3) := by decide +kernel
theorem dX2_doFirstMove_10 : decode cX2_doFirstMove 10 = .ok (.if_icmp .ge 81, 3) := by decide +kernel
theorem dX2_doFirstMove_13 : decode cX2_doFirstMove 13 = .ok (.iconst 0, 1) := by decide +kernel
theorem dX2_doFirstMove_14 : decode cX2_doFirstMove 14 = .ok (.istore_n 2, 1) := by decide +kernel
theorem dX2_doFirstMove_15 : decode cX2_doFirstMove 15 = .ok (.iload_n 2, 1) := by decide +kernel
theorem dX2_doFirstMove_16 : decode cX2_doFirstMove 16 = .ok (.aload_n 0, 1) := by decide +kernel
theorem dX2_doFirstMove_17 : decode cX2_doFirstMove 17 = .ok (.getfield 18, 3) := by decide +kernel
theorem dX2_doFirstMove_20 : decode cX2_doFirstMove 20 = .ok (.getfield 52, 3) := by decide +kernel
theorem dX2_doFirstMove_23 : decode cX2_doFirstMove 23 = .ok (.if_icmp .ge 62, 3) := by decide +kernel
theorem dX2_doFirstMove_26 : decode cX2_doFirstMove 26 = .ok (.iload_n 1, 1) := by decide +kernel
theorem dX2_doFirstMove_27 : decode cX2_doFirstMove 27 = .ok (.iload_n 2, 1) := by decide +kernel
theorem dX2_doFirstMove_28 : decode cX2_doFirstMove 28 = .ok (.if_icmp .eq 51, 3) := by decide +kernel
theorem dX2_doFirstMove_31 : decode cX2_doFirstMove 31 = .ok (.aload_n 0, 1) := by decide +kernel
theorem dX2_doFirstMove_32 : decode cX2_doFirstMove 32 = .ok (.iload_n 1, 1) := by decide +kernel
theorem dX2_doFirstMove_33 : decode cX2_doFirstMove 33 = .ok (.iload_n 2, 1) := by decide +kernel
theorem dX2_doFirstMove_34 : decode cX2_doFirstMove 34 = .ok (.invokevirtual 57, 3) := by decide +kernel
theorem dX2_doFirstMove_37 : decode cX2_doFirstMove 37 = .ok (.ifCond .eq 42, 3) := by decide +kernel
theorem dX2_doFirstMove_40 : decode cX2_doFirstMove 40 = .ok (.aload_n 0, 1) := by decide +kernel
theorem dX2_doFirstMove_41 : decode cX2_doFirstMove 41 = .ok (.getfield 15, 3) := by decide +kernel
theorem dX2_doFirstMove_44 : decode cX2_doFirstMove 44 = .ok (.iconst 0, 1) := by decide +kernel
theorem dX2_doFirstMove_45 : decode cX2_doFirstMove 45 = .ok (.aload_n 0, 1) := by decide +kernel
theorem dX2_doFirstMove_46 : decode cX2_doFirstMove 46 = .ok (.getfield 9, 3) := by decide +kernel
theorem dX2_doFirstMove_49 : decode cX2_doFirstMove 49 = .ok (.iconst 0, 1) := by decide +kernel
theorem dX2_doFirstMove_50 : decode cX2_doFirstMove 50 = .ok (.bipush 9, 2) := by decide +kernel
theorem dX2_doFirstMove_52 : decode cX2_doFirstMove 52 = .ok (.invokestatic 26, 3) := by decide +kernel
theorem dX2_doFirstMove_55 : decode cX2_doFirstMove 55 = .ok (.aload_n 0, 1) := by decide +kernel
theorem dX2_doFirstMove_56 : decode cX2_doFirstMove 56 = .ok (.aload_n 0, 1) := by decide +kernel
theorem dX2_doFirstMove_57 : decode cX2_doFirstMove 57 = .ok (.getfield 22, 3) := by decide +kernel
theorem dX2_doFirstMove_60 : decode cX2_doFirstMove 60 = .ok (.getfield 38, 3) := by decide +kernel
theorem dX2_doFirstMove_63 : decode cX2_doFirstMove 63 = .ok (.putfield 42, 3) := by decide +kernel
theorem dX2_doFirstMove_66 : decode cX2_doFirstMove 66 = .ok (.aload_n 0, 1) := by decide +kernel
theorem dX2_doFirstMove_67 : decode cX2_doFirstMove 67 = .ok (.aload_n 0, 1) := by decide +kernel
theorem dX2_doFirstMove_68 : decode cX2_doFirstMove 68 = .ok (.getfield 22, 3) := by decide +kernel
theorem dX2_doFirstMove_71 : decode cX2_doFirstMove 71 = .ok (.getfield 43, 3) := by decide +kernel
theorem dX2_doFirstMove_74 : decode cX2_doFirstMove 74 = .ok (.putfield 46, 3) := by decide +kernel
theorem dX2_doFirstMove_77 : decode cX2_doFirstMove 77 = .ok (.iconst 1, 1) := by decide +kernel
theorem dX2_doFirstMove_78 : decode cX2_doFirstMove 78 = .ok (.ireturn, 1) := by decide +kernel
theorem dX2_doFirstMove_79 : decode cX2_doFirstMove 79 = .ok (.iinc 2 1, 3) := by decide +kernel
theorem dX2_doFirstMove_82 : decode cX2_doFirstMove 82 = .ok (.goto (-67), 3) := by decide +kernel
theorem dX2_doFirstMove_85 : decode cX2_doFirstMove 85 = .ok (.iinc 1 1, 3) := by decide +kernel
theorem dX2_doFirstMove_88 : decode cX2_doFirstMove 88 = .ok (.goto (-86), 3) := by decide +kernel
theorem dX2_doFirstMove_91 : decode cX2_doFirstMove 91 = .ok (.iconst 0, 1) := by decide +kernel
theorem dX2_doFirstMove_92 : decode cX2_doFirstMove 92 = .ok (.ireturn, 1) := by decide +kernel
theorem dX2_improve_0 : decode cX2_improve 0 = .ok (.aload_n 1, 1) := by decide +kernel
theorem dX2_improve_1 : decode cX2_improve 1 = .ok (.iconst 0, 1) := by decide +kernel
theorem dX2_improve_2 : decode cX2_improve 2 = .ok (.aload_n 0, 1) := by decide +kernel
theorem dX2_improve_3 : decode cX2_improve 3 = .ok (.getfield 9, 3) := by decide +kernel
theorem dX2_improve_6 : decode cX2_improve 6 = .ok (.iconst 0, 1) := by decide +kernel
theorem dX2_improve_7 : decode cX2_improve 7 = .ok (.bipush 9, 2) := by decide +kernel
theorem dX2_improve_9 : decode cX2_improve 9 = .ok (.invokestatic 26, 3) := by decide +kernel
theorem dX2_improve_12 : decode cX2_improve 12 = .ok (.aload_n 0, 1) := by decide +kernel
theorem dX2_improve_13 : decode cX2_improve 13 = .ok (.getfield 22, 3) := by decide +kernel
theorem dX2_improve_16 : decode cX2_improve 16 = .ok (.aload_n 0, 1) := by decide +kernel
theorem dX2_improve_17 : decode cX2_improve 17 = .ok (.getfield 9, 3) := by decide +kernel
theorem dX2_improve_20 : decode cX2_improve 20 = .ok (.invokevirtual 32, 3) := by decide +kernel
theorem dX2_improve_23 : decode cX2_improve 23 = .ok (.aload_n 0, 1) := by decide +kernel
theorem dX2_improve_24 : decode cX2_improve 24 = .ok (.aload_n 0, 1) := by decide +kernel
theorem dX2_improve_25 : decode cX2_improve 25 = .ok (.getfield 22, 3) := by decide +kernel
theorem dX2_improve_28 : decode cX2_improve 28 = .ok (.getfield 38, 3) := by decide +kernel
theorem dX2_improve_31 : decode cX2_improve 31 = .ok (.putfield 42, 3) := by decide +kernel
theorem dX2_improve_34 : decode cX2_improve 34 = .ok (.aload_n 0, 1) := by decide +kernel
theorem dX2_improve_35 : decode cX2_improve 35 = .ok (.aload_n 0, 1) := by decide +kernel
theorem dX2_improve_36 : decode cX2_improve 36 = .ok (.getfield 22, 3) := by decide +kernel
theorem dX2_improve_39 : decode cX2_improve 39 = .ok (.getfield 43, 3) := by decide +kernel
theorem dX2_improve_42 : decode cX2_improve 42 = .ok (.putfield 46, 3) := by decide +kernel
theorem dX2_improve_45 : decode cX2_improve 45 = .ok (.iconst 0, 1) := by decide +kernel
theorem dX2_improve_46 : decode cX2_improve 46 = .ok (.istore_n 2, 1) := by decide +kernel
theorem dX2_improve_47 : decode cX2_improve 47 = .ok (.iload_n 2, 1) := by decide +kernel
theorem dX2_improve_48 : decode cX2_improve 48 = .ok (.ldc 47, 2) := by decide +kernel
theorem dX2_improve_50 : decode cX2_improve 50 = .ok (.if_icmp .ge 18, 3) := by decide +kernel
theorem dX2_improve_53 : decode cX2_improve 53 = .ok (.aload_n 0, 1) := by decide +kernel
theorem dX2_improve_54 : decode cX2_improve 54 = .ok (.invokevirtual 48, 3) := by decide +kernel
theorem dX2_improve_57 : decode cX2_improve 57 = .ok (.ifCond .ne 5, 3) := by decide +kernel
theorem dX2_improve_60 : decode cX2_improve 60 = .ok (.iload_n 2, 1) := by decide +kernel
theorem dX2_improve_61 : decode cX2_improve 61 = .ok (.ireturn, 1) := by decide +kernel
theorem dX2_improve_62 : decode cX2_improve 62 = .ok (.iinc 2 1, 3) := by decide +kernel
theorem dX2_improve_65 : decode cX2_improve 65 = .ok (.goto (-18), 3) := by decide +kernel
theorem dX2_improve_68 : decode cX2_improve 68 = .ok (.ldc 47, 2) := by decide +kernel
theorem dX2_improve_70 : decode cX2_improve 70 = .ok (.ireturn, 1) := by decide +kernel
theorem dX3_has_0 : decode cX3_has 0 = .ok (.iload_n 1, 1) := by decide +kernel
theorem dX3_has_1 : decode cX3_has 1 = .ok (.ifCond .lt 15, 3) := by decide +kernel
theorem dX3_has_4 : decode cX3_has 4 = .ok (.iload_n 1, 1) := by decide +kernel
theorem dX3_has_5 : decode cX3_has 5 = .ok (.aload_n 0, 1) := by decide +kernel
theorem dX3_has_6 : decode cX3_has 6 = .ok (.getfield 20, 3) := by decide +kernel
theorem dX3_has_9 : decode cX3_has 9 = .ok (.if_icmp .ge 7, 3) := by decide +kernel
theorem dX3_has_12 : decode cX3_has 12 = .ok (.iconst 1, 1) := by decide +kernel
theorem dX3_has_13 : decode cX3_has 13 = .ok (.goto 4, 3) := by decide +kernel
theorem dX3_has_16 : decode cX3_has 16 = .ok (.iconst 0, 1) := by decide +kernel
theorem dX3_has_17 : decode cX3_has 17 = .ok (.ireturn, 1) := by decide +kernel
theorem dX3_isFull_0 : decode cX3_isFull 0 = .ok (.aload_n 0, 1) := by decide +kernel
theorem dX3_isFull_1 : decode cX3_isFull 1 = .ok (.getfield 20, 3) := by decide +kernel
theorem dX3_isFull_4 : decode cX3_isFull 4 = .ok (.bipush 8, 2) := by decide +kernel
theorem dX3_isFull_6 : decode cX3_isFull 6 = .ok (.if_icmp .lt 7, 3) := by decide +kernel
theorem dX3_isFull_9 : decode cX3_isFull 9 = .ok (.iconst 1, 1) := by decide +kernel
theorem dX3_isFull_10 : decode cX3_isFull 10 = .ok (.goto 4, 3) := by decide +kernel
theorem dX3_isFull_13 : decode cX3_isFull 13 = .ok (.iconst 0, 1) := by decide +kernel
theorem dX3_isFull_14 : decode cX3_isFull 14 = .ok (.ireturn, 1) := by decide +kernel
theorem dX3_add_0 : decode cX3_add 0 = .ok (.aload_n 2, 1) := by decide +kernel
theorem dX3_add_1 : decode cX3_add 1 = .ok (.iconst 0, 1) := by decide +kernel
theorem dX3_add_2 : decode cX3_add 2 = .ok (.aload_n 0, 1) := by decide +kernel
theorem dX3_add_3 : decode cX3_add 3 = .ok (.getfield 11, 3) := by decide +kernel
theorem dX3_add_6 : decode cX3_add 6 = .ok (.aload_n 0, 1) := by decide +kernel
theorem dX3_add_7 : decode cX3_add 7 = .ok (.getfield 20, 3) := by decide +kernel
theorem dX3_add_10 : decode cX3_add 10 = .ok (.aaload, 1) := by decide +kernel
theorem dX3_add_11 : decode cX3_add 11 = .ok (.iconst 0, 1) := by decide +kernel
theorem dX3_add_12 : decode cX3_add 12 = .ok (.bipush 9, 2) := by decide +kernel
theorem dX3_add_14 : decode cX3_add 14 = .ok (.invokestatic 24, 3) := by decide +kernel
theorem dX3_add_17 : decode cX3_add 17 = .ok (.aload_n 0, 1) := by decide +kernel
theorem dX3_add_18 : decode cX3_add 18 = .ok (.getfield 16, 3) := by decide +kernel
theorem dX3_add_21 : decode cX3_add 21 = .ok (.aload_n 0, 1) := by decide +kernel
theorem dX3_add_22 : decode cX3_add 22 = .ok (.getfield 20, 3) := by decide +kernel
theorem dX3_add_25 : decode cX3_add 25 = .ok (.iload_n 1, 1) := by decide +kernel
theorem dX3_add_26 : decode cX3_add 26 = .ok (.iastore, 1) := by decide +kernel
theorem dX3_add_27 : decode cX3_add 27 = .ok (.aload_n 0, 1) := by decide +kernel
theorem dX3_add_28 : decode cX3_add 28 = .ok (.dup, 1) := by decide +kernel
theorem dX3_add_29 : decode cX3_add 29 = .ok (.getfield 20, 3) := by decide +kernel
theorem dX3_add_32 : decode cX3_add 32 = .ok (.iconst 1, 1) := by decide +kernel
theorem dX3_add_33 : decode cX3_add 33 = .ok (.iadd, 1) := by decide +kernel
theorem dX3_add_34 : decode cX3_add 34 = .ok (.putfield 20, 3) := by decide +kernel
theorem dX3_add_37 : decode cX3_add 37 = .ok (.aload_n 0, 1) := by decide +kernel
theorem dX3_add_38 : decode cX3_add 38 = .ok (.getfield 20, 3) := by decide +kernel
theorem dX3_add_41 : decode cX3_add 41 = .ok (.iconst 1, 1) := by decide +kernel
theorem dX3_add_42 : decode cX3_add 42 = .ok (.isub, 1) := by decide +kernel
theorem dX3_add_43 : decode cX3_add 43 = .ok (.ireturn, 1) := by decide +kernel
theorem dX3_setOfFirst_0 : decode cX3_setOfFirst 0 = .ok (.iconst 0, 1) := by decide +kernel
theorem dX3_setOfFirst_1 : decode cX3_setOfFirst 1 = .ok (.istore_n 3, 1) := by decide +kernel
theorem dX3_setOfFirst_2 : decode cX3_setOfFirst 2 = .ok (.iconst 0, 1) := by decide +kernel
theorem dX3_setOfFirst_3 : decode cX3_setOfFirst 3 = .ok (.istore 4, 2) := by decide +kernel
theorem dX3_setOfFirst_5 : decode cX3_setOfFirst 5 = .ok (.iload 4, 2) := by decide +kernel
theorem dX3_setOfFirst_7 : decode cX3_setOfFirst 7 = .ok (.iload_n 2, 1) := by decide +kernel
theorem dX3_setOfFirst_8 : decode cX3_setOfFirst 8 = .ok (.if_icmp .ge 23, 3) := by decide +kernel
theorem dX3_setOfFirst_11 : decode cX3_setOfFirst 11 = .ok (.iload_n 3, 1) := by decide +kernel
theorem dX3_setOfFirst_12 : decode cX3_setOfFirst 12 = .ok (.iconst 1, 1) := by decide +kernel
theorem dX3_setOfFirst_13 : decode cX3_setOfFirst 13 = .ok (.aload_n 0, 1) := by decide +kernel
theorem dX3_setOfFirst_14 : decode cX3_setOfFirst 14 = .ok (.getfield 11, 3) := by decide +kernel
theorem dX3_setOfFirst_17 : decode cX3_setOfFirst 17 = .ok (.iload_n 1, 1) := by decide +kernel
theorem dX3_setOfFirst_18 : decode cX3_setOfFirst 18 = .ok (.aaload, 1) := by decide +kernel
theorem dX3_setOfFirst_19 : decode cX3_setOfFirst 19 = .ok (.iload 4, 2) := by decide +kernel
theorem dX3_setOfFirst_21 : decode cX3_setOfFirst 21 = .ok (.iaload, 1) := by decide +kernel
theorem dX3_setOfFirst_22 : decode cX3_setOfFirst 22 = .ok (.ishl, 1) := by decide +kernel
theorem dX3_setOfFirst_23 : decode cX3_setOfFirst 23 = .ok (.ior, 1) := by decide +kernel
theorem dX3_setOfFirst_24 : decode cX3_setOfFirst 24 = .ok (.istore_n 3, 1) := by decide +kernel
theorem dX3_setOfFirst_25 : decode cX3_setOfFirst 25 = .ok (.iinc 4 1, 3) := by decide +kernel
theorem dX3_setOfFirst_28 : decode cX3_setOfFirst 28 = .ok (.goto (-23), 3) := by decide +kernel
theorem dX3_setOfFirst_31 : decode cX3_setOfFirst 31 = .ok (.iload_n 3, 1) := by decide +kernel
theorem dX3_setOfFirst_32 : decode cX3_setOfFirst 32 = .ok (.ireturn, 1) := by decide +kernel
theorem dX10_greatestNeed_0 : decode cX10_greatestNeed 0 = .ok (.iconst 0, 1) := by decide +kernel
theorem dX10_greatestNeed_1 : decode cX10_greatestNeed 1 = .ok (.istore_n 1, 1) := by decide +kernel
theorem dX10_greatestNeed_2 : decode cX10_greatestNeed 2 = .ok (.iconst 0, 1) := by decide +kernel
theorem dX10_greatestNeed_3 : decode cX10_greatestNeed 3 = .ok (.istore_n 2, 1) := by decide +kernel
theorem dX10_greatestNeed_4 : decode cX10_greatestNeed 4 = .ok (.iload_n 2, 1) := by decide +kernel
theorem dX10_greatestNeed_5 : decode cX10_greatestNeed 5 = .ok (.aload_n 0, 1) := by decide +kernel
theorem dX10_greatestNeed_6 : decode cX10_greatestNeed 6 = .ok (.getfield 28, 3) := by decide +kernel
theorem dX10_greatestNeed_9 : decode cX10_greatestNeed 9 = .ok (.if_icmp .ge 27, 3) := by decide +kernel
theorem dX10_greatestNeed_12 : decode cX10_greatestNeed 12 = .ok (.iload_n 1, 1) := by decide +kernel
theorem dX10_greatestNeed_13 : decode cX10_greatestNeed 13 = .ok (.aload_n 0, 1) := by decide +kernel
theorem dX10_greatestNeed_14 : decode cX10_greatestNeed 14 = .ok (.getfield 21, 3) := by decide +kernel
theorem dX10_greatestNeed_17 : decode cX10_greatestNeed 17 = .ok (.aload_n 0, 1) := by decide +kernel
theorem dX10_greatestNeed_18 : decode cX10_greatestNeed 18 = .ok (.getfield 9, 3) := by decide +kernel
theorem dX10_greatestNeed_21 : decode cX10_greatestNeed 21 = .ok (.iload_n 2, 1) := by decide +kernel
theorem dX10_greatestNeed_22 : decode cX10_greatestNeed 22 = .ok (.iaload, 1) := by decide +kernel
theorem dX10_greatestNeed_23 : decode cX10_greatestNeed 23 = .ok (.invokevirtual 46, 3) := by decide +kernel
theorem dX10_greatestNeed_26 : decode cX10_greatestNeed 26 = .ok (.invokestatic 50, 3) := by decide +kernel
theorem dX10_greatestNeed_29 : decode cX10_greatestNeed 29 = .ok (.istore_n 1, 1) := by decide +kernel
theorem dX10_greatestNeed_30 : decode cX10_greatestNeed 30 = .ok (.iinc 2 1, 3) := by decide +kernel
theorem dX10_greatestNeed_33 : decode cX10_greatestNeed 33 = .ok (.goto (-29), 3) := by decide +kernel
theorem dX10_greatestNeed_36 : decode cX10_greatestNeed 36 = .ok (.iload_n 1, 1) := by decide +kernel
theorem dX10_greatestNeed_37 : decode cX10_greatestNeed 37 = .ok (.ireturn, 1) := by decide +kernel
abbrev rm_J6_bitCount_0f7a4 : Room := { frames := 0, cells := 0, slots := 0, locals := 0 }
def T_J6_bitCount_0f7a4 (x0 : Int32) (μ : Mem) (post : Int32 → Mem → Prop) : Prop :=
  post ((((((((x0 - (((x0.toUInt32 >>> (((1 : Int32)).toUInt32 &&& Int32.toUInt32 31)).toInt32) &&& 1431655765)) &&& 858993459) + ((((x0 - (((x0.toUInt32 >>> (((1 : Int32)).toUInt32 &&& Int32.toUInt32 31)).toInt32) &&& 1431655765)).toUInt32 >>> (((2 : Int32)).toUInt32 &&& Int32.toUInt32 31)).toInt32) &&& 858993459)) + (((((x0 - (((x0.toUInt32 >>> (((1 : Int32)).toUInt32 &&& Int32.toUInt32 31)).toInt32) &&& 1431655765)) &&& 858993459) + ((((x0 - (((x0.toUInt32 >>> (((1 : Int32)).toUInt32 &&& Int32.toUInt32 31)).toInt32) &&& 1431655765)).toUInt32 >>> (((2 : Int32)).toUInt32 &&& Int32.toUInt32 31)).toInt32) &&& 858993459)).toUInt32 >>> (((4 : Int32)).toUInt32 &&& Int32.toUInt32 31)).toInt32)) &&& 252645135) + (((((((x0 - (((x0.toUInt32 >>> (((1 : Int32)).toUInt32 &&& Int32.toUInt32 31)).toInt32) &&& 1431655765)) &&& 858993459) + ((((x0 - (((x0.toUInt32 >>> (((1 : Int32)).toUInt32 &&& Int32.toUInt32 31)).toInt32) &&& 1431655765)).toUInt32 >>> (((2 : Int32)).toUInt32 &&& Int32.toUInt32 31)).toInt32) &&& 858993459)) + (((((x0 - (((x0.toUInt32 >>> (((1 : Int32)).toUInt32 &&& Int32.toUInt32 31)).toInt32) &&& 1431655765)) &&& 858993459) + ((((x0 - (((x0.toUInt32 >>> (((1 : Int32)).toUInt32 &&& Int32.toUInt32 31)).toInt32) &&& 1431655765)).toUInt32 >>> (((2 : Int32)).toUInt32 &&& Int32.toUInt32 31)).toInt32) &&& 858993459)).toUInt32 >>> (((4 : Int32)).toUInt32 &&& Int32.toUInt32 31)).toInt32)) &&& 252645135).toUInt32 >>> (((8 : Int32)).toUInt32 &&& Int32.toUInt32 31)).toInt32)) + ((((((((x0 - (((x0.toUInt32 >>> (((1 : Int32)).toUInt32 &&& Int32.toUInt32 31)).toInt32) &&& 1431655765)) &&& 858993459) + ((((x0 - (((x0.toUInt32 >>> (((1 : Int32)).toUInt32 &&& Int32.toUInt32 31)).toInt32) &&& 1431655765)).toUInt32 >>> (((2 : Int32)).toUInt32 &&& Int32.toUInt32 31)).toInt32) &&& 858993459)) + (((((x0 - (((x0.toUInt32 >>> (((1 : Int32)).toUInt32 &&& Int32.toUInt32 31)).toInt32) &&& 1431655765)) &&& 858993459) + ((((x0 - (((x0.toUInt32 >>> (((1 : Int32)).toUInt32 &&& Int32.toUInt32 31)).toInt32) &&& 1431655765)).toUInt32 >>> (((2 : Int32)).toUInt32 &&& Int32.toUInt32 31)).toInt32) &&& 858993459)).toUInt32 >>> (((4 : Int32)).toUInt32 &&& Int32.toUInt32 31)).toInt32)) &&& 252645135) + (((((((x0 - (((x0.toUInt32 >>> (((1 : Int32)).toUInt32 &&& Int32.toUInt32 31)).toInt32) &&& 1431655765)) &&& 858993459) + ((((x0 - (((x0.toUInt32 >>> (((1 : Int32)).toUInt32 &&& Int32.toUInt32 31)).toInt32) &&& 1431655765)).toUInt32 >>> (((2 : Int32)).toUInt32 &&& Int32.toUInt32 31)).toInt32) &&& 858993459)) + (((((x0 - (((x0.toUInt32 >>> (((1 : Int32)).toUInt32 &&& Int32.toUInt32 31)).toInt32) &&& 1431655765)) &&& 858993459) + ((((x0 - (((x0.toUInt32 >>> (((1 : Int32)).toUInt32 &&& Int32.toUInt32 31)).toInt32) &&& 1431655765)).toUInt32 >>> (((2 : Int32)).toUInt32 &&& Int32.toUInt32 31)).toInt32) &&& 858993459)).toUInt32 >>> (((4 : Int32)).toUInt32 &&& Int32.toUInt32 31)).toInt32)) &&& 252645135).toUInt32 >>> (((8 : Int32)).toUInt32 &&& Int32.toUInt32 31)).toInt32)).toUInt32 >>> (((16 : Int32)).toUInt32 &&& Int32.toUInt32 31)).toInt32)) &&& 63) μ
theorem m_J6_bitCount_0f7a4 {w : Wd} {l : Launch} {D : va_G} {A : Nat → Prop} {sh : Nat → Shp} {n : Nat} (x0 : Int32) (μ : Mem) (post : Int32 → Mem → Prop) (h : T_J6_bitCount_0f7a4 x0 μ post) : MetX l D A w sh n yJ6_bitCount_0f7a4 cJ6_bitCount_0f7a4 1 (some .int) rm_J6_bitCount_0f7a4 [.int x0] μ (pI post) := by
  refine metX_of (by decide) rfl (lv := [(0, .int x0)]) rfl (fun X hX g hR => ?_)
  refine r_iload_n (pc := 0) 0 g dJ6_bitCount_0f7a4_0 rfl ?_
  refine r_iload_n (pc := 1) 0 g dJ6_bitCount_0f7a4_1 rfl ?_
  refine r_iconst (pc := 2) g dJ6_bitCount_0f7a4_2 ci_1 ?_
  refine r_iushr (pc := 3) g dJ6_bitCount_0f7a4_3 ?_
  refine r_ldc_w (pc := 4) g dJ6_bitCount_0f7a4_4 k_176 ?_
  refine r_iand (pc := 7) g dJ6_bitCount_0f7a4_7 ?_
  refine r_isub (pc := 8) g dJ6_bitCount_0f7a4_8 ?_
  refine r_istore_n (pc := 9) (lv' := [(0, .int (x0 - (((x0.toUInt32 >>> (((1 : Int32)).toUInt32 &&& Int32.toUInt32 31)).toInt32) &&& 1431655765)))]) g dJ6_bitCount_0f7a4_9 rfl rfl ?_
  refine r_iload_n (pc := 10) 0 g dJ6_bitCount_0f7a4_10 rfl ?_
  refine r_ldc_w (pc := 11) g dJ6_bitCount_0f7a4_11 k_177 ?_
  refine r_iand (pc := 14) g dJ6_bitCount_0f7a4_14 ?_
  refine r_iload_n (pc := 15) 0 g dJ6_bitCount_0f7a4_15 rfl ?_
  refine r_iconst (pc := 16) g dJ6_bitCount_0f7a4_16 ci_2 ?_
  refine r_iushr (pc := 17) g dJ6_bitCount_0f7a4_17 ?_
  refine r_ldc_w (pc := 18) g dJ6_bitCount_0f7a4_18 k_177 ?_
  refine r_iand (pc := 21) g dJ6_bitCount_0f7a4_21 ?_
  refine r_iadd (pc := 22) g dJ6_bitCount_0f7a4_22 ?_
  refine r_istore_n (pc := 23) (lv' := [(0, .int (((x0 - (((x0.toUInt32 >>> (((1 : Int32)).toUInt32 &&& Int32.toUInt32 31)).toInt32) &&& 1431655765)) &&& 858993459) + ((((x0 - (((x0.toUInt32 >>> (((1 : Int32)).toUInt32 &&& Int32.toUInt32 31)).toInt32) &&& 1431655765)).toUInt32 >>> (((2 : Int32)).toUInt32 &&& Int32.toUInt32 31)).toInt32) &&& 858993459)))]) g dJ6_bitCount_0f7a4_23 rfl rfl ?_
  refine r_iload_n (pc := 24) 0 g dJ6_bitCount_0f7a4_24 rfl ?_
  refine r_iload_n (pc := 25) 0 g dJ6_bitCount_0f7a4_25 rfl ?_
  refine r_iconst (pc := 26) g dJ6_bitCount_0f7a4_26 ci_4 ?_
  refine r_iushr (pc := 27) g dJ6_bitCount_0f7a4_27 ?_
  refine r_iadd (pc := 28) g dJ6_bitCount_0f7a4_28 ?_
  refine r_ldc_w (pc := 29) g dJ6_bitCount_0f7a4_29 k_178 ?_
  refine r_iand (pc := 32) g dJ6_bitCount_0f7a4_32 ?_
  refine r_istore_n (pc := 33) (lv' := [(0, .int (((((x0 - (((x0.toUInt32 >>> (((1 : Int32)).toUInt32 &&& Int32.toUInt32 31)).toInt32) &&& 1431655765)) &&& 858993459) + ((((x0 - (((x0.toUInt32 >>> (((1 : Int32)).toUInt32 &&& Int32.toUInt32 31)).toInt32) &&& 1431655765)).toUInt32 >>> (((2 : Int32)).toUInt32 &&& Int32.toUInt32 31)).toInt32) &&& 858993459)) + (((((x0 - (((x0.toUInt32 >>> (((1 : Int32)).toUInt32 &&& Int32.toUInt32 31)).toInt32) &&& 1431655765)) &&& 858993459) + ((((x0 - (((x0.toUInt32 >>> (((1 : Int32)).toUInt32 &&& Int32.toUInt32 31)).toInt32) &&& 1431655765)).toUInt32 >>> (((2 : Int32)).toUInt32 &&& Int32.toUInt32 31)).toInt32) &&& 858993459)).toUInt32 >>> (((4 : Int32)).toUInt32 &&& Int32.toUInt32 31)).toInt32)) &&& 252645135))]) g dJ6_bitCount_0f7a4_33 rfl rfl ?_
  refine r_iload_n (pc := 34) 0 g dJ6_bitCount_0f7a4_34 rfl ?_
  refine r_iload_n (pc := 35) 0 g dJ6_bitCount_0f7a4_35 rfl ?_
  refine r_bipush (pc := 36) g dJ6_bitCount_0f7a4_36 cb_8 ?_
  refine r_iushr (pc := 38) g dJ6_bitCount_0f7a4_38 ?_
  refine r_iadd (pc := 39) g dJ6_bitCount_0f7a4_39 ?_
  refine r_istore_n (pc := 40) (lv' := [(0, .int ((((((x0 - (((x0.toUInt32 >>> (((1 : Int32)).toUInt32 &&& Int32.toUInt32 31)).toInt32) &&& 1431655765)) &&& 858993459) + ((((x0 - (((x0.toUInt32 >>> (((1 : Int32)).toUInt32 &&& Int32.toUInt32 31)).toInt32) &&& 1431655765)).toUInt32 >>> (((2 : Int32)).toUInt32 &&& Int32.toUInt32 31)).toInt32) &&& 858993459)) + (((((x0 - (((x0.toUInt32 >>> (((1 : Int32)).toUInt32 &&& Int32.toUInt32 31)).toInt32) &&& 1431655765)) &&& 858993459) + ((((x0 - (((x0.toUInt32 >>> (((1 : Int32)).toUInt32 &&& Int32.toUInt32 31)).toInt32) &&& 1431655765)).toUInt32 >>> (((2 : Int32)).toUInt32 &&& Int32.toUInt32 31)).toInt32) &&& 858993459)).toUInt32 >>> (((4 : Int32)).toUInt32 &&& Int32.toUInt32 31)).toInt32)) &&& 252645135) + (((((((x0 - (((x0.toUInt32 >>> (((1 : Int32)).toUInt32 &&& Int32.toUInt32 31)).toInt32) &&& 1431655765)) &&& 858993459) + ((((x0 - (((x0.toUInt32 >>> (((1 : Int32)).toUInt32 &&& Int32.toUInt32 31)).toInt32) &&& 1431655765)).toUInt32 >>> (((2 : Int32)).toUInt32 &&& Int32.toUInt32 31)).toInt32) &&& 858993459)) + (((((x0 - (((x0.toUInt32 >>> (((1 : Int32)).toUInt32 &&& Int32.toUInt32 31)).toInt32) &&& 1431655765)) &&& 858993459) + ((((x0 - (((x0.toUInt32 >>> (((1 : Int32)).toUInt32 &&& Int32.toUInt32 31)).toInt32) &&& 1431655765)).toUInt32 >>> (((2 : Int32)).toUInt32 &&& Int32.toUInt32 31)).toInt32) &&& 858993459)).toUInt32 >>> (((4 : Int32)).toUInt32 &&& Int32.toUInt32 31)).toInt32)) &&& 252645135).toUInt32 >>> (((8 : Int32)).toUInt32 &&& Int32.toUInt32 31)).toInt32)))]) g dJ6_bitCount_0f7a4_40 rfl rfl ?_
  refine r_iload_n (pc := 41) 0 g dJ6_bitCount_0f7a4_41 rfl ?_
  refine r_iload_n (pc := 42) 0 g dJ6_bitCount_0f7a4_42 rfl ?_
  refine r_bipush (pc := 43) g dJ6_bitCount_0f7a4_43 cb_16 ?_
  refine r_iushr (pc := 45) g dJ6_bitCount_0f7a4_45 ?_
  refine r_iadd (pc := 46) g dJ6_bitCount_0f7a4_46 ?_
  refine r_istore_n (pc := 47) (lv' := [(0, .int (((((((x0 - (((x0.toUInt32 >>> (((1 : Int32)).toUInt32 &&& Int32.toUInt32 31)).toInt32) &&& 1431655765)) &&& 858993459) + ((((x0 - (((x0.toUInt32 >>> (((1 : Int32)).toUInt32 &&& Int32.toUInt32 31)).toInt32) &&& 1431655765)).toUInt32 >>> (((2 : Int32)).toUInt32 &&& Int32.toUInt32 31)).toInt32) &&& 858993459)) + (((((x0 - (((x0.toUInt32 >>> (((1 : Int32)).toUInt32 &&& Int32.toUInt32 31)).toInt32) &&& 1431655765)) &&& 858993459) + ((((x0 - (((x0.toUInt32 >>> (((1 : Int32)).toUInt32 &&& Int32.toUInt32 31)).toInt32) &&& 1431655765)).toUInt32 >>> (((2 : Int32)).toUInt32 &&& Int32.toUInt32 31)).toInt32) &&& 858993459)).toUInt32 >>> (((4 : Int32)).toUInt32 &&& Int32.toUInt32 31)).toInt32)) &&& 252645135) + (((((((x0 - (((x0.toUInt32 >>> (((1 : Int32)).toUInt32 &&& Int32.toUInt32 31)).toInt32) &&& 1431655765)) &&& 858993459) + ((((x0 - (((x0.toUInt32 >>> (((1 : Int32)).toUInt32 &&& Int32.toUInt32 31)).toInt32) &&& 1431655765)).toUInt32 >>> (((2 : Int32)).toUInt32 &&& Int32.toUInt32 31)).toInt32) &&& 858993459)) + (((((x0 - (((x0.toUInt32 >>> (((1 : Int32)).toUInt32 &&& Int32.toUInt32 31)).toInt32) &&& 1431655765)) &&& 858993459) + ((((x0 - (((x0.toUInt32 >>> (((1 : Int32)).toUInt32 &&& Int32.toUInt32 31)).toInt32) &&& 1431655765)).toUInt32 >>> (((2 : Int32)).toUInt32 &&& Int32.toUInt32 31)).toInt32) &&& 858993459)).toUInt32 >>> (((4 : Int32)).toUInt32 &&& Int32.toUInt32 31)).toInt32)) &&& 252645135).toUInt32 >>> (((8 : Int32)).toUInt32 &&& Int32.toUInt32 31)).toInt32)) + ((((((((x0 - (((x0.toUInt32 >>> (((1 : Int32)).toUInt32 &&& Int32.toUInt32 31)).toInt32) &&& 1431655765)) &&& 858993459) + ((((x0 - (((x0.toUInt32 >>> (((1 : Int32)).toUInt32 &&& Int32.toUInt32 31)).toInt32) &&& 1431655765)).toUInt32 >>> (((2 : Int32)).toUInt32 &&& Int32.toUInt32 31)).toInt32) &&& 858993459)) + (((((x0 - (((x0.toUInt32 >>> (((1 : Int32)).toUInt32 &&& Int32.toUInt32 31)).toInt32) &&& 1431655765)) &&& 858993459) + ((((x0 - (((x0.toUInt32 >>> (((1 : Int32)).toUInt32 &&& Int32.toUInt32 31)).toInt32) &&& 1431655765)).toUInt32 >>> (((2 : Int32)).toUInt32 &&& Int32.toUInt32 31)).toInt32) &&& 858993459)).toUInt32 >>> (((4 : Int32)).toUInt32 &&& Int32.toUInt32 31)).toInt32)) &&& 252645135) + (((((((x0 - (((x0.toUInt32 >>> (((1 : Int32)).toUInt32 &&& Int32.toUInt32 31)).toInt32) &&& 1431655765)) &&& 858993459) + ((((x0 - (((x0.toUInt32 >>> (((1 : Int32)).toUInt32 &&& Int32.toUInt32 31)).toInt32) &&& 1431655765)).toUInt32 >>> (((2 : Int32)).toUInt32 &&& Int32.toUInt32 31)).toInt32) &&& 858993459)) + (((((x0 - (((x0.toUInt32 >>> (((1 : Int32)).toUInt32 &&& Int32.toUInt32 31)).toInt32) &&& 1431655765)) &&& 858993459) + ((((x0 - (((x0.toUInt32 >>> (((1 : Int32)).toUInt32 &&& Int32.toUInt32 31)).toInt32) &&& 1431655765)).toUInt32 >>> (((2 : Int32)).toUInt32 &&& Int32.toUInt32 31)).toInt32) &&& 858993459)).toUInt32 >>> (((4 : Int32)).toUInt32 &&& Int32.toUInt32 31)).toInt32)) &&& 252645135).toUInt32 >>> (((8 : Int32)).toUInt32 &&& Int32.toUInt32 31)).toInt32)).toUInt32 >>> (((16 : Int32)).toUInt32 &&& Int32.toUInt32 31)).toInt32)))]) g dJ6_bitCount_0f7a4_47 rfl rfl ?_
  refine r_iload_n (pc := 48) 0 g dJ6_bitCount_0f7a4_48 rfl ?_
  refine r_bipush (pc := 49) g dJ6_bitCount_0f7a4_49 cb_63 ?_
  refine r_iand (pc := 51) g dJ6_bitCount_0f7a4_51 ?_
  exact r_ireti (pc := 52) g hR dJ6_bitCount_0f7a4_52 h
abbrev rm_X10_all : Room := { frames := 0, cells := 0, slots := 0, locals := 0 }
def T_X10_all (μ : Mem) (post : Int32 → Mem → Prop) : Prop :=
  post (((1 : Int32) <<< ((μ 13 4) &&& 31)) - 1) μ
theorem m_X10_all {w : Wd} {l : Launch} {D : va_G} {A : Nat → Prop} (μ : Mem) (post : Int32 → Mem → Prop) (h : T_X10_all μ post) : MetX l D A w shX 58 yX10_all cX10_all 1 (some .int) rm_X10_all [.ref (w.1 13)] μ (pI post) := by
  refine metX_of (by decide) rfl (lv := [(0, .ref (w.1 13))]) rfl (fun X hX g hR => ?_)
  refine r_iconst (pc := 0) g dX10_all_0 ci_1 ?_
  refine r_aload_n (pc := 1) 0 g dX10_all_1 rfl ?_
  refine r_geti (pc := 2) (μ := μ) g dX10_all_2 fa_RX10_28 shX_out sX_13 rfl ?_
  refine r_ishl (pc := 5) g dX10_all_5 ?_
  refine r_iconst (pc := 6) g dX10_all_6 ci_1 ?_
  refine r_isub (pc := 7) g dX10_all_7 ?_
  exact r_ireti (pc := 8) g hR dX10_all_8 h
abbrev rm_X10_isClosed : Room := { frames := 0, cells := 0, slots := 0, locals := 0 }
def B_X10_isClosed_2 (post : Int32 → Mem → Prop) (P2 : Int32 → Int32 → Mem → Prop) (x1 : Int32) (x2 : Int32) (μ : Mem) : Prop :=
  (((μ 13 4) ≤ x2 → post 1 μ) ∧ (¬ (μ 13 4) ≤ x2 → ((((x1 >>> (x2 &&& 31)) &&& 1) = 0 → P2 x1 (x2 + 1) μ) ∧ (¬ ((x1 >>> (x2 &&& 31)) &&& 1) = 0 → vp_in x2 9 ∧ ((((μ 15 x2.toNatClampNeg) &&& (x1 ^^^ (-1))) = 0 → P2 x1 (x2 + 1) μ) ∧ (¬ ((μ 15 x2.toNatClampNeg) &&& (x1 ^^^ (-1))) = 0 → post 0 μ))))))
def T_X10_isClosed_2 (post : Int32 → Mem → Prop) (x1 : Int32) (x2 : Int32) (μ : Mem) : Prop :=
  ∀ P2 : Int32 → Int32 → Mem → Prop, (∀ (x1 : Int32) (x2 : Int32) (μ : Mem), B_X10_isClosed_2 post P2 x1 x2 μ → P2 x1 x2 μ) → P2 x1 x2 μ
theorem bv_X10_isClosed_2 {X : Cx} {w : Wd} {l : Launch} {D : va_G} {A : Nat → Prop} (g : Gd X w RX10 cX10_isClosed 3 rm_X10_isClosed) (hX : atX X l D A) (post : Int32 → Mem → Prop) (hR : Rt X w shX 58 (some .boolean) (pI post)) (P2 : Int32 → Int32 → Mem → Prop) (hP2 : ∀ (x1 : Int32) (x2 : Int32) (μ : Mem), P2 x1 x2 μ → V X 2 [(0, .ref (w.1 13)), (1, .int x1), (2, .int x2)] [] (wls w shX 58 μ)) (x1 : Int32) (x2 : Int32) (μ : Mem) (h : B_X10_isClosed_2 post P2 x1 x2 μ) : V X 2 [(0, .ref (w.1 13)), (1, .int x1), (2, .int x2)] [] (wls w shX 58 μ) := by
  refine r_iload_n (pc := 2) 2 g dX10_isClosed_2 rfl ?_
  refine r_aload_n (pc := 3) 0 g dX10_isClosed_3 rfl ?_
  refine r_geti (pc := 4) (μ := μ) g dX10_isClosed_4 fa_RX10_28 shX_out sX_13 rfl ?_
  refine r_icmp_ge (pc := 7) 39 g dX10_isClosed_7 rfl (fun q => ?_) (fun q => ?_)
  · have h := h.1 q
    refine r_iconst (pc := 39) g dX10_isClosed_39 ci_1 ?_
    exact r_zreti (pc := 40) g hR dX10_isClosed_40 (Or.inr rfl) h
  · have h := h.2 q
    refine r_iload_n (pc := 10) 1 g dX10_isClosed_10 rfl ?_
    refine r_iload_n (pc := 11) 2 g dX10_isClosed_11 rfl ?_
    refine r_ishr (pc := 12) g dX10_isClosed_12 ?_
    refine r_iconst (pc := 13) g dX10_isClosed_13 ci_1 ?_
    refine r_iand (pc := 14) g dX10_isClosed_14 ?_
    refine r_if_eq (pc := 15) 33 g dX10_isClosed_15 rfl (fun q => ?_) (fun q => ?_)
    · have h := h.1 q
      refine r_iinc (pc := 33) (lv' := [(2, .int (x2 + 1)), (0, .ref (w.1 13)), (1, .int x1)]) 2 g dX10_isClosed_33 rfl ci_1 rfl rfl ?_
      refine r_goto (pc := 36) 2 g dX10_isClosed_36 rfl ?_
      refine r_sub [1, 2, 0] (lv' := [(0, .ref (w.1 13)), (1, .int x1), (2, .int (x2 + 1))]) rfl ?_
      exact hP2 x1 (x2 + 1) μ h
    · have h := h.2 q
      refine r_aload_n (pc := 18) 0 g dX10_isClosed_18 rfl ?_
      refine r_getr (pc := 19) (μ := μ) g dX10_isClosed_19 fa_RX10_15 shX_out sX_13 rfl ?_
      refine r_iload_n (pc := 22) 2 g dX10_isClosed_22 rfl ?_
      obtain ⟨b1, h⟩ := h
      refine r_iaload (pc := 23) (μ := μ) g dX10_isClosed_23 shX_out sX_15 b1 ?_
      refine r_iload_n (pc := 24) 1 g dX10_isClosed_24 rfl ?_
      refine r_iconst (pc := 25) g dX10_isClosed_25 ci_m1 ?_
      refine r_ixor (pc := 26) g dX10_isClosed_26 ?_
      refine r_iand (pc := 27) g dX10_isClosed_27 ?_
      refine r_if_eq (pc := 28) 33 g dX10_isClosed_28 rfl (fun q => ?_) (fun q => ?_)
      · have h := h.1 q
        refine r_iinc (pc := 33) (lv' := [(2, .int (x2 + 1)), (0, .ref (w.1 13)), (1, .int x1)]) 2 g dX10_isClosed_33 rfl ci_1 rfl rfl ?_
        refine r_goto (pc := 36) 2 g dX10_isClosed_36 rfl ?_
        refine r_sub [1, 2, 0] (lv' := [(0, .ref (w.1 13)), (1, .int x1), (2, .int (x2 + 1))]) rfl ?_
        exact hP2 x1 (x2 + 1) μ h
      · have h := h.2 q
        refine r_iconst (pc := 31) g dX10_isClosed_31 ci_0 ?_
        exact r_zreti (pc := 32) g hR dX10_isClosed_32 (Or.inl rfl) h
theorem v_X10_isClosed_2 {X : Cx} {w : Wd} {l : Launch} {D : va_G} {A : Nat → Prop} (g : Gd X w RX10 cX10_isClosed 3 rm_X10_isClosed) (hX : atX X l D A) (post : Int32 → Mem → Prop) (hR : Rt X w shX 58 (some .boolean) (pI post)) (x1 : Int32) (x2 : Int32) (μ : Mem) (h : T_X10_isClosed_2 post x1 x2 μ) : V X 2 [(0, .ref (w.1 13)), (1, .int x1), (2, .int x2)] [] (wls w shX 58 μ) :=
  h (fun x1 x2 μ => V X 2 [(0, .ref (w.1 13)), (1, .int x1), (2, .int x2)] [] (wls w shX 58 μ)) (fun x1 x2 μ h => bv_X10_isClosed_2 g hX post hR (fun x1 x2 μ => V X 2 [(0, .ref (w.1 13)), (1, .int x1), (2, .int x2)] [] (wls w shX 58 μ)) (fun _ _ _ h => h) x1 x2 μ h)
def T_X10_isClosed (x1 : Int32) (μ : Mem) (post : Int32 → Mem → Prop) : Prop :=
  T_X10_isClosed_2 post x1 0 μ
theorem m_X10_isClosed {w : Wd} {l : Launch} {D : va_G} {A : Nat → Prop} (x1 : Int32) (μ : Mem) (post : Int32 → Mem → Prop) (h : T_X10_isClosed x1 μ post) : MetX l D A w shX 58 yX10_isClosed cX10_isClosed 3 (some .boolean) rm_X10_isClosed [.ref (w.1 13), .int x1] μ (pI post) := by
  refine metX_of (by decide) rfl (lv := [(0, .ref (w.1 13)), (1, .int x1)]) rfl (fun X hX g hR => ?_)
  refine r_iconst (pc := 0) g dX10_isClosed_0 ci_0 ?_
  refine r_istore_n (pc := 1) (lv' := [(2, .int 0), (0, .ref (w.1 13)), (1, .int x1)]) g dX10_isClosed_1 rfl rfl ?_
  refine r_sub [1, 2, 0] (lv' := [(0, .ref (w.1 13)), (1, .int x1), (2, .int 0)]) rfl ?_
  exact v_X10_isClosed_2 g hX post hR x1 0 μ h
abbrev rm_X10_neededBy : Room := { frames := 0, cells := 0, slots := 0, locals := 0 }
def B_X10_neededBy_4 (post : Int32 → Mem → Prop) (P4 : Int32 → Int32 → Int32 → Mem → Prop) (x1 : Int32) (x2 : Int32) (x3 : Int32) (μ : Mem) : Prop :=
  (((μ 13 4) ≤ x3 → post x2 μ) ∧ (¬ (μ 13 4) ≤ x3 → ((((x1 >>> (x3 &&& 31)) &&& 1) = 0 → P4 x1 x2 (x3 + 1) μ) ∧ (¬ ((x1 >>> (x3 &&& 31)) &&& 1) = 0 → vp_in x3 9 ∧ P4 x1 (x2 ||| (μ 14 x3.toNatClampNeg)) (x3 + 1) μ))))
def T_X10_neededBy_4 (post : Int32 → Mem → Prop) (x1 : Int32) (x2 : Int32) (x3 : Int32) (μ : Mem) : Prop :=
  ∀ P4 : Int32 → Int32 → Int32 → Mem → Prop, (∀ (x1 : Int32) (x2 : Int32) (x3 : Int32) (μ : Mem), B_X10_neededBy_4 post P4 x1 x2 x3 μ → P4 x1 x2 x3 μ) → P4 x1 x2 x3 μ
theorem bv_X10_neededBy_4 {X : Cx} {w : Wd} {l : Launch} {D : va_G} {A : Nat → Prop} (g : Gd X w RX10 cX10_neededBy 4 rm_X10_neededBy) (hX : atX X l D A) (post : Int32 → Mem → Prop) (hR : Rt X w shX 58 (some .int) (pI post)) (P4 : Int32 → Int32 → Int32 → Mem → Prop) (hP4 : ∀ (x1 : Int32) (x2 : Int32) (x3 : Int32) (μ : Mem), P4 x1 x2 x3 μ → V X 4 [(0, .ref (w.1 13)), (1, .int x1), (2, .int x2), (3, .int x3)] [] (wls w shX 58 μ)) (x1 : Int32) (x2 : Int32) (x3 : Int32) (μ : Mem) (h : B_X10_neededBy_4 post P4 x1 x2 x3 μ) : V X 4 [(0, .ref (w.1 13)), (1, .int x1), (2, .int x2), (3, .int x3)] [] (wls w shX 58 μ) := by
  refine r_iload_n (pc := 4) 3 g dX10_neededBy_4 rfl ?_
  refine r_aload_n (pc := 5) 0 g dX10_neededBy_5 rfl ?_
  refine r_geti (pc := 6) (μ := μ) g dX10_neededBy_6 fa_RX10_28 shX_out sX_13 rfl ?_
  refine r_icmp_ge (pc := 9) 35 g dX10_neededBy_9 rfl (fun q => ?_) (fun q => ?_)
  · have h := h.1 q
    refine r_iload_n (pc := 35) 2 g dX10_neededBy_35 rfl ?_
    exact r_ireti (pc := 36) g hR dX10_neededBy_36 h
  · have h := h.2 q
    refine r_iload_n (pc := 12) 1 g dX10_neededBy_12 rfl ?_
    refine r_iload_n (pc := 13) 3 g dX10_neededBy_13 rfl ?_
    refine r_ishr (pc := 14) g dX10_neededBy_14 ?_
    refine r_iconst (pc := 15) g dX10_neededBy_15 ci_1 ?_
    refine r_iand (pc := 16) g dX10_neededBy_16 ?_
    refine r_if_eq (pc := 17) 29 g dX10_neededBy_17 rfl (fun q => ?_) (fun q => ?_)
    · have h := h.1 q
      refine r_iinc (pc := 29) (lv' := [(3, .int (x3 + 1)), (0, .ref (w.1 13)), (1, .int x1), (2, .int x2)]) 3 g dX10_neededBy_29 rfl ci_1 rfl rfl ?_
      refine r_goto (pc := 32) 4 g dX10_neededBy_32 rfl ?_
      refine r_sub [1, 2, 3, 0] (lv' := [(0, .ref (w.1 13)), (1, .int x1), (2, .int x2), (3, .int (x3 + 1))]) rfl ?_
      exact hP4 x1 x2 (x3 + 1) μ h
    · have h := h.2 q
      refine r_iload_n (pc := 20) 2 g dX10_neededBy_20 rfl ?_
      refine r_aload_n (pc := 21) 0 g dX10_neededBy_21 rfl ?_
      refine r_getr (pc := 22) (μ := μ) g dX10_neededBy_22 fa_RX10_9 shX_out sX_13 rfl ?_
      refine r_iload_n (pc := 25) 3 g dX10_neededBy_25 rfl ?_
      obtain ⟨b1, h⟩ := h
      refine r_iaload (pc := 26) (μ := μ) g dX10_neededBy_26 shX_out sX_14 b1 ?_
      refine r_ior (pc := 27) g dX10_neededBy_27 ?_
      refine r_istore_n (pc := 28) (lv' := [(2, .int (x2 ||| (μ 14 x3.toNatClampNeg))), (0, .ref (w.1 13)), (1, .int x1), (3, .int x3)]) g dX10_neededBy_28 rfl rfl ?_
      refine r_iinc (pc := 29) (lv' := [(3, .int (x3 + 1)), (2, .int (x2 ||| (μ 14 x3.toNatClampNeg))), (0, .ref (w.1 13)), (1, .int x1)]) 3 g dX10_neededBy_29 rfl ci_1 rfl rfl ?_
      refine r_goto (pc := 32) 4 g dX10_neededBy_32 rfl ?_
      refine r_sub [2, 3, 1, 0] (lv' := [(0, .ref (w.1 13)), (1, .int x1), (2, .int (x2 ||| (μ 14 x3.toNatClampNeg))), (3, .int (x3 + 1))]) rfl ?_
      exact hP4 x1 (x2 ||| (μ 14 x3.toNatClampNeg)) (x3 + 1) μ h
theorem v_X10_neededBy_4 {X : Cx} {w : Wd} {l : Launch} {D : va_G} {A : Nat → Prop} (g : Gd X w RX10 cX10_neededBy 4 rm_X10_neededBy) (hX : atX X l D A) (post : Int32 → Mem → Prop) (hR : Rt X w shX 58 (some .int) (pI post)) (x1 : Int32) (x2 : Int32) (x3 : Int32) (μ : Mem) (h : T_X10_neededBy_4 post x1 x2 x3 μ) : V X 4 [(0, .ref (w.1 13)), (1, .int x1), (2, .int x2), (3, .int x3)] [] (wls w shX 58 μ) :=
  h (fun x1 x2 x3 μ => V X 4 [(0, .ref (w.1 13)), (1, .int x1), (2, .int x2), (3, .int x3)] [] (wls w shX 58 μ)) (fun x1 x2 x3 μ h => bv_X10_neededBy_4 g hX post hR (fun x1 x2 x3 μ => V X 4 [(0, .ref (w.1 13)), (1, .int x1), (2, .int x2), (3, .int x3)] [] (wls w shX 58 μ)) (fun _ _ _ _ h => h) x1 x2 x3 μ h)
def T_X10_neededBy (x1 : Int32) (μ : Mem) (post : Int32 → Mem → Prop) : Prop :=
  T_X10_neededBy_4 post x1 0 0 μ
theorem m_X10_neededBy {w : Wd} {l : Launch} {D : va_G} {A : Nat → Prop} (x1 : Int32) (μ : Mem) (post : Int32 → Mem → Prop) (h : T_X10_neededBy x1 μ post) : MetX l D A w shX 58 yX10_neededBy cX10_neededBy 4 (some .int) rm_X10_neededBy [.ref (w.1 13), .int x1] μ (pI post) := by
  refine metX_of (by decide) rfl (lv := [(0, .ref (w.1 13)), (1, .int x1)]) rfl (fun X hX g hR => ?_)
  refine r_iconst (pc := 0) g dX10_neededBy_0 ci_0 ?_
  refine r_istore_n (pc := 1) (lv' := [(2, .int 0), (0, .ref (w.1 13)), (1, .int x1)]) g dX10_neededBy_1 rfl rfl ?_
  refine r_iconst (pc := 2) g dX10_neededBy_2 ci_0 ?_
  refine r_istore_n (pc := 3) (lv' := [(3, .int 0), (2, .int 0), (0, .ref (w.1 13)), (1, .int x1)]) g dX10_neededBy_3 rfl rfl ?_
  refine r_sub [2, 3, 1, 0] (lv' := [(0, .ref (w.1 13)), (1, .int x1), (2, .int 0), (3, .int 0)]) rfl ?_
  exact v_X10_neededBy_4 g hX post hR x1 0 0 μ h
abbrev rm_X5_sum : Room := { frames := 0, cells := 0, slots := 0, locals := 0 }
def T_X5_sum (c : Nat) (x1 : Int32) (μ : Mem) (post : Int32 → Mem → Prop) : Prop :=
  vp_in (x1 &&& 31) 32 ∧ vp_in ((x1 >>> ((5 : Int32) &&& 31)) &&& 31) 32 ∧ post ((μ (c + 1) (x1 &&& 31).toNatClampNeg) + (μ (c + 2) ((x1 >>> ((5 : Int32) &&& 31)) &&& 31).toNatClampNeg)) μ
theorem m_X5_sum {w : Wd} {l : Launch} {D : va_G} {A : Nat → Prop} (c : Nat) (hc : isScale c) (x1 : Int32) (μ : Mem) (post : Int32 → Mem → Prop) (h : T_X5_sum c x1 μ post) : MetX l D A w shX 58 yX5_sum cX5_sum 2 (some .int) rm_X5_sum [.ref (w.1 c), .int x1] μ (pI post) := by
  refine metX_of (by decide) rfl (lv := [(0, .ref (w.1 c)), (1, .int x1)]) rfl (fun X hX g hR => ?_)
  refine r_aload_n (pc := 0) 0 g dX5_sum_0 rfl ?_
  refine r_getr (pc := 1) (μ := μ) g dX5_sum_1 fa_RX5_9 shX_out (sc_0 hc) rfl ?_
  refine r_iload_n (pc := 4) 1 g dX5_sum_4 rfl ?_
  refine r_bipush (pc := 5) g dX5_sum_5 cb_31 ?_
  refine r_iand (pc := 7) g dX5_sum_7 ?_
  obtain ⟨b1, h⟩ := h
  refine r_iaload (pc := 8) (μ := μ) g dX5_sum_8 shX_out (sc_1 hc) b1 ?_
  refine r_aload_n (pc := 9) 0 g dX5_sum_9 rfl ?_
  refine r_getr (pc := 10) (μ := μ) g dX5_sum_10 fa_RX5_13 shX_out (sc_0 hc) rfl ?_
  refine r_iload_n (pc := 13) 1 g dX5_sum_13 rfl ?_
  refine r_iconst (pc := 14) g dX5_sum_14 ci_5 ?_
  refine r_ishr (pc := 15) g dX5_sum_15 ?_
  refine r_bipush (pc := 16) g dX5_sum_16 cb_31 ?_
  refine r_iand (pc := 18) g dX5_sum_18 ?_
  obtain ⟨b2, h⟩ := h
  refine r_iaload (pc := 19) (μ := μ) g dX5_sum_19 shX_out (sc_2 hc) b2 ?_
  refine r_iadd (pc := 20) g dX5_sum_20 ?_
  exact r_ireti (pc := 21) g hR dX5_sum_21 h
abbrev rm_X0_fillCrossings : Room := { frames := 1, cells := 0, slots := 0, locals := 23 }
def B_X0_fillCrossings_37 (post : Mem → Prop) (P37 : Int32 → Int32 → Mem → Prop) (x1 : Int32) (x2 : Int32) (μ : Mem) : Prop :=
  ((x1 < x2 → post μ) ∧ (¬ x1 < x2 → T_X10_isClosed x2 μ (fun (u1 : Int32) (μ2 : Mem) => ((u1 = 0 → P37 x1 (x2 + 1) μ2) ∧ (¬ u1 = 0 → T_J6_bitCount_0f7a4 x2 μ2 (fun (u3 : Int32) (μ4 : Mem) => T_X10_neededBy x2 μ4 (fun (u5 : Int32) (μ6 : Mem) => T_X10_neededBy (x1 &&& (x2 ^^^ (-1))) μ6 (fun (u7 : Int32) (μ8 : Mem) => vp_in u3 10 ∧ T_X5_sum 16 (u5 &&& u7) μ8 (fun (u10 : Int32) (μ11 : Mem) => vp_in u3 10 ∧ P37 x1 (x2 + 1) (mset μ11 48 u3.toNatClampNeg (if u10 < (μ8 48 u3.toNatClampNeg) then u10 else (μ8 48 u3.toNatClampNeg))))))))))))
def T_X0_fillCrossings_37 (post : Mem → Prop) (x1 : Int32) (x2 : Int32) (μ : Mem) : Prop :=
  ∀ P37 : Int32 → Int32 → Mem → Prop, (∀ (x1 : Int32) (x2 : Int32) (μ : Mem), B_X0_fillCrossings_37 post P37 x1 x2 μ → P37 x1 x2 μ) → P37 x1 x2 μ
theorem bv_X0_fillCrossings_37 {X : Cx} {w : Wd} {l : Launch} {D : va_G} {A : Nat → Prop} (g : Gd X w RX0 cX0_fillCrossings 5 rm_X0_fillCrossings) (hX : atX X l D A) (post : Mem → Prop) (hR : Rt X w shX 58 none (pV post)) (P37 : Int32 → Int32 → Mem → Prop) (hP37 : ∀ (x1 : Int32) (x2 : Int32) (μ : Mem), P37 x1 x2 μ → V X 37 [(0, .ref (w.1 47)), (1, .int x1), (2, .int x2)] [] (wls w shX 58 μ)) (x1 : Int32) (x2 : Int32) (μ : Mem) (h : B_X0_fillCrossings_37 post P37 x1 x2 μ) : V X 37 [(0, .ref (w.1 47)), (1, .int x1), (2, .int x2)] [] (wls w shX 58 μ) := by
  refine r_iload_n (pc := 37) 2 g dX0_fillCrossings_37 rfl ?_
  refine r_iload_n (pc := 38) 1 g dX0_fillCrossings_38 rfl ?_
  refine r_icmp_gt (pc := 39) 114 g dX0_fillCrossings_39 rfl (fun q => ?_) (fun q => ?_)
  · have h := h.1 q
    exact r_vretv (pc := 114) g hR dX0_fillCrossings_114 h
  · have h := h.2 q
    refine r_aload_n (pc := 42) 0 g dX0_fillCrossings_42 rfl ?_
    refine r_getr (pc := 43) (μ := μ) g dX0_fillCrossings_43 fa_RX0_22 shX_out sX_47 rfl ?_
    refine r_iload_n (pc := 46) 2 g dX0_fillCrossings_46 rfl ?_
    refine r_callVi (pc := 47) (st := []) g hX dX0_fillCrossings_47 (m_X10_isClosed x2 μ _ h) kb_RX0_49 kv_X10_isClosed shX_out sX_13 rfl rfl rfl rfl (fun u1 μ2 h => ?_)
    refine r_if_eq (pc := 50) 108 g dX0_fillCrossings_50 rfl (fun q => ?_) (fun q => ?_)
    · have h := h.1 q
      refine r_iinc (pc := 108) (lv' := [(2, .int (x2 + 1)), (0, .ref (w.1 47)), (1, .int x1)]) 2 g dX0_fillCrossings_108 rfl ci_1 rfl rfl ?_
      refine r_goto (pc := 111) 37 g dX0_fillCrossings_111 rfl ?_
      refine r_sub [1, 2, 0] (lv' := [(0, .ref (w.1 47)), (1, .int x1), (2, .int (x2 + 1))]) rfl ?_
      exact hP37 x1 (x2 + 1) μ2 h
    · have h := h.2 q
      refine r_iload_n (pc := 53) 2 g dX0_fillCrossings_53 rfl ?_
      refine r_callSi (pc := 54) (st := []) g hX dX0_fillCrossings_54 (m_J6_bitCount_0f7a4 x2 μ2 _ h) kb_RX0_53 k_174 rfl rfl rfl rfl (fun u3 μ4 h => ?_)
      refine r_istore_n (pc := 57) (lv' := [(3, .int u3), (0, .ref (w.1 47)), (1, .int x1), (2, .int x2)]) g dX0_fillCrossings_57 rfl rfl ?_
      refine r_aload_n (pc := 58) 1 g dX0_fillCrossings_58 rfl ?_
      refine r_getr (pc := 59) (μ := μ4) g dX0_fillCrossings_59 fa_RX0_22 shX_out sX_47 rfl ?_
      refine r_iload_n (pc := 62) 3 g dX0_fillCrossings_62 rfl ?_
      refine r_callVi (pc := 63) (st := []) g hX dX0_fillCrossings_63 (m_X10_neededBy x2 μ4 _ h) kb_RX0_59 kv_X10_neededBy shX_out sX_13 rfl rfl rfl rfl (fun u5 μ6 h => ?_)
      refine r_aload_n (pc := 66) 1 g dX0_fillCrossings_66 rfl ?_
      refine r_getr (pc := 67) (μ := μ6) g dX0_fillCrossings_67 fa_RX0_22 shX_out sX_47 rfl ?_
      refine r_iload_n (pc := 70) 2 g dX0_fillCrossings_70 rfl ?_
      refine r_iload_n (pc := 71) 3 g dX0_fillCrossings_71 rfl ?_
      refine r_iconst (pc := 72) g dX0_fillCrossings_72 ci_m1 ?_
      refine r_ixor (pc := 73) g dX0_fillCrossings_73 ?_
      refine r_iand (pc := 74) g dX0_fillCrossings_74 ?_
      refine r_callVi (pc := 75) (st := [.int u5]) g hX dX0_fillCrossings_75 (m_X10_neededBy (x1 &&& (x2 ^^^ (-1))) μ6 _ h) kb_RX0_59 kv_X10_neededBy shX_out sX_13 rfl rfl rfl rfl (fun u7 μ8 h => ?_)
      refine r_iand (pc := 78) g dX0_fillCrossings_78 ?_
      refine r_istore (pc := 79) (lv' := [(4, .int (u5 &&& u7)), (3, .int u3), (0, .ref (w.1 47)), (1, .int x1), (2, .int x2)]) g dX0_fillCrossings_79 rfl rfl ?_
      refine r_aload_n (pc := 81) 2 g dX0_fillCrossings_81 rfl ?_
      refine r_getr (pc := 82) (μ := μ8) g dX0_fillCrossings_82 fa_RX0_9 shX_out sX_47 rfl ?_
      refine r_iload_n (pc := 85) 1 g dX0_fillCrossings_85 rfl ?_
      refine r_aload_n (pc := 86) 2 g dX0_fillCrossings_86 rfl ?_
      refine r_getr (pc := 87) (μ := μ8) g dX0_fillCrossings_87 fa_RX0_9 shX_out sX_47 rfl ?_
      refine r_iload_n (pc := 90) 1 g dX0_fillCrossings_90 rfl ?_
      obtain ⟨b9, h⟩ := h
      refine r_iaload (pc := 91) (μ := μ8) g dX0_fillCrossings_91 shX_out sX_48 b9 ?_
      refine r_aload_n (pc := 92) 2 g dX0_fillCrossings_92 rfl ?_
      refine r_getr (pc := 93) (μ := μ8) g dX0_fillCrossings_93 fa_RX0_22 shX_out sX_47 rfl ?_
      refine r_getr (pc := 96) (μ := μ8) g dX0_fillCrossings_96 fa_RX0_62 shX_out sX_13 rfl ?_
      refine r_iload (pc := 99) 0 g dX0_fillCrossings_99 rfl ?_
      refine r_callVi (pc := 101) (st := [.int (μ8 48 u3.toNatClampNeg), .int u3, .ref (w.1 48)]) g hX dX0_fillCrossings_101 (m_X5_sum 16 (Or.inl rfl) (u5 &&& u7) μ8 _ h) kb_RX0_66 kv_X5_sum shX_out (sc_0 (Or.inl rfl)) rfl rfl rfl rfl (fun u10 μ11 h => ?_)
      refine r_min (pc := 104) g dX0_fillCrossings_104 kj_RX0_71 ⟨rfl, rfl⟩ ?_
      obtain ⟨b12, h⟩ := h
      refine r_iastore (pc := 107) (μ := μ11) g dX0_fillCrossings_107 shX_out sX_48 b12 ?_
      refine r_iinc (pc := 108) (lv' := [(2, .int (x2 + 1)), (4, .int (u5 &&& u7)), (3, .int u3), (0, .ref (w.1 47)), (1, .int x1)]) 4 g dX0_fillCrossings_108 rfl ci_1 rfl rfl ?_
      refine r_goto (pc := 111) 37 g dX0_fillCrossings_111 rfl ?_
      refine r_sub [3, 4, 0] (lv' := [(0, .ref (w.1 47)), (1, .int x1), (2, .int (x2 + 1))]) rfl ?_
      exact hP37 x1 (x2 + 1) (mset μ11 48 u3.toNatClampNeg (if u10 < (μ8 48 u3.toNatClampNeg) then u10 else (μ8 48 u3.toNatClampNeg))) h
theorem v_X0_fillCrossings_37 {X : Cx} {w : Wd} {l : Launch} {D : va_G} {A : Nat → Prop} (g : Gd X w RX0 cX0_fillCrossings 5 rm_X0_fillCrossings) (hX : atX X l D A) (post : Mem → Prop) (hR : Rt X w shX 58 none (pV post)) (x1 : Int32) (x2 : Int32) (μ : Mem) (h : T_X0_fillCrossings_37 post x1 x2 μ) : V X 37 [(0, .ref (w.1 47)), (1, .int x1), (2, .int x2)] [] (wls w shX 58 μ) :=
  h (fun x1 x2 μ => V X 37 [(0, .ref (w.1 47)), (1, .int x1), (2, .int x2)] [] (wls w shX 58 μ)) (fun x1 x2 μ h => bv_X0_fillCrossings_37 g hX post hR (fun x1 x2 μ => V X 37 [(0, .ref (w.1 47)), (1, .int x1), (2, .int x2)] [] (wls w shX 58 μ)) (fun _ _ _ h => h) x1 x2 μ h)
def B_X0_fillCrossings_2 (post : Mem → Prop) (P2 : Int32 → Mem → Prop) (x1 : Int32) (μ : Mem) : Prop :=
  (((μ 13 4) < x1 → T_X10_all μ (fun (u1 : Int32) (μ2 : Mem) => T_X0_fillCrossings_37 post u1 0 μ2)) ∧ (¬ (μ 13 4) < x1 → vp_in x1 10 ∧ P2 (x1 + 1) (mset μ 48 x1.toNatClampNeg 1000000)))
def T_X0_fillCrossings_2 (post : Mem → Prop) (x1 : Int32) (μ : Mem) : Prop :=
  ∀ P2 : Int32 → Mem → Prop, (∀ (x1 : Int32) (μ : Mem), B_X0_fillCrossings_2 post P2 x1 μ → P2 x1 μ) → P2 x1 μ
theorem bv_X0_fillCrossings_2 {X : Cx} {w : Wd} {l : Launch} {D : va_G} {A : Nat → Prop} (g : Gd X w RX0 cX0_fillCrossings 5 rm_X0_fillCrossings) (hX : atX X l D A) (post : Mem → Prop) (hR : Rt X w shX 58 none (pV post)) (P2 : Int32 → Mem → Prop) (hP2 : ∀ (x1 : Int32) (μ : Mem), P2 x1 μ → V X 2 [(0, .ref (w.1 47)), (1, .int x1)] [] (wls w shX 58 μ)) (x1 : Int32) (μ : Mem) (h : B_X0_fillCrossings_2 post P2 x1 μ) : V X 2 [(0, .ref (w.1 47)), (1, .int x1)] [] (wls w shX 58 μ) := by
  refine r_iload_n (pc := 2) 1 g dX0_fillCrossings_2 rfl ?_
  refine r_aload_n (pc := 3) 0 g dX0_fillCrossings_3 rfl ?_
  refine r_getr (pc := 4) (μ := μ) g dX0_fillCrossings_4 fa_RX0_22 shX_out sX_47 rfl ?_
  refine r_geti (pc := 7) (μ := μ) g dX0_fillCrossings_7 fa_RX0_35 shX_out sX_13 rfl ?_
  refine r_icmp_gt (pc := 10) 27 g dX0_fillCrossings_10 rfl (fun q => ?_) (fun q => ?_)
  · have h := h.1 q
    refine r_aload_n (pc := 27) 0 g dX0_fillCrossings_27 rfl ?_
    refine r_getr (pc := 28) (μ := μ) g dX0_fillCrossings_28 fa_RX0_22 shX_out sX_47 rfl ?_
    refine r_callVi (pc := 31) (st := []) g hX dX0_fillCrossings_31 (m_X10_all μ _ h) kb_RX0_45 kv_X10_all shX_out sX_13 rfl rfl rfl rfl (fun u1 μ2 h => ?_)
    refine r_istore_n (pc := 34) (lv' := [(1, .int u1), (0, .ref (w.1 47))]) g dX0_fillCrossings_34 rfl rfl ?_
    refine r_iconst (pc := 35) g dX0_fillCrossings_35 ci_0 ?_
    refine r_istore_n (pc := 36) (lv' := [(2, .int 0), (1, .int u1), (0, .ref (w.1 47))]) g dX0_fillCrossings_36 rfl rfl ?_
    refine r_sub [2, 1, 0] (lv' := [(0, .ref (w.1 47)), (1, .int u1), (2, .int 0)]) rfl ?_
    exact v_X0_fillCrossings_37 g hX post hR u1 0 μ2 h
  · have h := h.2 q
    refine r_aload_n (pc := 13) 0 g dX0_fillCrossings_13 rfl ?_
    refine r_getr (pc := 14) (μ := μ) g dX0_fillCrossings_14 fa_RX0_9 shX_out sX_47 rfl ?_
    refine r_iload_n (pc := 17) 1 g dX0_fillCrossings_17 rfl ?_
    refine r_ldc (pc := 18) g dX0_fillCrossings_18 k_727 ?_
    obtain ⟨b3, h⟩ := h
    refine r_iastore (pc := 20) (μ := μ) g dX0_fillCrossings_20 shX_out sX_48 b3 ?_
    refine r_iinc (pc := 21) (lv' := [(1, .int (x1 + 1)), (0, .ref (w.1 47))]) 1 g dX0_fillCrossings_21 rfl ci_1 rfl rfl ?_
    refine r_goto (pc := 24) 2 g dX0_fillCrossings_24 rfl ?_
    refine r_sub [1, 0] (lv' := [(0, .ref (w.1 47)), (1, .int (x1 + 1))]) rfl ?_
    exact hP2 (x1 + 1) (mset μ 48 x1.toNatClampNeg 1000000) h
theorem v_X0_fillCrossings_2 {X : Cx} {w : Wd} {l : Launch} {D : va_G} {A : Nat → Prop} (g : Gd X w RX0 cX0_fillCrossings 5 rm_X0_fillCrossings) (hX : atX X l D A) (post : Mem → Prop) (hR : Rt X w shX 58 none (pV post)) (x1 : Int32) (μ : Mem) (h : T_X0_fillCrossings_2 post x1 μ) : V X 2 [(0, .ref (w.1 47)), (1, .int x1)] [] (wls w shX 58 μ) :=
  h (fun x1 μ => V X 2 [(0, .ref (w.1 47)), (1, .int x1)] [] (wls w shX 58 μ)) (fun x1 μ h => bv_X0_fillCrossings_2 g hX post hR (fun x1 μ => V X 2 [(0, .ref (w.1 47)), (1, .int x1)] [] (wls w shX 58 μ)) (fun _ _ h => h) x1 μ h)
def T_X0_fillCrossings (μ : Mem) (post : Mem → Prop) : Prop :=
  T_X0_fillCrossings_2 post 0 μ
theorem m_X0_fillCrossings {w : Wd} {l : Launch} {D : va_G} {A : Nat → Prop} (μ : Mem) (post : Mem → Prop) (h : T_X0_fillCrossings μ post) : MetX l D A w shX 58 yX0_fillCrossings cX0_fillCrossings 5 none rm_X0_fillCrossings [.ref (w.1 47)] μ (pV post) := by
  refine metX_of (by decide) rfl (lv := [(0, .ref (w.1 47))]) rfl (fun X hX g hR => ?_)
  refine r_iconst (pc := 0) g dX0_fillCrossings_0 ci_0 ?_
  refine r_istore_n (pc := 1) (lv' := [(1, .int 0), (0, .ref (w.1 47))]) g dX0_fillCrossings_1 rfl rfl ?_
  refine r_sub [1, 0] (lv' := [(0, .ref (w.1 47)), (1, .int 0)]) rfl ?_
  exact v_X0_fillCrossings_2 g hX post hR 0 μ h
abbrev rm_X0_fillJoined : Room := { frames := 0, cells := 0, slots := 0, locals := 0 }
def B_X0_fillJoined_17 (post : Mem → Prop) (P2 : Int32 → Mem → Prop) (P17 : Int32 → Int32 → Mem → Prop) (x1 : Int32) (x2 : Int32) (μ : Mem) : Prop :=
  (((μ 13 4) ≤ x2 → P2 (x1 + 1) μ) ∧ (¬ (μ 13 4) ≤ x2 → vp_in x2 9 ∧ (((((μ 14 x2.toNatClampNeg) >>> (x1 &&& 31)) &&& 1) = 0 → P17 x1 (x2 + 1) μ) ∧ (¬ (((μ 14 x2.toNatClampNeg) >>> (x1 &&& 31)) &&& 1) = 0 → vp_in x1 10 ∧ vp_in x2 9 ∧ vp_in x1 10 ∧ P17 x1 (x2 + 1) (mset μ 49 x1.toNatClampNeg ((μ 49 x1.toNatClampNeg) ||| (μ 14 x2.toNatClampNeg)))))))
def T_X0_fillJoined_17 (post : Mem → Prop) (P2 : Int32 → Mem → Prop) (x1 : Int32) (x2 : Int32) (μ : Mem) : Prop :=
  ∀ P17 : Int32 → Int32 → Mem → Prop, (∀ (x1 : Int32) (x2 : Int32) (μ : Mem), B_X0_fillJoined_17 post P2 P17 x1 x2 μ → P17 x1 x2 μ) → P17 x1 x2 μ
theorem bv_X0_fillJoined_17 {X : Cx} {w : Wd} {l : Launch} {D : va_G} {A : Nat → Prop} (g : Gd X w RX0 cX0_fillJoined 3 rm_X0_fillJoined) (hX : atX X l D A) (post : Mem → Prop) (hR : Rt X w shX 58 none (pV post)) (P2 : Int32 → Mem → Prop) (hP2 : ∀ (x1 : Int32) (μ : Mem), P2 x1 μ → V X 2 [(0, .ref (w.1 47)), (1, .int x1)] [] (wls w shX 58 μ)) (P17 : Int32 → Int32 → Mem → Prop) (hP17 : ∀ (x1 : Int32) (x2 : Int32) (μ : Mem), P17 x1 x2 μ → V X 17 [(0, .ref (w.1 47)), (1, .int x1), (2, .int x2)] [] (wls w shX 58 μ)) (x1 : Int32) (x2 : Int32) (μ : Mem) (h : B_X0_fillJoined_17 post P2 P17 x1 x2 μ) : V X 17 [(0, .ref (w.1 47)), (1, .int x1), (2, .int x2)] [] (wls w shX 58 μ) := by
  refine r_iload_n (pc := 17) 2 g dX0_fillJoined_17 rfl ?_
  refine r_aload_n (pc := 18) 0 g dX0_fillJoined_18 rfl ?_
  refine r_getr (pc := 19) (μ := μ) g dX0_fillJoined_19 fa_RX0_22 shX_out sX_47 rfl ?_
  refine r_geti (pc := 22) (μ := μ) g dX0_fillJoined_22 fa_RX0_35 shX_out sX_13 rfl ?_
  refine r_icmp_ge (pc := 25) 68 g dX0_fillJoined_25 rfl (fun q => ?_) (fun q => ?_)
  · have h := h.1 q
    refine r_iinc (pc := 68) (lv' := [(1, .int (x1 + 1)), (0, .ref (w.1 47)), (2, .int x2)]) 1 g dX0_fillJoined_68 rfl ci_1 rfl rfl ?_
    refine r_goto (pc := 71) 2 g dX0_fillJoined_71 rfl ?_
    refine r_sub [1, 0] (lv' := [(0, .ref (w.1 47)), (1, .int (x1 + 1))]) rfl ?_
    exact hP2 (x1 + 1) μ h
  · have h := h.2 q
    refine r_aload_n (pc := 28) 0 g dX0_fillJoined_28 rfl ?_
    refine r_getr (pc := 29) (μ := μ) g dX0_fillJoined_29 fa_RX0_22 shX_out sX_47 rfl ?_
    refine r_getr (pc := 32) (μ := μ) g dX0_fillJoined_32 fa_RX0_86 shX_out sX_13 rfl ?_
    refine r_iload_n (pc := 35) 2 g dX0_fillJoined_35 rfl ?_
    obtain ⟨b1, h⟩ := h
    refine r_iaload (pc := 36) (μ := μ) g dX0_fillJoined_36 shX_out sX_14 b1 ?_
    refine r_iload_n (pc := 37) 1 g dX0_fillJoined_37 rfl ?_
    refine r_ishr (pc := 38) g dX0_fillJoined_38 ?_
    refine r_iconst (pc := 39) g dX0_fillJoined_39 ci_1 ?_
    refine r_iand (pc := 40) g dX0_fillJoined_40 ?_
    refine r_if_eq (pc := 41) 62 g dX0_fillJoined_41 rfl (fun q => ?_) (fun q => ?_)
    · have h := h.1 q
      refine r_iinc (pc := 62) (lv' := [(2, .int (x2 + 1)), (0, .ref (w.1 47)), (1, .int x1)]) 2 g dX0_fillJoined_62 rfl ci_1 rfl rfl ?_
      refine r_goto (pc := 65) 17 g dX0_fillJoined_65 rfl ?_
      refine r_sub [1, 2, 0] (lv' := [(0, .ref (w.1 47)), (1, .int x1), (2, .int (x2 + 1))]) rfl ?_
      exact hP17 x1 (x2 + 1) μ h
    · have h := h.2 q
      refine r_aload_n (pc := 44) 0 g dX0_fillJoined_44 rfl ?_
      refine r_getr (pc := 45) (μ := μ) g dX0_fillJoined_45 fa_RX0_15 shX_out sX_47 rfl ?_
      refine r_iload_n (pc := 48) 1 g dX0_fillJoined_48 rfl ?_
      refine r_dup2 (pc := 49) g dX0_fillJoined_49 rfl rfl ?_
      obtain ⟨b2, h⟩ := h
      refine r_iaload (pc := 50) (μ := μ) g dX0_fillJoined_50 shX_out sX_49 b2 ?_
      refine r_aload_n (pc := 51) 0 g dX0_fillJoined_51 rfl ?_
      refine r_getr (pc := 52) (μ := μ) g dX0_fillJoined_52 fa_RX0_22 shX_out sX_47 rfl ?_
      refine r_getr (pc := 55) (μ := μ) g dX0_fillJoined_55 fa_RX0_86 shX_out sX_13 rfl ?_
      refine r_iload_n (pc := 58) 2 g dX0_fillJoined_58 rfl ?_
      obtain ⟨b3, h⟩ := h
      refine r_iaload (pc := 59) (μ := μ) g dX0_fillJoined_59 shX_out sX_14 b3 ?_
      refine r_ior (pc := 60) g dX0_fillJoined_60 ?_
      obtain ⟨b4, h⟩ := h
      refine r_iastore (pc := 61) (μ := μ) g dX0_fillJoined_61 shX_out sX_49 b4 ?_
      refine r_iinc (pc := 62) (lv' := [(2, .int (x2 + 1)), (0, .ref (w.1 47)), (1, .int x1)]) 2 g dX0_fillJoined_62 rfl ci_1 rfl rfl ?_
      refine r_goto (pc := 65) 17 g dX0_fillJoined_65 rfl ?_
      refine r_sub [1, 2, 0] (lv' := [(0, .ref (w.1 47)), (1, .int x1), (2, .int (x2 + 1))]) rfl ?_
      exact hP17 x1 (x2 + 1) (mset μ 49 x1.toNatClampNeg ((μ 49 x1.toNatClampNeg) ||| (μ 14 x2.toNatClampNeg))) h
theorem v_X0_fillJoined_17 {X : Cx} {w : Wd} {l : Launch} {D : va_G} {A : Nat → Prop} (g : Gd X w RX0 cX0_fillJoined 3 rm_X0_fillJoined) (hX : atX X l D A) (post : Mem → Prop) (hR : Rt X w shX 58 none (pV post)) (P2 : Int32 → Mem → Prop) (hP2 : ∀ (x1 : Int32) (μ : Mem), P2 x1 μ → V X 2 [(0, .ref (w.1 47)), (1, .int x1)] [] (wls w shX 58 μ)) (x1 : Int32) (x2 : Int32) (μ : Mem) (h : T_X0_fillJoined_17 post P2 x1 x2 μ) : V X 17 [(0, .ref (w.1 47)), (1, .int x1), (2, .int x2)] [] (wls w shX 58 μ) :=
  h (fun x1 x2 μ => V X 17 [(0, .ref (w.1 47)), (1, .int x1), (2, .int x2)] [] (wls w shX 58 μ)) (fun x1 x2 μ h => bv_X0_fillJoined_17 g hX post hR P2 hP2 (fun x1 x2 μ => V X 17 [(0, .ref (w.1 47)), (1, .int x1), (2, .int x2)] [] (wls w shX 58 μ)) (fun _ _ _ h => h) x1 x2 μ h)
def B_X0_fillJoined_2 (post : Mem → Prop) (P2 : Int32 → Mem → Prop) (x1 : Int32) (μ : Mem) : Prop :=
  ((10 ≤ x1 → post μ) ∧ (¬ 10 ≤ x1 → vp_in x1 10 ∧ T_X0_fillJoined_17 post P2 x1 0 (mset μ 49 x1.toNatClampNeg 0)))
def T_X0_fillJoined_2 (post : Mem → Prop) (x1 : Int32) (μ : Mem) : Prop :=
  ∀ P2 : Int32 → Mem → Prop, (∀ (x1 : Int32) (μ : Mem), B_X0_fillJoined_2 post P2 x1 μ → P2 x1 μ) → P2 x1 μ
theorem bv_X0_fillJoined_2 {X : Cx} {w : Wd} {l : Launch} {D : va_G} {A : Nat → Prop} (g : Gd X w RX0 cX0_fillJoined 3 rm_X0_fillJoined) (hX : atX X l D A) (post : Mem → Prop) (hR : Rt X w shX 58 none (pV post)) (P2 : Int32 → Mem → Prop) (hP2 : ∀ (x1 : Int32) (μ : Mem), P2 x1 μ → V X 2 [(0, .ref (w.1 47)), (1, .int x1)] [] (wls w shX 58 μ)) (x1 : Int32) (μ : Mem) (h : B_X0_fillJoined_2 post P2 x1 μ) : V X 2 [(0, .ref (w.1 47)), (1, .int x1)] [] (wls w shX 58 μ) := by
  refine r_iload_n (pc := 2) 1 g dX0_fillJoined_2 rfl ?_
  refine r_bipush (pc := 3) g dX0_fillJoined_3 cb_10 ?_
  refine r_icmp_ge (pc := 5) 74 g dX0_fillJoined_5 rfl (fun q => ?_) (fun q => ?_)
  · have h := h.1 q
    exact r_vretv (pc := 74) g hR dX0_fillJoined_74 h
  · have h := h.2 q
    refine r_aload_n (pc := 8) 0 g dX0_fillJoined_8 rfl ?_
    refine r_getr (pc := 9) (μ := μ) g dX0_fillJoined_9 fa_RX0_15 shX_out sX_47 rfl ?_
    refine r_iload_n (pc := 12) 1 g dX0_fillJoined_12 rfl ?_
    refine r_iconst (pc := 13) g dX0_fillJoined_13 ci_0 ?_
    obtain ⟨b1, h⟩ := h
    refine r_iastore (pc := 14) (μ := μ) g dX0_fillJoined_14 shX_out sX_49 b1 ?_
    refine r_iconst (pc := 15) g dX0_fillJoined_15 ci_0 ?_
    refine r_istore_n (pc := 16) (lv' := [(2, .int 0), (0, .ref (w.1 47)), (1, .int x1)]) g dX0_fillJoined_16 rfl rfl ?_
    refine r_sub [1, 2, 0] (lv' := [(0, .ref (w.1 47)), (1, .int x1), (2, .int 0)]) rfl ?_
    exact v_X0_fillJoined_17 g hX post hR P2 hP2 x1 0 (mset μ 49 x1.toNatClampNeg 0) h
theorem v_X0_fillJoined_2 {X : Cx} {w : Wd} {l : Launch} {D : va_G} {A : Nat → Prop} (g : Gd X w RX0 cX0_fillJoined 3 rm_X0_fillJoined) (hX : atX X l D A) (post : Mem → Prop) (hR : Rt X w shX 58 none (pV post)) (x1 : Int32) (μ : Mem) (h : T_X0_fillJoined_2 post x1 μ) : V X 2 [(0, .ref (w.1 47)), (1, .int x1)] [] (wls w shX 58 μ) :=
  h (fun x1 μ => V X 2 [(0, .ref (w.1 47)), (1, .int x1)] [] (wls w shX 58 μ)) (fun x1 μ h => bv_X0_fillJoined_2 g hX post hR (fun x1 μ => V X 2 [(0, .ref (w.1 47)), (1, .int x1)] [] (wls w shX 58 μ)) (fun _ _ h => h) x1 μ h)
def T_X0_fillJoined (μ : Mem) (post : Mem → Prop) : Prop :=
  T_X0_fillJoined_2 post 0 μ
theorem m_X0_fillJoined {w : Wd} {l : Launch} {D : va_G} {A : Nat → Prop} (μ : Mem) (post : Mem → Prop) (h : T_X0_fillJoined μ post) : MetX l D A w shX 58 yX0_fillJoined cX0_fillJoined 3 none rm_X0_fillJoined [.ref (w.1 47)] μ (pV post) := by
  refine metX_of (by decide) rfl (lv := [(0, .ref (w.1 47))]) rfl (fun X hX g hR => ?_)
  refine r_iconst (pc := 0) g dX0_fillJoined_0 ci_0 ?_
  refine r_istore_n (pc := 1) (lv' := [(1, .int 0), (0, .ref (w.1 47))]) g dX0_fillJoined_1 rfl rfl ?_
  refine r_sub [1, 0] (lv' := [(0, .ref (w.1 47)), (1, .int 0)]) rfl ?_
  exact v_X0_fillJoined_2 g hX post hR 0 μ h
abbrev rm_X0_isKnot : Room := { frames := 0, cells := 0, slots := 0, locals := 0 }
def B_X0_isKnot_2 (post : Int32 → Mem → Prop) (P2 : Int32 → Int32 → Mem → Prop) (x1 : Int32) (x2 : Int32) (μ : Mem) : Prop :=
  ((10 ≤ x2 → post 1 μ) ∧ (¬ 10 ≤ x2 → ((((x1 >>> (x2 &&& 31)) &&& 1) = 0 → P2 x1 (x2 + 1) μ) ∧ (¬ ((x1 >>> (x2 &&& 31)) &&& 1) = 0 → vp_in x2 10 ∧ (((x1 &&& ((μ 49 x2.toNatClampNeg) ^^^ (-1))) = 0 → P2 x1 (x2 + 1) μ) ∧ (¬ (x1 &&& ((μ 49 x2.toNatClampNeg) ^^^ (-1))) = 0 → post 0 μ))))))
def T_X0_isKnot_2 (post : Int32 → Mem → Prop) (x1 : Int32) (x2 : Int32) (μ : Mem) : Prop :=
  ∀ P2 : Int32 → Int32 → Mem → Prop, (∀ (x1 : Int32) (x2 : Int32) (μ : Mem), B_X0_isKnot_2 post P2 x1 x2 μ → P2 x1 x2 μ) → P2 x1 x2 μ
theorem bv_X0_isKnot_2 {X : Cx} {w : Wd} {l : Launch} {D : va_G} {A : Nat → Prop} (g : Gd X w RX0 cX0_isKnot 3 rm_X0_isKnot) (hX : atX X l D A) (post : Int32 → Mem → Prop) (hR : Rt X w shX 58 (some .boolean) (pI post)) (P2 : Int32 → Int32 → Mem → Prop) (hP2 : ∀ (x1 : Int32) (x2 : Int32) (μ : Mem), P2 x1 x2 μ → V X 2 [(0, .ref (w.1 47)), (1, .int x1), (2, .int x2)] [] (wls w shX 58 μ)) (x1 : Int32) (x2 : Int32) (μ : Mem) (h : B_X0_isKnot_2 post P2 x1 x2 μ) : V X 2 [(0, .ref (w.1 47)), (1, .int x1), (2, .int x2)] [] (wls w shX 58 μ) := by
  refine r_iload_n (pc := 2) 2 g dX0_isKnot_2 rfl ?_
  refine r_bipush (pc := 3) g dX0_isKnot_3 cb_10 ?_
  refine r_icmp_ge (pc := 5) 37 g dX0_isKnot_5 rfl (fun q => ?_) (fun q => ?_)
  · have h := h.1 q
    refine r_iconst (pc := 37) g dX0_isKnot_37 ci_1 ?_
    exact r_zreti (pc := 38) g hR dX0_isKnot_38 (Or.inr rfl) h
  · have h := h.2 q
    refine r_iload_n (pc := 8) 1 g dX0_isKnot_8 rfl ?_
    refine r_iload_n (pc := 9) 2 g dX0_isKnot_9 rfl ?_
    refine r_ishr (pc := 10) g dX0_isKnot_10 ?_
    refine r_iconst (pc := 11) g dX0_isKnot_11 ci_1 ?_
    refine r_iand (pc := 12) g dX0_isKnot_12 ?_
    refine r_if_eq (pc := 13) 31 g dX0_isKnot_13 rfl (fun q => ?_) (fun q => ?_)
    · have h := h.1 q
      refine r_iinc (pc := 31) (lv' := [(2, .int (x2 + 1)), (0, .ref (w.1 47)), (1, .int x1)]) 2 g dX0_isKnot_31 rfl ci_1 rfl rfl ?_
      refine r_goto (pc := 34) 2 g dX0_isKnot_34 rfl ?_
      refine r_sub [1, 2, 0] (lv' := [(0, .ref (w.1 47)), (1, .int x1), (2, .int (x2 + 1))]) rfl ?_
      exact hP2 x1 (x2 + 1) μ h
    · have h := h.2 q
      refine r_iload_n (pc := 16) 1 g dX0_isKnot_16 rfl ?_
      refine r_aload_n (pc := 17) 0 g dX0_isKnot_17 rfl ?_
      refine r_getr (pc := 18) (μ := μ) g dX0_isKnot_18 fa_RX0_15 shX_out sX_47 rfl ?_
      refine r_iload_n (pc := 21) 2 g dX0_isKnot_21 rfl ?_
      obtain ⟨b1, h⟩ := h
      refine r_iaload (pc := 22) (μ := μ) g dX0_isKnot_22 shX_out sX_49 b1 ?_
      refine r_iconst (pc := 23) g dX0_isKnot_23 ci_m1 ?_
      refine r_ixor (pc := 24) g dX0_isKnot_24 ?_
      refine r_iand (pc := 25) g dX0_isKnot_25 ?_
      refine r_if_eq (pc := 26) 31 g dX0_isKnot_26 rfl (fun q => ?_) (fun q => ?_)
      · have h := h.1 q
        refine r_iinc (pc := 31) (lv' := [(2, .int (x2 + 1)), (0, .ref (w.1 47)), (1, .int x1)]) 2 g dX0_isKnot_31 rfl ci_1 rfl rfl ?_
        refine r_goto (pc := 34) 2 g dX0_isKnot_34 rfl ?_
        refine r_sub [1, 2, 0] (lv' := [(0, .ref (w.1 47)), (1, .int x1), (2, .int (x2 + 1))]) rfl ?_
        exact hP2 x1 (x2 + 1) μ h
      · have h := h.2 q
        refine r_iconst (pc := 29) g dX0_isKnot_29 ci_0 ?_
        exact r_zreti (pc := 30) g hR dX0_isKnot_30 (Or.inl rfl) h
theorem v_X0_isKnot_2 {X : Cx} {w : Wd} {l : Launch} {D : va_G} {A : Nat → Prop} (g : Gd X w RX0 cX0_isKnot 3 rm_X0_isKnot) (hX : atX X l D A) (post : Int32 → Mem → Prop) (hR : Rt X w shX 58 (some .boolean) (pI post)) (x1 : Int32) (x2 : Int32) (μ : Mem) (h : T_X0_isKnot_2 post x1 x2 μ) : V X 2 [(0, .ref (w.1 47)), (1, .int x1), (2, .int x2)] [] (wls w shX 58 μ) :=
  h (fun x1 x2 μ => V X 2 [(0, .ref (w.1 47)), (1, .int x1), (2, .int x2)] [] (wls w shX 58 μ)) (fun x1 x2 μ h => bv_X0_isKnot_2 g hX post hR (fun x1 x2 μ => V X 2 [(0, .ref (w.1 47)), (1, .int x1), (2, .int x2)] [] (wls w shX 58 μ)) (fun _ _ _ h => h) x1 x2 μ h)
def T_X0_isKnot (x1 : Int32) (μ : Mem) (post : Int32 → Mem → Prop) : Prop :=
  T_X0_isKnot_2 post x1 0 μ
theorem m_X0_isKnot {w : Wd} {l : Launch} {D : va_G} {A : Nat → Prop} (x1 : Int32) (μ : Mem) (post : Int32 → Mem → Prop) (h : T_X0_isKnot x1 μ post) : MetX l D A w shX 58 yX0_isKnot cX0_isKnot 3 (some .boolean) rm_X0_isKnot [.ref (w.1 47), .int x1] μ (pI post) := by
  refine metX_of (by decide) rfl (lv := [(0, .ref (w.1 47)), (1, .int x1)]) rfl (fun X hX g hR => ?_)
  refine r_iconst (pc := 0) g dX0_isKnot_0 ci_0 ?_
  refine r_istore_n (pc := 1) (lv' := [(2, .int 0), (0, .ref (w.1 47)), (1, .int x1)]) g dX0_isKnot_1 rfl rfl ?_
  refine r_sub [1, 2, 0] (lv' := [(0, .ref (w.1 47)), (1, .int x1), (2, .int 0)]) rfl ?_
  exact v_X0_isKnot_2 g hX post hR x1 0 μ h
abbrev rm_X0_findKnot : Room := { frames := 1, cells := 0, slots := 0, locals := 23 }
def B_X0_findKnot_31 (post : Mem → Prop) (P31 : Int32 → Int32 → Mem → Prop) (x1 : Int32) (x2 : Int32) (μ : Mem) : Prop :=
  ((x1 < x2 → post μ) ∧ (¬ x1 < x2 → ((¬ (x2 &&& (x1 ^^^ (-1))) = 0 → P31 x1 (x2 + 1) μ) ∧ ((x2 &&& (x1 ^^^ (-1))) = 0 → T_X5_sum 16 x2 μ (fun (u1 : Int32) (μ2 : Mem) => ((u1 ≤ (μ2 47 2) → P31 x1 (x2 + 1) μ2) ∧ (¬ u1 ≤ (μ2 47 2) → T_X0_isKnot x2 μ2 (fun (u3 : Int32) (μ4 : Mem) => ((u3 = 0 → P31 x1 (x2 + 1) μ4) ∧ (¬ u3 = 0 → T_X5_sum 16 x2 (mset μ4 47 1 x2) (fun (u5 : Int32) (μ6 : Mem) => P31 x1 (x2 + 1) (mset μ6 47 2 u5))))))))))))
def T_X0_findKnot_31 (post : Mem → Prop) (x1 : Int32) (x2 : Int32) (μ : Mem) : Prop :=
  ∀ P31 : Int32 → Int32 → Mem → Prop, (∀ (x1 : Int32) (x2 : Int32) (μ : Mem), B_X0_findKnot_31 post P31 x1 x2 μ → P31 x1 x2 μ) → P31 x1 x2 μ
theorem bv_X0_findKnot_31 {X : Cx} {w : Wd} {l : Launch} {D : va_G} {A : Nat → Prop} (g : Gd X w RX0 cX0_findKnot 3 rm_X0_findKnot) (hX : atX X l D A) (post : Mem → Prop) (hR : Rt X w shX 58 none (pV post)) (P31 : Int32 → Int32 → Mem → Prop) (hP31 : ∀ (x1 : Int32) (x2 : Int32) (μ : Mem), P31 x1 x2 μ → V X 31 [(0, .ref (w.1 47)), (1, .int x1), (2, .int x2)] [] (wls w shX 58 μ)) (x1 : Int32) (x2 : Int32) (μ : Mem) (h : B_X0_findKnot_31 post P31 x1 x2 μ) : V X 31 [(0, .ref (w.1 47)), (1, .int x1), (2, .int x2)] [] (wls w shX 58 μ) := by
  refine r_iload_n (pc := 31) 2 g dX0_findKnot_31 rfl ?_
  refine r_iload_n (pc := 32) 1 g dX0_findKnot_32 rfl ?_
  refine r_icmp_gt (pc := 33) 96 g dX0_findKnot_33 rfl (fun q => ?_) (fun q => ?_)
  · have h := h.1 q
    exact r_vretv (pc := 96) g hR dX0_findKnot_96 h
  · have h := h.2 q
    refine r_iload_n (pc := 36) 2 g dX0_findKnot_36 rfl ?_
    refine r_iload_n (pc := 37) 1 g dX0_findKnot_37 rfl ?_
    refine r_iconst (pc := 38) g dX0_findKnot_38 ci_m1 ?_
    refine r_ixor (pc := 39) g dX0_findKnot_39 ?_
    refine r_iand (pc := 40) g dX0_findKnot_40 ?_
    refine r_if_ne (pc := 41) 90 g dX0_findKnot_41 rfl (fun q => ?_) (fun q => ?_)
    · have h := h.1 q
      refine r_iinc (pc := 90) (lv' := [(2, .int (x2 + 1)), (0, .ref (w.1 47)), (1, .int x1)]) 2 g dX0_findKnot_90 rfl ci_1 rfl rfl ?_
      refine r_goto (pc := 93) 31 g dX0_findKnot_93 rfl ?_
      refine r_sub [1, 2, 0] (lv' := [(0, .ref (w.1 47)), (1, .int x1), (2, .int (x2 + 1))]) rfl ?_
      exact hP31 x1 (x2 + 1) μ h
    · have h := h.2 q
      refine r_aload_n (pc := 44) 0 g dX0_findKnot_44 rfl ?_
      refine r_getr (pc := 45) (μ := μ) g dX0_findKnot_45 fa_RX0_22 shX_out sX_47 rfl ?_
      refine r_getr (pc := 48) (μ := μ) g dX0_findKnot_48 fa_RX0_62 shX_out sX_13 rfl ?_
      refine r_iload_n (pc := 51) 2 g dX0_findKnot_51 rfl ?_
      refine r_callVi (pc := 52) (st := []) g hX dX0_findKnot_52 (m_X5_sum 16 (Or.inl rfl) x2 μ _ h) kb_RX0_66 kv_X5_sum shX_out (sc_0 (Or.inl rfl)) rfl rfl rfl rfl (fun u1 μ2 h => ?_)
      refine r_aload_n (pc := 55) 0 g dX0_findKnot_55 rfl ?_
      refine r_geti (pc := 56) (μ := μ2) g dX0_findKnot_56 fa_RX0_80 shX_out sX_47 rfl ?_
      refine r_icmp_le (pc := 59) 90 g dX0_findKnot_59 rfl (fun q => ?_) (fun q => ?_)
      · have h := h.1 q
        refine r_iinc (pc := 90) (lv' := [(2, .int (x2 + 1)), (0, .ref (w.1 47)), (1, .int x1)]) 2 g dX0_findKnot_90 rfl ci_1 rfl rfl ?_
        refine r_goto (pc := 93) 31 g dX0_findKnot_93 rfl ?_
        refine r_sub [1, 2, 0] (lv' := [(0, .ref (w.1 47)), (1, .int x1), (2, .int (x2 + 1))]) rfl ?_
        exact hP31 x1 (x2 + 1) μ2 h
      · have h := h.2 q
        refine r_aload_n (pc := 62) 0 g dX0_findKnot_62 rfl ?_
        refine r_iload_n (pc := 63) 2 g dX0_findKnot_63 rfl ?_
        refine r_callVi (pc := 64) (st := []) g hX dX0_findKnot_64 (m_X0_isKnot x2 μ2 _ h) kb_RX0_83 kv_X0_isKnot shX_out sX_47 rfl rfl rfl rfl (fun u3 μ4 h => ?_)
        refine r_if_eq (pc := 67) 90 g dX0_findKnot_67 rfl (fun q => ?_) (fun q => ?_)
        · have h := h.1 q
          refine r_iinc (pc := 90) (lv' := [(2, .int (x2 + 1)), (0, .ref (w.1 47)), (1, .int x1)]) 2 g dX0_findKnot_90 rfl ci_1 rfl rfl ?_
          refine r_goto (pc := 93) 31 g dX0_findKnot_93 rfl ?_
          refine r_sub [1, 2, 0] (lv' := [(0, .ref (w.1 47)), (1, .int x1), (2, .int (x2 + 1))]) rfl ?_
          exact hP31 x1 (x2 + 1) μ4 h
        · have h := h.2 q
          refine r_aload_n (pc := 70) 0 g dX0_findKnot_70 rfl ?_
          refine r_iload_n (pc := 71) 2 g dX0_findKnot_71 rfl ?_
          refine r_puti (pc := 72) (μ := μ4) g dX0_findKnot_72 fp_RX0_77 shX_out sX_47 rfl ?_
          refine r_aload_n (pc := 75) 0 g dX0_findKnot_75 rfl ?_
          refine r_aload_n (pc := 76) 0 g dX0_findKnot_76 rfl ?_
          refine r_getr (pc := 77) (μ := mset μ4 47 1 x2) g dX0_findKnot_77 fa_RX0_22 shX_out sX_47 rfl ?_
          refine r_getr (pc := 80) (μ := mset μ4 47 1 x2) g dX0_findKnot_80 fa_RX0_62 shX_out sX_13 rfl ?_
          refine r_iload_n (pc := 83) 2 g dX0_findKnot_83 rfl ?_
          refine r_callVi (pc := 84) (st := [.ref (w.1 47)]) g hX dX0_findKnot_84 (m_X5_sum 16 (Or.inl rfl) x2 (mset μ4 47 1 x2) _ h) kb_RX0_66 kv_X5_sum shX_out (sc_0 (Or.inl rfl)) rfl rfl rfl rfl (fun u5 μ6 h => ?_)
          refine r_puti (pc := 87) (μ := μ6) g dX0_findKnot_87 fp_RX0_80 shX_out sX_47 rfl ?_
          refine r_iinc (pc := 90) (lv' := [(2, .int (x2 + 1)), (0, .ref (w.1 47)), (1, .int x1)]) 2 g dX0_findKnot_90 rfl ci_1 rfl rfl ?_
          refine r_goto (pc := 93) 31 g dX0_findKnot_93 rfl ?_
          refine r_sub [1, 2, 0] (lv' := [(0, .ref (w.1 47)), (1, .int x1), (2, .int (x2 + 1))]) rfl ?_
          exact hP31 x1 (x2 + 1) (mset μ6 47 2 u5) h
theorem v_X0_findKnot_31 {X : Cx} {w : Wd} {l : Launch} {D : va_G} {A : Nat → Prop} (g : Gd X w RX0 cX0_findKnot 3 rm_X0_findKnot) (hX : atX X l D A) (post : Mem → Prop) (hR : Rt X w shX 58 none (pV post)) (x1 : Int32) (x2 : Int32) (μ : Mem) (h : T_X0_findKnot_31 post x1 x2 μ) : V X 31 [(0, .ref (w.1 47)), (1, .int x1), (2, .int x2)] [] (wls w shX 58 μ) :=
  h (fun x1 x2 μ => V X 31 [(0, .ref (w.1 47)), (1, .int x1), (2, .int x2)] [] (wls w shX 58 μ)) (fun x1 x2 μ h => bv_X0_findKnot_31 g hX post hR (fun x1 x2 μ => V X 31 [(0, .ref (w.1 47)), (1, .int x1), (2, .int x2)] [] (wls w shX 58 μ)) (fun _ _ _ h => h) x1 x2 μ h)
def T_X0_findKnot (μ : Mem) (post : Mem → Prop) : Prop :=
  T_X0_fillJoined μ (fun (μ2 : Mem) => T_X10_all μ2 (fun (u3 : Int32) (μ4 : Mem) => T_X10_neededBy u3 μ4 (fun (u5 : Int32) (μ6 : Mem) => T_X0_findKnot_31 post u5 1 (mset (mset μ6 47 1 0) 47 2 0))))
theorem m_X0_findKnot {w : Wd} {l : Launch} {D : va_G} {A : Nat → Prop} (μ : Mem) (post : Mem → Prop) (h : T_X0_findKnot μ post) : MetX l D A w shX 58 yX0_findKnot cX0_findKnot 3 none rm_X0_findKnot [.ref (w.1 47)] μ (pV post) := by
  refine metX_of (by decide) rfl (lv := [(0, .ref (w.1 47))]) rfl (fun X hX g hR => ?_)
  refine r_aload_n (pc := 0) 0 g dX0_findKnot_0 rfl ?_
  refine r_callVv (pc := 1) (st := []) g hX dX0_findKnot_1 (m_X0_fillJoined μ _ h) kb_RX0_74 kv_X0_fillJoined shX_out sX_47 rfl rfl rfl rfl (fun μ2 h => ?_)
  refine r_aload_n (pc := 4) 0 g dX0_findKnot_4 rfl ?_
  refine r_getr (pc := 5) (μ := μ2) g dX0_findKnot_5 fa_RX0_22 shX_out sX_47 rfl ?_
  refine r_aload_n (pc := 8) 0 g dX0_findKnot_8 rfl ?_
  refine r_getr (pc := 9) (μ := μ2) g dX0_findKnot_9 fa_RX0_22 shX_out sX_47 rfl ?_
  refine r_callVi (pc := 12) (st := [.ref (w.1 13)]) g hX dX0_findKnot_12 (m_X10_all μ2 _ h) kb_RX0_45 kv_X10_all shX_out sX_13 rfl rfl rfl rfl (fun u3 μ4 h => ?_)
  refine r_callVi (pc := 15) (st := []) g hX dX0_findKnot_15 (m_X10_neededBy u3 μ4 _ h) kb_RX0_59 kv_X10_neededBy shX_out sX_13 rfl rfl rfl rfl (fun u5 μ6 h => ?_)
  refine r_istore_n (pc := 18) (lv' := [(1, .int u5), (0, .ref (w.1 47))]) g dX0_findKnot_18 rfl rfl ?_
  refine r_aload_n (pc := 19) 1 g dX0_findKnot_19 rfl ?_
  refine r_iconst (pc := 20) g dX0_findKnot_20 ci_0 ?_
  refine r_puti (pc := 21) (μ := μ6) g dX0_findKnot_21 fp_RX0_77 shX_out sX_47 rfl ?_
  refine r_aload_n (pc := 24) 1 g dX0_findKnot_24 rfl ?_
  refine r_iconst (pc := 25) g dX0_findKnot_25 ci_0 ?_
  refine r_puti (pc := 26) (μ := mset μ6 47 1 0) g dX0_findKnot_26 fp_RX0_80 shX_out sX_47 rfl ?_
  refine r_iconst (pc := 29) g dX0_findKnot_29 ci_1 ?_
  refine r_istore_n (pc := 30) (lv' := [(2, .int 1), (1, .int u5), (0, .ref (w.1 47))]) g dX0_findKnot_30 rfl rfl ?_
  refine r_sub [2, 1, 0] (lv' := [(0, .ref (w.1 47)), (1, .int u5), (2, .int 1)]) rfl ?_
  exact v_X0_findKnot_31 g hX post hR u5 1 (mset (mset μ6 47 1 0) 47 2 0) h
abbrev rm_X0_refresh : Room := { frames := 2, cells := 0, slots := 0, locals := 47 }
def T_X0_refresh (μ : Mem) (post : Mem → Prop) : Prop :=
  (((μ 47 5) = (μ 13 5) → post μ) ∧ (¬ (μ 47 5) = (μ 13 5) → T_X0_fillCrossings μ (fun (μ2 : Mem) => T_X0_findKnot μ2 (fun (μ4 : Mem) => post (mset μ4 47 5 (μ4 13 5))))))
theorem m_X0_refresh {w : Wd} {l : Launch} {D : va_G} {A : Nat → Prop} (μ : Mem) (post : Mem → Prop) (h : T_X0_refresh μ post) : MetX l D A w shX 58 yX0_refresh cX0_refresh 1 none rm_X0_refresh [.ref (w.1 47)] μ (pV post) := by
  refine metX_of (by decide) rfl (lv := [(0, .ref (w.1 47))]) rfl (fun X hX g hR => ?_)
  refine r_aload_n (pc := 0) 0 g dX0_refresh_0 rfl ?_
  refine r_geti (pc := 1) (μ := μ) g dX0_refresh_1 fa_RX0_18 shX_out sX_47 rfl ?_
  refine r_aload_n (pc := 4) 0 g dX0_refresh_4 rfl ?_
  refine r_getr (pc := 5) (μ := μ) g dX0_refresh_5 fa_RX0_22 shX_out sX_47 rfl ?_
  refine r_geti (pc := 8) (μ := μ) g dX0_refresh_8 fa_RX0_26 shX_out sX_13 rfl ?_
  refine r_icmp_eq (pc := 11) 33 g dX0_refresh_11 rfl (fun q => ?_) (fun q => ?_)
  · have h := h.1 q
    exact r_vretv (pc := 33) g hR dX0_refresh_33 h
  · have h := h.2 q
    refine r_aload_n (pc := 14) 0 g dX0_refresh_14 rfl ?_
    refine r_callVv (pc := 15) (st := []) g hX dX0_refresh_15 (m_X0_fillCrossings μ _ h) kb_RX0_29 kv_X0_fillCrossings shX_out sX_47 rfl rfl rfl rfl (fun μ2 h => ?_)
    refine r_aload_n (pc := 18) 0 g dX0_refresh_18 rfl ?_
    refine r_callVv (pc := 19) (st := []) g hX dX0_refresh_19 (m_X0_findKnot μ2 _ h) kb_RX0_32 kv_X0_findKnot shX_out sX_47 rfl rfl rfl rfl (fun μ4 h => ?_)
    refine r_aload_n (pc := 22) 0 g dX0_refresh_22 rfl ?_
    refine r_aload_n (pc := 23) 0 g dX0_refresh_23 rfl ?_
    refine r_getr (pc := 24) (μ := μ4) g dX0_refresh_24 fa_RX0_22 shX_out sX_47 rfl ?_
    refine r_geti (pc := 27) (μ := μ4) g dX0_refresh_27 fa_RX0_26 shX_out sX_13 rfl ?_
    refine r_puti (pc := 30) (μ := μ4) g dX0_refresh_30 fp_RX0_18 shX_out sX_47 rfl ?_
    exact r_vretv (pc := 33) g hR dX0_refresh_33 h
abbrev rm_X0_greatestCross : Room := { frames := 1, cells := 0, slots := 0, locals := 21 }
def B_X0_greatestCross_4 (post : Int32 → Mem → Prop) (P4 : Int32 → Int32 → Mem → Prop) (x1 : Int32) (x2 : Int32) (μ : Mem) : Prop :=
  (((μ 13 4) < x2 → post x1 μ) ∧ (¬ (μ 13 4) < x2 → vp_in x2 10 ∧ P4 (if x1 < (μ 48 x2.toNatClampNeg) then (μ 48 x2.toNatClampNeg) else x1) (x2 + 1) μ))
def T_X0_greatestCross_4 (post : Int32 → Mem → Prop) (x1 : Int32) (x2 : Int32) (μ : Mem) : Prop :=
  ∀ P4 : Int32 → Int32 → Mem → Prop, (∀ (x1 : Int32) (x2 : Int32) (μ : Mem), B_X0_greatestCross_4 post P4 x1 x2 μ → P4 x1 x2 μ) → P4 x1 x2 μ
theorem bv_X0_greatestCross_4 {X : Cx} {w : Wd} {l : Launch} {D : va_G} {A : Nat → Prop} (g : Gd X w RX0 cX0_greatestCross 3 rm_X0_greatestCross) (hX : atX X l D A) (post : Int32 → Mem → Prop) (hR : Rt X w shX 58 (some .int) (pI post)) (P4 : Int32 → Int32 → Mem → Prop) (hP4 : ∀ (x1 : Int32) (x2 : Int32) (μ : Mem), P4 x1 x2 μ → V X 4 [(0, .ref (w.1 47)), (1, .int x1), (2, .int x2)] [] (wls w shX 58 μ)) (x1 : Int32) (x2 : Int32) (μ : Mem) (h : B_X0_greatestCross_4 post P4 x1 x2 μ) : V X 4 [(0, .ref (w.1 47)), (1, .int x1), (2, .int x2)] [] (wls w shX 58 μ) := by
  refine r_iload_n (pc := 4) 2 g dX0_greatestCross_4 rfl ?_
  refine r_aload_n (pc := 5) 0 g dX0_greatestCross_5 rfl ?_
  refine r_getr (pc := 6) (μ := μ) g dX0_greatestCross_6 fa_RX0_22 shX_out sX_47 rfl ?_
  refine r_geti (pc := 9) (μ := μ) g dX0_greatestCross_9 fa_RX0_35 shX_out sX_13 rfl ?_
  refine r_icmp_gt (pc := 12) 32 g dX0_greatestCross_12 rfl (fun q => ?_) (fun q => ?_)
  · have h := h.1 q
    refine r_iload_n (pc := 32) 1 g dX0_greatestCross_32 rfl ?_
    exact r_ireti (pc := 33) g hR dX0_greatestCross_33 h
  · have h := h.2 q
    refine r_iload_n (pc := 15) 1 g dX0_greatestCross_15 rfl ?_
    refine r_aload_n (pc := 16) 0 g dX0_greatestCross_16 rfl ?_
    refine r_getr (pc := 17) (μ := μ) g dX0_greatestCross_17 fa_RX0_9 shX_out sX_47 rfl ?_
    refine r_iload_n (pc := 20) 2 g dX0_greatestCross_20 rfl ?_
    obtain ⟨b1, h⟩ := h
    refine r_iaload (pc := 21) (μ := μ) g dX0_greatestCross_21 shX_out sX_48 b1 ?_
    refine r_max (pc := 22) g dX0_greatestCross_22 kj_RX0_38 ⟨rfl, rfl⟩ ?_
    refine r_istore_n (pc := 25) (lv' := [(1, .int (if x1 < (μ 48 x2.toNatClampNeg) then (μ 48 x2.toNatClampNeg) else x1)), (0, .ref (w.1 47)), (2, .int x2)]) g dX0_greatestCross_25 rfl rfl ?_
    refine r_iinc (pc := 26) (lv' := [(2, .int (x2 + 1)), (1, .int (if x1 < (μ 48 x2.toNatClampNeg) then (μ 48 x2.toNatClampNeg) else x1)), (0, .ref (w.1 47))]) 2 g dX0_greatestCross_26 rfl ci_1 rfl rfl ?_
    refine r_goto (pc := 29) 4 g dX0_greatestCross_29 rfl ?_
    refine r_sub [2, 1, 0] (lv' := [(0, .ref (w.1 47)), (1, .int (if x1 < (μ 48 x2.toNatClampNeg) then (μ 48 x2.toNatClampNeg) else x1)), (2, .int (x2 + 1))]) rfl ?_
    exact hP4 (if x1 < (μ 48 x2.toNatClampNeg) then (μ 48 x2.toNatClampNeg) else x1) (x2 + 1) μ h
theorem v_X0_greatestCross_4 {X : Cx} {w : Wd} {l : Launch} {D : va_G} {A : Nat → Prop} (g : Gd X w RX0 cX0_greatestCross 3 rm_X0_greatestCross) (hX : atX X l D A) (post : Int32 → Mem → Prop) (hR : Rt X w shX 58 (some .int) (pI post)) (x1 : Int32) (x2 : Int32) (μ : Mem) (h : T_X0_greatestCross_4 post x1 x2 μ) : V X 4 [(0, .ref (w.1 47)), (1, .int x1), (2, .int x2)] [] (wls w shX 58 μ) :=
  h (fun x1 x2 μ => V X 4 [(0, .ref (w.1 47)), (1, .int x1), (2, .int x2)] [] (wls w shX 58 μ)) (fun x1 x2 μ h => bv_X0_greatestCross_4 g hX post hR (fun x1 x2 μ => V X 4 [(0, .ref (w.1 47)), (1, .int x1), (2, .int x2)] [] (wls w shX 58 μ)) (fun _ _ _ h => h) x1 x2 μ h)
def T_X0_greatestCross (μ : Mem) (post : Int32 → Mem → Prop) : Prop :=
  T_X0_greatestCross_4 post 0 0 μ
theorem m_X0_greatestCross {w : Wd} {l : Launch} {D : va_G} {A : Nat → Prop} (μ : Mem) (post : Int32 → Mem → Prop) (h : T_X0_greatestCross μ post) : MetX l D A w shX 58 yX0_greatestCross cX0_greatestCross 3 (some .int) rm_X0_greatestCross [.ref (w.1 47)] μ (pI post) := by
  refine metX_of (by decide) rfl (lv := [(0, .ref (w.1 47))]) rfl (fun X hX g hR => ?_)
  refine r_iconst (pc := 0) g dX0_greatestCross_0 ci_0 ?_
  refine r_istore_n (pc := 1) (lv' := [(1, .int 0), (0, .ref (w.1 47))]) g dX0_greatestCross_1 rfl rfl ?_
  refine r_iconst (pc := 2) g dX0_greatestCross_2 ci_0 ?_
  refine r_istore_n (pc := 3) (lv' := [(2, .int 0), (1, .int 0), (0, .ref (w.1 47))]) g dX0_greatestCross_3 rfl rfl ?_
  refine r_sub [2, 1, 0] (lv' := [(0, .ref (w.1 47)), (1, .int 0), (2, .int 0)]) rfl ?_
  exact v_X0_greatestCross_4 g hX post hR 0 0 μ h
abbrev rm_X0_leastOfPart : Room := { frames := 1, cells := 0, slots := 0, locals := 21 }
def B_X0_leastOfPart_30 (post : Int32 → Mem → Prop) (P15 : Int32 → Int32 → Int32 → Mem → Prop) (P30 : Int32 → Int32 → Int32 → Int32 → Mem → Prop) (x2 : Int32) (x3 : Int32) (x4 : Int32) (x5 : Int32) (μ : Mem) : Prop :=
  (((μ 13 4) ≤ x5 → P15 x2 x3 (x4 + 1) μ) ∧ (¬ (μ 13 4) ≤ x5 → vp_in x5 9 ∧ ((((μ 14 x5.toNatClampNeg) &&& x3) = 0 → P30 x2 x3 x4 (x5 + 1) μ) ∧ (¬ ((μ 14 x5.toNatClampNeg) &&& x3) = 0 → vp_in x5 9 ∧ P30 (if x5 < x2 then x5 else x2) (x3 ||| (μ 14 x5.toNatClampNeg)) x4 (x5 + 1) μ))))
def T_X0_leastOfPart_30 (post : Int32 → Mem → Prop) (P15 : Int32 → Int32 → Int32 → Mem → Prop) (x2 : Int32) (x3 : Int32) (x4 : Int32) (x5 : Int32) (μ : Mem) : Prop :=
  ∀ P30 : Int32 → Int32 → Int32 → Int32 → Mem → Prop, (∀ (x2 : Int32) (x3 : Int32) (x4 : Int32) (x5 : Int32) (μ : Mem), B_X0_leastOfPart_30 post P15 P30 x2 x3 x4 x5 μ → P30 x2 x3 x4 x5 μ) → P30 x2 x3 x4 x5 μ
theorem bv_X0_leastOfPart_30 {X : Cx} {w : Wd} {l : Launch} {D : va_G} {A : Nat → Prop} (g : Gd X w RX0 cX0_leastOfPart 6 rm_X0_leastOfPart) (hX : atX X l D A) (post : Int32 → Mem → Prop) (hR : Rt X w shX 58 (some .int) (pI post)) (P15 : Int32 → Int32 → Int32 → Mem → Prop) (hP15 : ∀ (x2 : Int32) (x3 : Int32) (x4 : Int32) (μ : Mem), P15 x2 x3 x4 μ → V X 15 [(0, .ref (w.1 47)), (2, .int x2), (3, .int x3), (4, .int x4)] [] (wls w shX 58 μ)) (P30 : Int32 → Int32 → Int32 → Int32 → Mem → Prop) (hP30 : ∀ (x2 : Int32) (x3 : Int32) (x4 : Int32) (x5 : Int32) (μ : Mem), P30 x2 x3 x4 x5 μ → V X 30 [(0, .ref (w.1 47)), (2, .int x2), (3, .int x3), (4, .int x4), (5, .int x5)] [] (wls w shX 58 μ)) (x2 : Int32) (x3 : Int32) (x4 : Int32) (x5 : Int32) (μ : Mem) (h : B_X0_leastOfPart_30 post P15 P30 x2 x3 x4 x5 μ) : V X 30 [(0, .ref (w.1 47)), (2, .int x2), (3, .int x3), (4, .int x4), (5, .int x5)] [] (wls w shX 58 μ) := by
  refine r_iload (pc := 30) 4 g dX0_leastOfPart_30 rfl ?_
  refine r_aload_n (pc := 32) 0 g dX0_leastOfPart_32 rfl ?_
  refine r_getr (pc := 33) (μ := μ) g dX0_leastOfPart_33 fa_RX0_22 shX_out sX_47 rfl ?_
  refine r_geti (pc := 36) (μ := μ) g dX0_leastOfPart_36 fa_RX0_35 shX_out sX_13 rfl ?_
  refine r_icmp_ge (pc := 39) 83 g dX0_leastOfPart_39 rfl (fun q => ?_) (fun q => ?_)
  · have h := h.1 q
    refine r_iinc (pc := 83) (lv' := [(4, .int (x4 + 1)), (0, .ref (w.1 47)), (2, .int x2), (3, .int x3), (5, .int x5)]) 3 g dX0_leastOfPart_83 rfl ci_1 rfl rfl ?_
    refine r_goto (pc := 86) 15 g dX0_leastOfPart_86 rfl ?_
    refine r_sub [1, 2, 3, 0] (lv' := [(0, .ref (w.1 47)), (2, .int x2), (3, .int x3), (4, .int (x4 + 1))]) rfl ?_
    exact hP15 x2 x3 (x4 + 1) μ h
  · have h := h.2 q
    refine r_aload_n (pc := 42) 0 g dX0_leastOfPart_42 rfl ?_
    refine r_getr (pc := 43) (μ := μ) g dX0_leastOfPart_43 fa_RX0_22 shX_out sX_47 rfl ?_
    refine r_getr (pc := 46) (μ := μ) g dX0_leastOfPart_46 fa_RX0_86 shX_out sX_13 rfl ?_
    refine r_iload (pc := 49) 4 g dX0_leastOfPart_49 rfl ?_
    obtain ⟨b1, h⟩ := h
    refine r_iaload (pc := 51) (μ := μ) g dX0_leastOfPart_51 shX_out sX_14 b1 ?_
    refine r_iload_n (pc := 52) 2 g dX0_leastOfPart_52 rfl ?_
    refine r_iand (pc := 53) g dX0_leastOfPart_53 ?_
    refine r_if_eq (pc := 54) 77 g dX0_leastOfPart_54 rfl (fun q => ?_) (fun q => ?_)
    · have h := h.1 q
      refine r_iinc (pc := 77) (lv' := [(5, .int (x5 + 1)), (0, .ref (w.1 47)), (2, .int x2), (3, .int x3), (4, .int x4)]) 4 g dX0_leastOfPart_77 rfl ci_1 rfl rfl ?_
      refine r_goto (pc := 80) 30 g dX0_leastOfPart_80 rfl ?_
      refine r_sub [1, 2, 3, 4, 0] (lv' := [(0, .ref (w.1 47)), (2, .int x2), (3, .int x3), (4, .int x4), (5, .int (x5 + 1))]) rfl ?_
      exact hP30 x2 x3 x4 (x5 + 1) μ h
    · have h := h.2 q
      refine r_iload_n (pc := 57) 2 g dX0_leastOfPart_57 rfl ?_
      refine r_aload_n (pc := 58) 0 g dX0_leastOfPart_58 rfl ?_
      refine r_getr (pc := 59) (μ := μ) g dX0_leastOfPart_59 fa_RX0_22 shX_out sX_47 rfl ?_
      refine r_getr (pc := 62) (μ := μ) g dX0_leastOfPart_62 fa_RX0_86 shX_out sX_13 rfl ?_
      refine r_iload (pc := 65) 4 g dX0_leastOfPart_65 rfl ?_
      obtain ⟨b2, h⟩ := h
      refine r_iaload (pc := 67) (μ := μ) g dX0_leastOfPart_67 shX_out sX_14 b2 ?_
      refine r_ior (pc := 68) g dX0_leastOfPart_68 ?_
      refine r_istore_n (pc := 69) (lv' := [(3, .int (x3 ||| (μ 14 x5.toNatClampNeg))), (0, .ref (w.1 47)), (2, .int x2), (4, .int x4), (5, .int x5)]) g dX0_leastOfPart_69 rfl rfl ?_
      refine r_iload_n (pc := 70) 2 g dX0_leastOfPart_70 rfl ?_
      refine r_iload (pc := 71) 4 g dX0_leastOfPart_71 rfl ?_
      refine r_min (pc := 73) g dX0_leastOfPart_73 kj_RX0_71 ⟨rfl, rfl⟩ ?_
      refine r_istore_n (pc := 76) (lv' := [(2, .int (if x5 < x2 then x5 else x2)), (3, .int (x3 ||| (μ 14 x5.toNatClampNeg))), (0, .ref (w.1 47)), (4, .int x4), (5, .int x5)]) g dX0_leastOfPart_76 rfl rfl ?_
      refine r_iinc (pc := 77) (lv' := [(5, .int (x5 + 1)), (2, .int (if x5 < x2 then x5 else x2)), (3, .int (x3 ||| (μ 14 x5.toNatClampNeg))), (0, .ref (w.1 47)), (4, .int x4)]) 4 g dX0_leastOfPart_77 rfl ci_1 rfl rfl ?_
      refine r_goto (pc := 80) 30 g dX0_leastOfPart_80 rfl ?_
      refine r_sub [3, 1, 2, 4, 0] (lv' := [(0, .ref (w.1 47)), (2, .int (if x5 < x2 then x5 else x2)), (3, .int (x3 ||| (μ 14 x5.toNatClampNeg))), (4, .int x4), (5, .int (x5 + 1))]) rfl ?_
      exact hP30 (if x5 < x2 then x5 else x2) (x3 ||| (μ 14 x5.toNatClampNeg)) x4 (x5 + 1) μ h
theorem v_X0_leastOfPart_30 {X : Cx} {w : Wd} {l : Launch} {D : va_G} {A : Nat → Prop} (g : Gd X w RX0 cX0_leastOfPart 6 rm_X0_leastOfPart) (hX : atX X l D A) (post : Int32 → Mem → Prop) (hR : Rt X w shX 58 (some .int) (pI post)) (P15 : Int32 → Int32 → Int32 → Mem → Prop) (hP15 : ∀ (x2 : Int32) (x3 : Int32) (x4 : Int32) (μ : Mem), P15 x2 x3 x4 μ → V X 15 [(0, .ref (w.1 47)), (2, .int x2), (3, .int x3), (4, .int x4)] [] (wls w shX 58 μ)) (x2 : Int32) (x3 : Int32) (x4 : Int32) (x5 : Int32) (μ : Mem) (h : T_X0_leastOfPart_30 post P15 x2 x3 x4 x5 μ) : V X 30 [(0, .ref (w.1 47)), (2, .int x2), (3, .int x3), (4, .int x4), (5, .int x5)] [] (wls w shX 58 μ) :=
  h (fun x2 x3 x4 x5 μ => V X 30 [(0, .ref (w.1 47)), (2, .int x2), (3, .int x3), (4, .int x4), (5, .int x5)] [] (wls w shX 58 μ)) (fun x2 x3 x4 x5 μ h => bv_X0_leastOfPart_30 g hX post hR P15 hP15 (fun x2 x3 x4 x5 μ => V X 30 [(0, .ref (w.1 47)), (2, .int x2), (3, .int x3), (4, .int x4), (5, .int x5)] [] (wls w shX 58 μ)) (fun _ _ _ _ _ h => h) x2 x3 x4 x5 μ h)
def B_X0_leastOfPart_15 (post : Int32 → Mem → Prop) (P15 : Int32 → Int32 → Int32 → Mem → Prop) (x2 : Int32) (x3 : Int32) (x4 : Int32) (μ : Mem) : Prop :=
  (((μ 13 4) ≤ x4 → post x2 μ) ∧ (¬ (μ 13 4) ≤ x4 → T_X0_leastOfPart_30 post P15 x2 x3 x4 0 μ))
def T_X0_leastOfPart_15 (post : Int32 → Mem → Prop) (x2 : Int32) (x3 : Int32) (x4 : Int32) (μ : Mem) : Prop :=
  ∀ P15 : Int32 → Int32 → Int32 → Mem → Prop, (∀ (x2 : Int32) (x3 : Int32) (x4 : Int32) (μ : Mem), B_X0_leastOfPart_15 post P15 x2 x3 x4 μ → P15 x2 x3 x4 μ) → P15 x2 x3 x4 μ
theorem bv_X0_leastOfPart_15 {X : Cx} {w : Wd} {l : Launch} {D : va_G} {A : Nat → Prop} (g : Gd X w RX0 cX0_leastOfPart 6 rm_X0_leastOfPart) (hX : atX X l D A) (post : Int32 → Mem → Prop) (hR : Rt X w shX 58 (some .int) (pI post)) (P15 : Int32 → Int32 → Int32 → Mem → Prop) (hP15 : ∀ (x2 : Int32) (x3 : Int32) (x4 : Int32) (μ : Mem), P15 x2 x3 x4 μ → V X 15 [(0, .ref (w.1 47)), (2, .int x2), (3, .int x3), (4, .int x4)] [] (wls w shX 58 μ)) (x2 : Int32) (x3 : Int32) (x4 : Int32) (μ : Mem) (h : B_X0_leastOfPart_15 post P15 x2 x3 x4 μ) : V X 15 [(0, .ref (w.1 47)), (2, .int x2), (3, .int x3), (4, .int x4)] [] (wls w shX 58 μ) := by
  refine r_iload (pc := 15) 3 g dX0_leastOfPart_15 rfl ?_
  refine r_aload_n (pc := 17) 0 g dX0_leastOfPart_17 rfl ?_
  refine r_getr (pc := 18) (μ := μ) g dX0_leastOfPart_18 fa_RX0_22 shX_out sX_47 rfl ?_
  refine r_geti (pc := 21) (μ := μ) g dX0_leastOfPart_21 fa_RX0_35 shX_out sX_13 rfl ?_
  refine r_icmp_ge (pc := 24) 89 g dX0_leastOfPart_24 rfl (fun q => ?_) (fun q => ?_)
  · have h := h.1 q
    refine r_iload_n (pc := 89) 1 g dX0_leastOfPart_89 rfl ?_
    exact r_ireti (pc := 90) g hR dX0_leastOfPart_90 h
  · have h := h.2 q
    refine r_iconst (pc := 27) g dX0_leastOfPart_27 ci_0 ?_
    refine r_istore (pc := 28) (lv' := [(5, .int 0), (0, .ref (w.1 47)), (2, .int x2), (3, .int x3), (4, .int x4)]) g dX0_leastOfPart_28 rfl rfl ?_
    refine r_sub [1, 2, 3, 4, 0] (lv' := [(0, .ref (w.1 47)), (2, .int x2), (3, .int x3), (4, .int x4), (5, .int 0)]) rfl ?_
    exact v_X0_leastOfPart_30 g hX post hR P15 hP15 x2 x3 x4 0 μ h
theorem v_X0_leastOfPart_15 {X : Cx} {w : Wd} {l : Launch} {D : va_G} {A : Nat → Prop} (g : Gd X w RX0 cX0_leastOfPart 6 rm_X0_leastOfPart) (hX : atX X l D A) (post : Int32 → Mem → Prop) (hR : Rt X w shX 58 (some .int) (pI post)) (x2 : Int32) (x3 : Int32) (x4 : Int32) (μ : Mem) (h : T_X0_leastOfPart_15 post x2 x3 x4 μ) : V X 15 [(0, .ref (w.1 47)), (2, .int x2), (3, .int x3), (4, .int x4)] [] (wls w shX 58 μ) :=
  h (fun x2 x3 x4 μ => V X 15 [(0, .ref (w.1 47)), (2, .int x2), (3, .int x3), (4, .int x4)] [] (wls w shX 58 μ)) (fun x2 x3 x4 μ h => bv_X0_leastOfPart_15 g hX post hR (fun x2 x3 x4 μ => V X 15 [(0, .ref (w.1 47)), (2, .int x2), (3, .int x3), (4, .int x4)] [] (wls w shX 58 μ)) (fun _ _ _ _ h => h) x2 x3 x4 μ h)
def T_X0_leastOfPart (x1 : Int32) (μ : Mem) (post : Int32 → Mem → Prop) : Prop :=
  vp_in x1 9 ∧ T_X0_leastOfPart_15 post x1 (μ 14 x1.toNatClampNeg) 0 μ
theorem m_X0_leastOfPart {w : Wd} {l : Launch} {D : va_G} {A : Nat → Prop} (x1 : Int32) (μ : Mem) (post : Int32 → Mem → Prop) (h : T_X0_leastOfPart x1 μ post) : MetX l D A w shX 58 yX0_leastOfPart cX0_leastOfPart 6 (some .int) rm_X0_leastOfPart [.ref (w.1 47), .int x1] μ (pI post) := by
  refine metX_of (by decide) rfl (lv := [(0, .ref (w.1 47)), (1, .int x1)]) rfl (fun X hX g hR => ?_)
  refine r_iload_n (pc := 0) 1 g dX0_leastOfPart_0 rfl ?_
  refine r_istore_n (pc := 1) (lv' := [(2, .int x1), (0, .ref (w.1 47)), (1, .int x1)]) g dX0_leastOfPart_1 rfl rfl ?_
  refine r_aload_n (pc := 2) 1 g dX0_leastOfPart_2 rfl ?_
  refine r_getr (pc := 3) (μ := μ) g dX0_leastOfPart_3 fa_RX0_22 shX_out sX_47 rfl ?_
  refine r_getr (pc := 6) (μ := μ) g dX0_leastOfPart_6 fa_RX0_86 shX_out sX_13 rfl ?_
  refine r_iload_n (pc := 9) 2 g dX0_leastOfPart_9 rfl ?_
  obtain ⟨b1, h⟩ := h
  refine r_iaload (pc := 10) (μ := μ) g dX0_leastOfPart_10 shX_out sX_14 b1 ?_
  refine r_istore_n (pc := 11) (lv' := [(3, .int (μ 14 x1.toNatClampNeg)), (2, .int x1), (0, .ref (w.1 47)), (1, .int x1)]) g dX0_leastOfPart_11 rfl rfl ?_
  refine r_iconst (pc := 12) g dX0_leastOfPart_12 ci_0 ?_
  refine r_istore (pc := 13) (lv' := [(4, .int 0), (3, .int (μ 14 x1.toNatClampNeg)), (2, .int x1), (0, .ref (w.1 47)), (1, .int x1)]) g dX0_leastOfPart_13 rfl rfl ?_
  refine r_sub [3, 2, 1, 0] (lv' := [(0, .ref (w.1 47)), (2, .int x1), (3, .int (μ 14 x1.toNatClampNeg)), (4, .int 0)]) rfl ?_
  exact v_X0_leastOfPart_15 g hX post hR x1 (μ 14 x1.toNatClampNeg) 0 μ h
abbrev rm_X0_countParts : Room := { frames := 2, cells := 0, slots := 0, locals := 46 }
def B_X0_countParts_4 (post : Int32 → Mem → Prop) (P4 : Int32 → Int32 → Mem → Prop) (x1 : Int32) (x2 : Int32) (μ : Mem) : Prop :=
  (((μ 13 4) ≤ x2 → post x1 μ) ∧ (¬ (μ 13 4) ≤ x2 → T_X0_leastOfPart x2 μ (fun (u1 : Int32) (μ2 : Mem) => ((¬ u1 = x2 → P4 x1 (x2 + 1) μ2) ∧ (u1 = x2 → P4 (x1 + 1) (x2 + 1) μ2)))))
def T_X0_countParts_4 (post : Int32 → Mem → Prop) (x1 : Int32) (x2 : Int32) (μ : Mem) : Prop :=
  ∀ P4 : Int32 → Int32 → Mem → Prop, (∀ (x1 : Int32) (x2 : Int32) (μ : Mem), B_X0_countParts_4 post P4 x1 x2 μ → P4 x1 x2 μ) → P4 x1 x2 μ
theorem bv_X0_countParts_4 {X : Cx} {w : Wd} {l : Launch} {D : va_G} {A : Nat → Prop} (g : Gd X w RX0 cX0_countParts 3 rm_X0_countParts) (hX : atX X l D A) (post : Int32 → Mem → Prop) (hR : Rt X w shX 58 (some .int) (pI post)) (P4 : Int32 → Int32 → Mem → Prop) (hP4 : ∀ (x1 : Int32) (x2 : Int32) (μ : Mem), P4 x1 x2 μ → V X 4 [(0, .ref (w.1 47)), (1, .int x1), (2, .int x2)] [] (wls w shX 58 μ)) (x1 : Int32) (x2 : Int32) (μ : Mem) (h : B_X0_countParts_4 post P4 x1 x2 μ) : V X 4 [(0, .ref (w.1 47)), (1, .int x1), (2, .int x2)] [] (wls w shX 58 μ) := by
  refine r_iload_n (pc := 4) 2 g dX0_countParts_4 rfl ?_
  refine r_aload_n (pc := 5) 0 g dX0_countParts_5 rfl ?_
  refine r_getr (pc := 6) (μ := μ) g dX0_countParts_6 fa_RX0_22 shX_out sX_47 rfl ?_
  refine r_geti (pc := 9) (μ := μ) g dX0_countParts_9 fa_RX0_35 shX_out sX_13 rfl ?_
  refine r_icmp_ge (pc := 12) 33 g dX0_countParts_12 rfl (fun q => ?_) (fun q => ?_)
  · have h := h.1 q
    refine r_iload_n (pc := 33) 1 g dX0_countParts_33 rfl ?_
    exact r_ireti (pc := 34) g hR dX0_countParts_34 h
  · have h := h.2 q
    refine r_aload_n (pc := 15) 0 g dX0_countParts_15 rfl ?_
    refine r_iload_n (pc := 16) 2 g dX0_countParts_16 rfl ?_
    refine r_callVi (pc := 17) (st := []) g hX dX0_countParts_17 (m_X0_leastOfPart x2 μ _ h) kb_RX0_89 kv_X0_leastOfPart shX_out sX_47 rfl rfl rfl rfl (fun u1 μ2 h => ?_)
    refine r_iload_n (pc := 20) 2 g dX0_countParts_20 rfl ?_
    refine r_icmp_ne (pc := 21) 27 g dX0_countParts_21 rfl (fun q => ?_) (fun q => ?_)
    · have h := h.1 q
      refine r_iinc (pc := 27) (lv' := [(2, .int (x2 + 1)), (0, .ref (w.1 47)), (1, .int x1)]) 2 g dX0_countParts_27 rfl ci_1 rfl rfl ?_
      refine r_goto (pc := 30) 4 g dX0_countParts_30 rfl ?_
      refine r_sub [1, 2, 0] (lv' := [(0, .ref (w.1 47)), (1, .int x1), (2, .int (x2 + 1))]) rfl ?_
      exact hP4 x1 (x2 + 1) μ2 h
    · have h := h.2 q
      refine r_iinc (pc := 24) (lv' := [(1, .int (x1 + 1)), (0, .ref (w.1 47)), (2, .int x2)]) 1 g dX0_countParts_24 rfl ci_1 rfl rfl ?_
      refine r_iinc (pc := 27) (lv' := [(2, .int (x2 + 1)), (1, .int (x1 + 1)), (0, .ref (w.1 47))]) 2 g dX0_countParts_27 rfl ci_1 rfl rfl ?_
      refine r_goto (pc := 30) 4 g dX0_countParts_30 rfl ?_
      refine r_sub [2, 1, 0] (lv' := [(0, .ref (w.1 47)), (1, .int (x1 + 1)), (2, .int (x2 + 1))]) rfl ?_
      exact hP4 (x1 + 1) (x2 + 1) μ2 h
theorem v_X0_countParts_4 {X : Cx} {w : Wd} {l : Launch} {D : va_G} {A : Nat → Prop} (g : Gd X w RX0 cX0_countParts 3 rm_X0_countParts) (hX : atX X l D A) (post : Int32 → Mem → Prop) (hR : Rt X w shX 58 (some .int) (pI post)) (x1 : Int32) (x2 : Int32) (μ : Mem) (h : T_X0_countParts_4 post x1 x2 μ) : V X 4 [(0, .ref (w.1 47)), (1, .int x1), (2, .int x2)] [] (wls w shX 58 μ) :=
  h (fun x1 x2 μ => V X 4 [(0, .ref (w.1 47)), (1, .int x1), (2, .int x2)] [] (wls w shX 58 μ)) (fun x1 x2 μ h => bv_X0_countParts_4 g hX post hR (fun x1 x2 μ => V X 4 [(0, .ref (w.1 47)), (1, .int x1), (2, .int x2)] [] (wls w shX 58 μ)) (fun _ _ _ h => h) x1 x2 μ h)
def T_X0_countParts (μ : Mem) (post : Int32 → Mem → Prop) : Prop :=
  T_X0_countParts_4 post 0 0 μ
theorem m_X0_countParts {w : Wd} {l : Launch} {D : va_G} {A : Nat → Prop} (μ : Mem) (post : Int32 → Mem → Prop) (h : T_X0_countParts μ post) : MetX l D A w shX 58 yX0_countParts cX0_countParts 3 (some .int) rm_X0_countParts [.ref (w.1 47)] μ (pI post) := by
  refine metX_of (by decide) rfl (lv := [(0, .ref (w.1 47))]) rfl (fun X hX g hR => ?_)
  refine r_iconst (pc := 0) g dX0_countParts_0 ci_0 ?_
  refine r_istore_n (pc := 1) (lv' := [(1, .int 0), (0, .ref (w.1 47))]) g dX0_countParts_1 rfl rfl ?_
  refine r_iconst (pc := 2) g dX0_countParts_2 ci_0 ?_
  refine r_istore_n (pc := 3) (lv' := [(2, .int 0), (1, .int 0), (0, .ref (w.1 47))]) g dX0_countParts_3 rfl rfl ?_
  refine r_sub [2, 1, 0] (lv' := [(0, .ref (w.1 47)), (1, .int 0), (2, .int 0)]) rfl ?_
  exact v_X0_countParts_4 g hX post hR 0 0 μ h
abbrev rm_X0_isWithin : Room := { frames := 0, cells := 0, slots := 0, locals := 0 }
def T_X0_isWithin (x1 : Int32) (x2 : Int32) (μ : Mem) (post : Int32 → Mem → Prop) : Prop :=
  vp_in x1 9 ∧ vp_in x2 9 ∧ ((¬ (μ 14 x1.toNatClampNeg) = (μ 14 x2.toNatClampNeg) → vp_in x1 9 ∧ vp_in x2 9 ∧ ((¬ ((μ 14 x1.toNatClampNeg) &&& ((μ 14 x2.toNatClampNeg) ^^^ (-1))) = 0 → post 0 μ) ∧ (((μ 14 x1.toNatClampNeg) &&& ((μ 14 x2.toNatClampNeg) ^^^ (-1))) = 0 → post 1 μ))) ∧ ((μ 14 x1.toNatClampNeg) = (μ 14 x2.toNatClampNeg) → ((x1 ≤ x2 → post 0 μ) ∧ (¬ x1 ≤ x2 → post 1 μ))))
theorem m_X0_isWithin {w : Wd} {l : Launch} {D : va_G} {A : Nat → Prop} (x1 : Int32) (x2 : Int32) (μ : Mem) (post : Int32 → Mem → Prop) (h : T_X0_isWithin x1 x2 μ post) : MetX l D A w shX 58 yX0_isWithin cX0_isWithin 3 (some .boolean) rm_X0_isWithin [.ref (w.1 47), .int x1, .int x2] μ (pI post) := by
  refine metX_of (by decide) rfl (lv := [(0, .ref (w.1 47)), (1, .int x1), (2, .int x2)]) rfl (fun X hX g hR => ?_)
  refine r_aload_n (pc := 0) 0 g dX0_isWithin_0 rfl ?_
  refine r_getr (pc := 1) (μ := μ) g dX0_isWithin_1 fa_RX0_22 shX_out sX_47 rfl ?_
  refine r_getr (pc := 4) (μ := μ) g dX0_isWithin_4 fa_RX0_86 shX_out sX_13 rfl ?_
  refine r_iload_n (pc := 7) 1 g dX0_isWithin_7 rfl ?_
  obtain ⟨b1, h⟩ := h
  refine r_iaload (pc := 8) (μ := μ) g dX0_isWithin_8 shX_out sX_14 b1 ?_
  refine r_aload_n (pc := 9) 0 g dX0_isWithin_9 rfl ?_
  refine r_getr (pc := 10) (μ := μ) g dX0_isWithin_10 fa_RX0_22 shX_out sX_47 rfl ?_
  refine r_getr (pc := 13) (μ := μ) g dX0_isWithin_13 fa_RX0_86 shX_out sX_13 rfl ?_
  refine r_iload_n (pc := 16) 2 g dX0_isWithin_16 rfl ?_
  obtain ⟨b2, h⟩ := h
  refine r_iaload (pc := 17) (μ := μ) g dX0_isWithin_17 shX_out sX_14 b2 ?_
  refine r_icmp_ne (pc := 18) 32 g dX0_isWithin_18 rfl (fun q => ?_) (fun q => ?_)
  · have h := h.1 q
    refine r_aload_n (pc := 32) 0 g dX0_isWithin_32 rfl ?_
    refine r_getr (pc := 33) (μ := μ) g dX0_isWithin_33 fa_RX0_22 shX_out sX_47 rfl ?_
    refine r_getr (pc := 36) (μ := μ) g dX0_isWithin_36 fa_RX0_86 shX_out sX_13 rfl ?_
    refine r_iload_n (pc := 39) 1 g dX0_isWithin_39 rfl ?_
    obtain ⟨b3, h⟩ := h
    refine r_iaload (pc := 40) (μ := μ) g dX0_isWithin_40 shX_out sX_14 b3 ?_
    refine r_aload_n (pc := 41) 0 g dX0_isWithin_41 rfl ?_
    refine r_getr (pc := 42) (μ := μ) g dX0_isWithin_42 fa_RX0_22 shX_out sX_47 rfl ?_
    refine r_getr (pc := 45) (μ := μ) g dX0_isWithin_45 fa_RX0_86 shX_out sX_13 rfl ?_
    refine r_iload_n (pc := 48) 2 g dX0_isWithin_48 rfl ?_
    obtain ⟨b4, h⟩ := h
    refine r_iaload (pc := 49) (μ := μ) g dX0_isWithin_49 shX_out sX_14 b4 ?_
    refine r_iconst (pc := 50) g dX0_isWithin_50 ci_m1 ?_
    refine r_ixor (pc := 51) g dX0_isWithin_51 ?_
    refine r_iand (pc := 52) g dX0_isWithin_52 ?_
    refine r_if_ne (pc := 53) 60 g dX0_isWithin_53 rfl (fun q => ?_) (fun q => ?_)
    · have h := h.1 q
      refine r_iconst (pc := 60) g dX0_isWithin_60 ci_0 ?_
      exact r_zreti (pc := 61) g hR dX0_isWithin_61 (Or.inl rfl) h
    · have h := h.2 q
      refine r_iconst (pc := 56) g dX0_isWithin_56 ci_1 ?_
      refine r_goto (pc := 57) 61 g dX0_isWithin_57 rfl ?_
      exact r_zreti (pc := 61) g hR dX0_isWithin_61 (Or.inr rfl) h
  · have h := h.2 q
    refine r_iload_n (pc := 21) 2 g dX0_isWithin_21 rfl ?_
    refine r_iload_n (pc := 22) 1 g dX0_isWithin_22 rfl ?_
    refine r_icmp_ge (pc := 23) 30 g dX0_isWithin_23 rfl (fun q => ?_) (fun q => ?_)
    · have h := h.1 q
      refine r_iconst (pc := 30) g dX0_isWithin_30 ci_0 ?_
      exact r_zreti (pc := 31) g hR dX0_isWithin_31 (Or.inl rfl) h
    · have h := h.2 q
      refine r_iconst (pc := 26) g dX0_isWithin_26 ci_1 ?_
      refine r_goto (pc := 27) 31 g dX0_isWithin_27 rfl ?_
      exact r_zreti (pc := 31) g hR dX0_isWithin_31 (Or.inr rfl) h
abbrev rm_X0_allWithin : Room := { frames := 1, cells := 0, slots := 0, locals := 22 }
def B_X0_allWithin_17 (post : Int32 → Mem → Prop) (P4 : Int32 → Int32 → Mem → Prop) (P17 : Int32 → Int32 → Int32 → Mem → Prop) (x1 : Int32) (x2 : Int32) (x3 : Int32) (μ : Mem) : Prop :=
  (((μ 13 4) ≤ x3 → P4 x1 (x2 + 1) μ) ∧ (¬ (μ 13 4) ≤ x3 → T_X0_isWithin x2 x3 μ (fun (u1 : Int32) (μ2 : Mem) => ((u1 = 0 → P17 x1 x2 (x3 + 1) μ2) ∧ (¬ u1 = 0 → P17 (x1 ||| ((1 : Int32) <<< (x2 &&& 31))) x2 (x3 + 1) μ2)))))
def T_X0_allWithin_17 (post : Int32 → Mem → Prop) (P4 : Int32 → Int32 → Mem → Prop) (x1 : Int32) (x2 : Int32) (x3 : Int32) (μ : Mem) : Prop :=
  ∀ P17 : Int32 → Int32 → Int32 → Mem → Prop, (∀ (x1 : Int32) (x2 : Int32) (x3 : Int32) (μ : Mem), B_X0_allWithin_17 post P4 P17 x1 x2 x3 μ → P17 x1 x2 x3 μ) → P17 x1 x2 x3 μ
theorem bv_X0_allWithin_17 {X : Cx} {w : Wd} {l : Launch} {D : va_G} {A : Nat → Prop} (g : Gd X w RX0 cX0_allWithin 4 rm_X0_allWithin) (hX : atX X l D A) (post : Int32 → Mem → Prop) (hR : Rt X w shX 58 (some .int) (pI post)) (P4 : Int32 → Int32 → Mem → Prop) (hP4 : ∀ (x1 : Int32) (x2 : Int32) (μ : Mem), P4 x1 x2 μ → V X 4 [(0, .ref (w.1 47)), (1, .int x1), (2, .int x2)] [] (wls w shX 58 μ)) (P17 : Int32 → Int32 → Int32 → Mem → Prop) (hP17 : ∀ (x1 : Int32) (x2 : Int32) (x3 : Int32) (μ : Mem), P17 x1 x2 x3 μ → V X 17 [(0, .ref (w.1 47)), (1, .int x1), (2, .int x2), (3, .int x3)] [] (wls w shX 58 μ)) (x1 : Int32) (x2 : Int32) (x3 : Int32) (μ : Mem) (h : B_X0_allWithin_17 post P4 P17 x1 x2 x3 μ) : V X 17 [(0, .ref (w.1 47)), (1, .int x1), (2, .int x2), (3, .int x3)] [] (wls w shX 58 μ) := by
  refine r_iload_n (pc := 17) 3 g dX0_allWithin_17 rfl ?_
  refine r_aload_n (pc := 18) 0 g dX0_allWithin_18 rfl ?_
  refine r_getr (pc := 19) (μ := μ) g dX0_allWithin_19 fa_RX0_22 shX_out sX_47 rfl ?_
  refine r_geti (pc := 22) (μ := μ) g dX0_allWithin_22 fa_RX0_35 shX_out sX_13 rfl ?_
  refine r_icmp_ge (pc := 25) 49 g dX0_allWithin_25 rfl (fun q => ?_) (fun q => ?_)
  · have h := h.1 q
    refine r_iinc (pc := 49) (lv' := [(2, .int (x2 + 1)), (0, .ref (w.1 47)), (1, .int x1), (3, .int x3)]) 2 g dX0_allWithin_49 rfl ci_1 rfl rfl ?_
    refine r_goto (pc := 52) 4 g dX0_allWithin_52 rfl ?_
    refine r_sub [1, 2, 0] (lv' := [(0, .ref (w.1 47)), (1, .int x1), (2, .int (x2 + 1))]) rfl ?_
    exact hP4 x1 (x2 + 1) μ h
  · have h := h.2 q
    refine r_aload_n (pc := 28) 0 g dX0_allWithin_28 rfl ?_
    refine r_iload_n (pc := 29) 2 g dX0_allWithin_29 rfl ?_
    refine r_iload_n (pc := 30) 3 g dX0_allWithin_30 rfl ?_
    refine r_callVi (pc := 31) (st := []) g hX dX0_allWithin_31 (m_X0_isWithin x2 x3 μ _ h) kb_RX0_92 kv_X0_isWithin shX_out sX_47 rfl rfl rfl rfl (fun u1 μ2 h => ?_)
    refine r_if_eq (pc := 34) 43 g dX0_allWithin_34 rfl (fun q => ?_) (fun q => ?_)
    · have h := h.1 q
      refine r_iinc (pc := 43) (lv' := [(3, .int (x3 + 1)), (0, .ref (w.1 47)), (1, .int x1), (2, .int x2)]) 3 g dX0_allWithin_43 rfl ci_1 rfl rfl ?_
      refine r_goto (pc := 46) 17 g dX0_allWithin_46 rfl ?_
      refine r_sub [1, 2, 3, 0] (lv' := [(0, .ref (w.1 47)), (1, .int x1), (2, .int x2), (3, .int (x3 + 1))]) rfl ?_
      exact hP17 x1 x2 (x3 + 1) μ2 h
    · have h := h.2 q
      refine r_iload_n (pc := 37) 1 g dX0_allWithin_37 rfl ?_
      refine r_iconst (pc := 38) g dX0_allWithin_38 ci_1 ?_
      refine r_iload_n (pc := 39) 2 g dX0_allWithin_39 rfl ?_
      refine r_ishl (pc := 40) g dX0_allWithin_40 ?_
      refine r_ior (pc := 41) g dX0_allWithin_41 ?_
      refine r_istore_n (pc := 42) (lv' := [(1, .int (x1 ||| ((1 : Int32) <<< (x2 &&& 31)))), (0, .ref (w.1 47)), (2, .int x2), (3, .int x3)]) g dX0_allWithin_42 rfl rfl ?_
      refine r_iinc (pc := 43) (lv' := [(3, .int (x3 + 1)), (1, .int (x1 ||| ((1 : Int32) <<< (x2 &&& 31)))), (0, .ref (w.1 47)), (2, .int x2)]) 3 g dX0_allWithin_43 rfl ci_1 rfl rfl ?_
      refine r_goto (pc := 46) 17 g dX0_allWithin_46 rfl ?_
      refine r_sub [2, 1, 3, 0] (lv' := [(0, .ref (w.1 47)), (1, .int (x1 ||| ((1 : Int32) <<< (x2 &&& 31)))), (2, .int x2), (3, .int (x3 + 1))]) rfl ?_
      exact hP17 (x1 ||| ((1 : Int32) <<< (x2 &&& 31))) x2 (x3 + 1) μ2 h
theorem v_X0_allWithin_17 {X : Cx} {w : Wd} {l : Launch} {D : va_G} {A : Nat → Prop} (g : Gd X w RX0 cX0_allWithin 4 rm_X0_allWithin) (hX : atX X l D A) (post : Int32 → Mem → Prop) (hR : Rt X w shX 58 (some .int) (pI post)) (P4 : Int32 → Int32 → Mem → Prop) (hP4 : ∀ (x1 : Int32) (x2 : Int32) (μ : Mem), P4 x1 x2 μ → V X 4 [(0, .ref (w.1 47)), (1, .int x1), (2, .int x2)] [] (wls w shX 58 μ)) (x1 : Int32) (x2 : Int32) (x3 : Int32) (μ : Mem) (h : T_X0_allWithin_17 post P4 x1 x2 x3 μ) : V X 17 [(0, .ref (w.1 47)), (1, .int x1), (2, .int x2), (3, .int x3)] [] (wls w shX 58 μ) :=
  h (fun x1 x2 x3 μ => V X 17 [(0, .ref (w.1 47)), (1, .int x1), (2, .int x2), (3, .int x3)] [] (wls w shX 58 μ)) (fun x1 x2 x3 μ h => bv_X0_allWithin_17 g hX post hR P4 hP4 (fun x1 x2 x3 μ => V X 17 [(0, .ref (w.1 47)), (1, .int x1), (2, .int x2), (3, .int x3)] [] (wls w shX 58 μ)) (fun _ _ _ _ h => h) x1 x2 x3 μ h)
def B_X0_allWithin_4 (post : Int32 → Mem → Prop) (P4 : Int32 → Int32 → Mem → Prop) (x1 : Int32) (x2 : Int32) (μ : Mem) : Prop :=
  (((μ 13 4) ≤ x2 → post x1 μ) ∧ (¬ (μ 13 4) ≤ x2 → T_X0_allWithin_17 post P4 x1 x2 0 μ))
def T_X0_allWithin_4 (post : Int32 → Mem → Prop) (x1 : Int32) (x2 : Int32) (μ : Mem) : Prop :=
  ∀ P4 : Int32 → Int32 → Mem → Prop, (∀ (x1 : Int32) (x2 : Int32) (μ : Mem), B_X0_allWithin_4 post P4 x1 x2 μ → P4 x1 x2 μ) → P4 x1 x2 μ
theorem bv_X0_allWithin_4 {X : Cx} {w : Wd} {l : Launch} {D : va_G} {A : Nat → Prop} (g : Gd X w RX0 cX0_allWithin 4 rm_X0_allWithin) (hX : atX X l D A) (post : Int32 → Mem → Prop) (hR : Rt X w shX 58 (some .int) (pI post)) (P4 : Int32 → Int32 → Mem → Prop) (hP4 : ∀ (x1 : Int32) (x2 : Int32) (μ : Mem), P4 x1 x2 μ → V X 4 [(0, .ref (w.1 47)), (1, .int x1), (2, .int x2)] [] (wls w shX 58 μ)) (x1 : Int32) (x2 : Int32) (μ : Mem) (h : B_X0_allWithin_4 post P4 x1 x2 μ) : V X 4 [(0, .ref (w.1 47)), (1, .int x1), (2, .int x2)] [] (wls w shX 58 μ) := by
  refine r_iload_n (pc := 4) 2 g dX0_allWithin_4 rfl ?_
  refine r_aload_n (pc := 5) 0 g dX0_allWithin_5 rfl ?_
  refine r_getr (pc := 6) (μ := μ) g dX0_allWithin_6 fa_RX0_22 shX_out sX_47 rfl ?_
  refine r_geti (pc := 9) (μ := μ) g dX0_allWithin_9 fa_RX0_35 shX_out sX_13 rfl ?_
  refine r_icmp_ge (pc := 12) 55 g dX0_allWithin_12 rfl (fun q => ?_) (fun q => ?_)
  · have h := h.1 q
    refine r_iload_n (pc := 55) 1 g dX0_allWithin_55 rfl ?_
    exact r_ireti (pc := 56) g hR dX0_allWithin_56 h
  · have h := h.2 q
    refine r_iconst (pc := 15) g dX0_allWithin_15 ci_0 ?_
    refine r_istore_n (pc := 16) (lv' := [(3, .int 0), (0, .ref (w.1 47)), (1, .int x1), (2, .int x2)]) g dX0_allWithin_16 rfl rfl ?_
    refine r_sub [1, 2, 3, 0] (lv' := [(0, .ref (w.1 47)), (1, .int x1), (2, .int x2), (3, .int 0)]) rfl ?_
    exact v_X0_allWithin_17 g hX post hR P4 hP4 x1 x2 0 μ h
theorem v_X0_allWithin_4 {X : Cx} {w : Wd} {l : Launch} {D : va_G} {A : Nat → Prop} (g : Gd X w RX0 cX0_allWithin 4 rm_X0_allWithin) (hX : atX X l D A) (post : Int32 → Mem → Prop) (hR : Rt X w shX 58 (some .int) (pI post)) (x1 : Int32) (x2 : Int32) (μ : Mem) (h : T_X0_allWithin_4 post x1 x2 μ) : V X 4 [(0, .ref (w.1 47)), (1, .int x1), (2, .int x2)] [] (wls w shX 58 μ) :=
  h (fun x1 x2 μ => V X 4 [(0, .ref (w.1 47)), (1, .int x1), (2, .int x2)] [] (wls w shX 58 μ)) (fun x1 x2 μ h => bv_X0_allWithin_4 g hX post hR (fun x1 x2 μ => V X 4 [(0, .ref (w.1 47)), (1, .int x1), (2, .int x2)] [] (wls w shX 58 μ)) (fun _ _ _ h => h) x1 x2 μ h)
def T_X0_allWithin (μ : Mem) (post : Int32 → Mem → Prop) : Prop :=
  T_X0_allWithin_4 post 0 0 μ
theorem m_X0_allWithin {w : Wd} {l : Launch} {D : va_G} {A : Nat → Prop} (μ : Mem) (post : Int32 → Mem → Prop) (h : T_X0_allWithin μ post) : MetX l D A w shX 58 yX0_allWithin cX0_allWithin 4 (some .int) rm_X0_allWithin [.ref (w.1 47)] μ (pI post) := by
  refine metX_of (by decide) rfl (lv := [(0, .ref (w.1 47))]) rfl (fun X hX g hR => ?_)
  refine r_iconst (pc := 0) g dX0_allWithin_0 ci_0 ?_
  refine r_istore_n (pc := 1) (lv' := [(1, .int 0), (0, .ref (w.1 47))]) g dX0_allWithin_1 rfl rfl ?_
  refine r_iconst (pc := 2) g dX0_allWithin_2 ci_0 ?_
  refine r_istore_n (pc := 3) (lv' := [(2, .int 0), (1, .int 0), (0, .ref (w.1 47))]) g dX0_allWithin_3 rfl rfl ?_
  refine r_sub [2, 1, 0] (lv' := [(0, .ref (w.1 47)), (1, .int 0), (2, .int 0)]) rfl ?_
  exact v_X0_allWithin_4 g hX post hR 0 0 μ h
abbrev rm_X1_fillNeededFromHereOn : Room := { frames := 0, cells := 0, slots := 0, locals := 0 }
def B_X1_fillNeededFromHereOn_12 (r1 : Nat) (post : Mem → Prop) (P12 : Int32 → Int32 → Mem → Prop) (x2 : Int32) (x3 : Int32) (μ : Mem) : Prop :=
  ((x3 < 0 → post μ) ∧ (¬ x3 < 0 → shX r1 = .inl 9 ∧ vp_in x3 9 ∧ vp_in (μ r1 x3.toNatClampNeg) 9 ∧ vp_in x3 9 ∧ P12 (x2 ||| (μ 14 (μ r1 x3.toNatClampNeg).toNatClampNeg)) (x3 + (-1)) (mset μ 34 x3.toNatClampNeg (x2 ||| (μ 14 (μ r1 x3.toNatClampNeg).toNatClampNeg)))))
def T_X1_fillNeededFromHereOn_12 (r1 : Nat) (post : Mem → Prop) (x2 : Int32) (x3 : Int32) (μ : Mem) : Prop :=
  ∀ P12 : Int32 → Int32 → Mem → Prop, (∀ (x2 : Int32) (x3 : Int32) (μ : Mem), B_X1_fillNeededFromHereOn_12 r1 post P12 x2 x3 μ → P12 x2 x3 μ) → P12 x2 x3 μ
theorem bv_X1_fillNeededFromHereOn_12 {X : Cx} {w : Wd} {l : Launch} {D : va_G} {A : Nat → Prop} (r1 : Nat) (g : Gd X w RX1 cX1_fillNeededFromHereOn 4 rm_X1_fillNeededFromHereOn) (hX : atX X l D A) (post : Mem → Prop) (hR : Rt X w shX 58 none (pV post)) (P12 : Int32 → Int32 → Mem → Prop) (hP12 : ∀ (x2 : Int32) (x3 : Int32) (μ : Mem), P12 x2 x3 μ → V X 12 [(0, .ref (w.1 33)), (1, .ref (w.1 r1)), (2, .int x2), (3, .int x3)] [] (wls w shX 58 μ)) (x2 : Int32) (x3 : Int32) (μ : Mem) (h : B_X1_fillNeededFromHereOn_12 r1 post P12 x2 x3 μ) : V X 12 [(0, .ref (w.1 33)), (1, .ref (w.1 r1)), (2, .int x2), (3, .int x3)] [] (wls w shX 58 μ) := by
  refine r_iload_n (pc := 12) 3 g dX1_fillNeededFromHereOn_12 rfl ?_
  refine r_if_lt (pc := 13) 43 g dX1_fillNeededFromHereOn_13 rfl (fun q => ?_) (fun q => ?_)
  · have h := h.1 q
    exact r_vretv (pc := 43) g hR dX1_fillNeededFromHereOn_43 h
  · have h := h.2 q
    refine r_iload_n (pc := 16) 2 g dX1_fillNeededFromHereOn_16 rfl ?_
    refine r_aload_n (pc := 17) 0 g dX1_fillNeededFromHereOn_17 rfl ?_
    refine r_getr (pc := 18) (μ := μ) g dX1_fillNeededFromHereOn_18 fa_RX1_15 shX_out sX_33 rfl ?_
    refine r_getr (pc := 21) (μ := μ) g dX1_fillNeededFromHereOn_21 fa_RX1_42 shX_out sX_13 rfl ?_
    refine r_aload_n (pc := 24) 1 g dX1_fillNeededFromHereOn_24 rfl ?_
    refine r_iload_n (pc := 25) 3 g dX1_fillNeededFromHereOn_25 rfl ?_
    obtain ⟨z1, h⟩ := h
    obtain ⟨b2, h⟩ := h
    refine r_iaload (pc := 26) (μ := μ) g dX1_fillNeededFromHereOn_26 shX_out z1 b2 ?_
    obtain ⟨b3, h⟩ := h
    refine r_iaload (pc := 27) (μ := μ) g dX1_fillNeededFromHereOn_27 shX_out sX_14 b3 ?_
    refine r_ior (pc := 28) g dX1_fillNeededFromHereOn_28 ?_
    refine r_istore_n (pc := 29) (lv' := [(2, .int (x2 ||| (μ 14 (μ r1 x3.toNatClampNeg).toNatClampNeg))), (0, .ref (w.1 33)), (1, .ref (w.1 r1)), (3, .int x3)]) g dX1_fillNeededFromHereOn_29 rfl rfl ?_
    refine r_aload_n (pc := 30) 1 g dX1_fillNeededFromHereOn_30 rfl ?_
    refine r_getr (pc := 31) (μ := μ) g dX1_fillNeededFromHereOn_31 fa_RX1_9 shX_out sX_33 rfl ?_
    refine r_iload_n (pc := 34) 3 g dX1_fillNeededFromHereOn_34 rfl ?_
    refine r_iload_n (pc := 35) 0 g dX1_fillNeededFromHereOn_35 rfl ?_
    obtain ⟨b4, h⟩ := h
    refine r_iastore (pc := 36) (μ := μ) g dX1_fillNeededFromHereOn_36 shX_out sX_34 b4 ?_
    refine r_iinc (pc := 37) (lv' := [(3, .int (x3 + (-1))), (2, .int (x2 ||| (μ 14 (μ r1 x3.toNatClampNeg).toNatClampNeg))), (0, .ref (w.1 33)), (1, .ref (w.1 r1))]) 3 g dX1_fillNeededFromHereOn_37 rfl ci_m1 rfl rfl ?_
    refine r_goto (pc := 40) 12 g dX1_fillNeededFromHereOn_40 rfl ?_
    refine r_sub [2, 3, 1, 0] (lv' := [(0, .ref (w.1 33)), (1, .ref (w.1 r1)), (2, .int (x2 ||| (μ 14 (μ r1 x3.toNatClampNeg).toNatClampNeg))), (3, .int (x3 + (-1)))]) rfl ?_
    exact hP12 (x2 ||| (μ 14 (μ r1 x3.toNatClampNeg).toNatClampNeg)) (x3 + (-1)) (mset μ 34 x3.toNatClampNeg (x2 ||| (μ 14 (μ r1 x3.toNatClampNeg).toNatClampNeg))) h
theorem v_X1_fillNeededFromHereOn_12 {X : Cx} {w : Wd} {l : Launch} {D : va_G} {A : Nat → Prop} (r1 : Nat) (g : Gd X w RX1 cX1_fillNeededFromHereOn 4 rm_X1_fillNeededFromHereOn) (hX : atX X l D A) (post : Mem → Prop) (hR : Rt X w shX 58 none (pV post)) (x2 : Int32) (x3 : Int32) (μ : Mem) (h : T_X1_fillNeededFromHereOn_12 r1 post x2 x3 μ) : V X 12 [(0, .ref (w.1 33)), (1, .ref (w.1 r1)), (2, .int x2), (3, .int x3)] [] (wls w shX 58 μ) :=
  h (fun x2 x3 μ => V X 12 [(0, .ref (w.1 33)), (1, .ref (w.1 r1)), (2, .int x2), (3, .int x3)] [] (wls w shX 58 μ)) (fun x2 x3 μ h => bv_X1_fillNeededFromHereOn_12 r1 g hX post hR (fun x2 x3 μ => V X 12 [(0, .ref (w.1 33)), (1, .ref (w.1 r1)), (2, .int x2), (3, .int x3)] [] (wls w shX 58 μ)) (fun _ _ _ h => h) x2 x3 μ h)
def T_X1_fillNeededFromHereOn (r1 : Nat) (μ : Mem) (post : Mem → Prop) : Prop :=
  T_X1_fillNeededFromHereOn_12 r1 post 0 ((μ 13 4) - 1) μ
theorem m_X1_fillNeededFromHereOn {w : Wd} {l : Launch} {D : va_G} {A : Nat → Prop} (r1 : Nat) (μ : Mem) (post : Mem → Prop) (h : T_X1_fillNeededFromHereOn r1 μ post) : MetX l D A w shX 58 yX1_fillNeededFromHereOn cX1_fillNeededFromHereOn 4 none rm_X1_fillNeededFromHereOn [.ref (w.1 33), .ref (w.1 r1)] μ (pV post) := by
  refine metX_of (by decide) rfl (lv := [(0, .ref (w.1 33)), (1, .ref (w.1 r1))]) rfl (fun X hX g hR => ?_)
  refine r_iconst (pc := 0) g dX1_fillNeededFromHereOn_0 ci_0 ?_
  refine r_istore_n (pc := 1) (lv' := [(2, .int 0), (0, .ref (w.1 33)), (1, .ref (w.1 r1))]) g dX1_fillNeededFromHereOn_1 rfl rfl ?_
  refine r_aload_n (pc := 2) 1 g dX1_fillNeededFromHereOn_2 rfl ?_
  refine r_getr (pc := 3) (μ := μ) g dX1_fillNeededFromHereOn_3 fa_RX1_15 shX_out sX_33 rfl ?_
  refine r_geti (pc := 6) (μ := μ) g dX1_fillNeededFromHereOn_6 fa_RX1_34 shX_out sX_13 rfl ?_
  refine r_iconst (pc := 9) g dX1_fillNeededFromHereOn_9 ci_1 ?_
  refine r_isub (pc := 10) g dX1_fillNeededFromHereOn_10 ?_
  refine r_istore_n (pc := 11) (lv' := [(3, .int ((μ 13 4) - 1)), (2, .int 0), (0, .ref (w.1 33)), (1, .ref (w.1 r1))]) g dX1_fillNeededFromHereOn_11 rfl rfl ?_
  refine r_sub [2, 3, 1, 0] (lv' := [(0, .ref (w.1 33)), (1, .ref (w.1 r1)), (2, .int 0), (3, .int ((μ 13 4) - 1))]) rfl ?_
  exact v_X1_fillNeededFromHereOn_12 r1 g hX post hR 0 ((μ 13 4) - 1) μ h
abbrev rm_X1_measure : Room := { frames := 1, cells := 0, slots := 0, locals := 23 }
def T_X1_measure_75 (r1 : Nat) (post : Mem → Prop) (P27 : Int32 → Int32 → Int32 → Mem → Prop) (x2 : Int32) (x3 : Int32) (x4 : Int32) (x5 : Int32) (s0 : Int32) (μ : Mem) : Prop :=
  (s0 = 0 ∨ s0 = 1) ∧ vp_in x5 9 ∧ vp_in x4 9 ∧ vp_in x4 9 ∧ vp_in x4 9 ∧ T_X5_sum 16 ((mset (mset μ 33 3 s0) 34 x4.toNatClampNeg (((mset μ 33 3 s0) 34 x4.toNatClampNeg) &&& (x3 ||| ((mset μ 33 3 s0) 14 x5.toNatClampNeg)))) 34 x4.toNatClampNeg) (mset (mset μ 33 3 s0) 34 x4.toNatClampNeg (((mset μ 33 3 s0) 34 x4.toNatClampNeg) &&& (x3 ||| ((mset μ 33 3 s0) 14 x5.toNatClampNeg)))) (fun (u6 : Int32) (μ7 : Mem) => P27 (x2 ||| ((1 : Int32) <<< (x5 &&& 31))) (x3 ||| ((mset μ 33 3 s0) 14 x5.toNatClampNeg)) (x4 + 1) (mset (mset μ7 33 1 (if (μ7 33 1) < u6 then u6 else (μ7 33 1))) 33 2 (((mset μ7 33 1 (if (μ7 33 1) < u6 then u6 else (μ7 33 1))) 33 2) + u6)))
theorem v_X1_measure_75 {X : Cx} {w : Wd} {l : Launch} {D : va_G} {A : Nat → Prop} (r1 : Nat) (g : Gd X w RX1 cX1_measure 7 rm_X1_measure) (hX : atX X l D A) (post : Mem → Prop) (hR : Rt X w shX 58 none (pV post)) (P27 : Int32 → Int32 → Int32 → Mem → Prop) (hP27 : ∀ (x2 : Int32) (x3 : Int32) (x4 : Int32) (μ : Mem), P27 x2 x3 x4 μ → V X 27 [(0, .ref (w.1 33)), (1, .ref (w.1 r1)), (2, .int x2), (3, .int x3), (4, .int x4)] [] (wls w shX 58 μ)) (x2 : Int32) (x3 : Int32) (x4 : Int32) (x5 : Int32) (s0 : Int32) (μ : Mem) (h : T_X1_measure_75 r1 post P27 x2 x3 x4 x5 s0 μ) : V X 75 [(0, .ref (w.1 33)), (1, .ref (w.1 r1)), (2, .int x2), (3, .int x3), (4, .int x4), (5, .int x5)] [.int s0, .ref (w.1 33)] (wls w shX 58 μ) := by
  obtain ⟨z1, h⟩ := h
  refine r_putz (pc := 75) (μ := μ) g dX1_measure_75 fp_RX1_30 shX_out sX_33 rfl z1 ?_
  refine r_iload_n (pc := 78) 2 g dX1_measure_78 rfl ?_
  refine r_iconst (pc := 79) g dX1_measure_79 ci_1 ?_
  refine r_iload (pc := 80) 5 g dX1_measure_80 rfl ?_
  refine r_ishl (pc := 82) g dX1_measure_82 ?_
  refine r_ior (pc := 83) g dX1_measure_83 ?_
  refine r_istore_n (pc := 84) (lv' := [(2, .int (x2 ||| ((1 : Int32) <<< (x5 &&& 31)))), (0, .ref (w.1 33)), (1, .ref (w.1 r1)), (3, .int x3), (4, .int x4), (5, .int x5)]) g dX1_measure_84 rfl rfl ?_
  refine r_iload_n (pc := 85) 3 g dX1_measure_85 rfl ?_
  refine r_aload_n (pc := 86) 1 g dX1_measure_86 rfl ?_
  refine r_getr (pc := 87) (μ := mset μ 33 3 s0) g dX1_measure_87 fa_RX1_15 shX_out sX_33 rfl ?_
  refine r_getr (pc := 90) (μ := mset μ 33 3 s0) g dX1_measure_90 fa_RX1_42 shX_out sX_13 rfl ?_
  refine r_iload (pc := 93) 5 g dX1_measure_93 rfl ?_
  obtain ⟨b2, h⟩ := h
  refine r_iaload (pc := 95) (μ := mset μ 33 3 s0) g dX1_measure_95 shX_out sX_14 b2 ?_
  refine r_ior (pc := 96) g dX1_measure_96 ?_
  refine r_istore_n (pc := 97) (lv' := [(3, .int (x3 ||| ((mset μ 33 3 s0) 14 x5.toNatClampNeg))), (2, .int (x2 ||| ((1 : Int32) <<< (x5 &&& 31)))), (0, .ref (w.1 33)), (1, .ref (w.1 r1)), (4, .int x4), (5, .int x5)]) g dX1_measure_97 rfl rfl ?_
  refine r_aload_n (pc := 98) 2 g dX1_measure_98 rfl ?_
  refine r_getr (pc := 99) (μ := mset μ 33 3 s0) g dX1_measure_99 fa_RX1_9 shX_out sX_33 rfl ?_
  refine r_iload (pc := 102) 4 g dX1_measure_102 rfl ?_
  refine r_dup2 (pc := 104) g dX1_measure_104 rfl rfl ?_
  obtain ⟨b3, h⟩ := h
  refine r_iaload (pc := 105) (μ := mset μ 33 3 s0) g dX1_measure_105 shX_out sX_34 b3 ?_
  refine r_iload_n (pc := 106) 0 g dX1_measure_106 rfl ?_
  refine r_iand (pc := 107) g dX1_measure_107 ?_
  obtain ⟨b4, h⟩ := h
  refine r_iastore (pc := 108) (μ := mset μ 33 3 s0) g dX1_measure_108 shX_out sX_34 b4 ?_
  refine r_aload_n (pc := 109) 2 g dX1_measure_109 rfl ?_
  refine r_getr (pc := 110) (μ := mset (mset μ 33 3 s0) 34 x4.toNatClampNeg (((mset μ 33 3 s0) 34 x4.toNatClampNeg) &&& (x3 ||| ((mset μ 33 3 s0) 14 x5.toNatClampNeg)))) g dX1_measure_110 fa_RX1_15 shX_out sX_33 rfl ?_
  refine r_getr (pc := 113) (μ := mset (mset μ 33 3 s0) 34 x4.toNatClampNeg (((mset μ 33 3 s0) 34 x4.toNatClampNeg) &&& (x3 ||| ((mset μ 33 3 s0) 14 x5.toNatClampNeg)))) g dX1_measure_113 fa_RX1_45 shX_out sX_13 rfl ?_
  refine r_aload_n (pc := 116) 2 g dX1_measure_116 rfl ?_
  refine r_getr (pc := 117) (μ := mset (mset μ 33 3 s0) 34 x4.toNatClampNeg (((mset μ 33 3 s0) 34 x4.toNatClampNeg) &&& (x3 ||| ((mset μ 33 3 s0) 14 x5.toNatClampNeg)))) g dX1_measure_117 fa_RX1_9 shX_out sX_33 rfl ?_
  refine r_iload (pc := 120) 4 g dX1_measure_120 rfl ?_
  obtain ⟨b5, h⟩ := h
  refine r_iaload (pc := 122) (μ := mset (mset μ 33 3 s0) 34 x4.toNatClampNeg (((mset μ 33 3 s0) 34 x4.toNatClampNeg) &&& (x3 ||| ((mset μ 33 3 s0) 14 x5.toNatClampNeg)))) g dX1_measure_122 shX_out sX_34 b5 ?_
  refine r_callVi (pc := 123) (st := []) g hX dX1_measure_123 (m_X5_sum 16 (Or.inl rfl) ((mset (mset μ 33 3 s0) 34 x4.toNatClampNeg (((mset μ 33 3 s0) 34 x4.toNatClampNeg) &&& (x3 ||| ((mset μ 33 3 s0) 14 x5.toNatClampNeg)))) 34 x4.toNatClampNeg) (mset (mset μ 33 3 s0) 34 x4.toNatClampNeg (((mset μ 33 3 s0) 34 x4.toNatClampNeg) &&& (x3 ||| ((mset μ 33 3 s0) 14 x5.toNatClampNeg)))) _ h) kb_RX1_49 kv_X5_sum shX_out (sc_0 (Or.inl rfl)) rfl rfl rfl rfl (fun u6 μ7 h => ?_)
  refine r_istore (pc := 126) (lv' := [(6, .int u6), (3, .int (x3 ||| ((mset μ 33 3 s0) 14 x5.toNatClampNeg))), (2, .int (x2 ||| ((1 : Int32) <<< (x5 &&& 31)))), (0, .ref (w.1 33)), (1, .ref (w.1 r1)), (4, .int x4), (5, .int x5)]) g dX1_measure_126 rfl rfl ?_
  refine r_aload_n (pc := 128) 3 g dX1_measure_128 rfl ?_
  refine r_aload_n (pc := 129) 3 g dX1_measure_129 rfl ?_
  refine r_geti (pc := 130) (μ := μ7) g dX1_measure_130 fa_RX1_23 shX_out sX_33 rfl ?_
  refine r_iload (pc := 133) 0 g dX1_measure_133 rfl ?_
  refine r_max (pc := 135) g dX1_measure_135 kj_RX1_55 ⟨rfl, rfl⟩ ?_
  refine r_puti (pc := 138) (μ := μ7) g dX1_measure_138 fp_RX1_23 shX_out sX_33 rfl ?_
  refine r_aload_n (pc := 141) 3 g dX1_measure_141 rfl ?_
  refine r_dup (pc := 142) g dX1_measure_142 rfl ?_
  refine r_geti (pc := 143) (μ := mset μ7 33 1 (if (μ7 33 1) < u6 then u6 else (μ7 33 1))) g dX1_measure_143 fa_RX1_27 shX_out sX_33 rfl ?_
  refine r_iload (pc := 146) 0 g dX1_measure_146 rfl ?_
  refine r_iadd (pc := 148) g dX1_measure_148 ?_
  refine r_puti (pc := 149) (μ := mset μ7 33 1 (if (μ7 33 1) < u6 then u6 else (μ7 33 1))) g dX1_measure_149 fp_RX1_27 shX_out sX_33 rfl ?_
  refine r_iinc (pc := 152) (lv' := [(4, .int (x4 + 1)), (6, .int u6), (3, .int (x3 ||| ((mset μ 33 3 s0) 14 x5.toNatClampNeg))), (2, .int (x2 ||| ((1 : Int32) <<< (x5 &&& 31)))), (0, .ref (w.1 33)), (1, .ref (w.1 r1)), (5, .int x5)]) 5 g dX1_measure_152 rfl ci_1 rfl rfl ?_
  refine r_goto (pc := 155) 27 g dX1_measure_155 rfl ?_
  refine r_sub [4, 5, 3, 2, 0] (lv' := [(0, .ref (w.1 33)), (1, .ref (w.1 r1)), (2, .int (x2 ||| ((1 : Int32) <<< (x5 &&& 31)))), (3, .int (x3 ||| ((mset μ 33 3 s0) 14 x5.toNatClampNeg))), (4, .int (x4 + 1))]) rfl ?_
  exact hP27 (x2 ||| ((1 : Int32) <<< (x5 &&& 31))) (x3 ||| ((mset μ 33 3 s0) 14 x5.toNatClampNeg)) (x4 + 1) (mset (mset μ7 33 1 (if (μ7 33 1) < u6 then u6 else (μ7 33 1))) 33 2 (((mset μ7 33 1 (if (μ7 33 1) < u6 then u6 else (μ7 33 1))) 33 2) + u6)) h
def T_X1_measure_74 (r1 : Nat) (post : Mem → Prop) (P27 : Int32 → Int32 → Int32 → Mem → Prop) (x2 : Int32) (x3 : Int32) (x4 : Int32) (x5 : Int32) (μ : Mem) : Prop :=
  T_X1_measure_75 r1 post P27 x2 x3 x4 x5 0 μ
theorem v_X1_measure_74 {X : Cx} {w : Wd} {l : Launch} {D : va_G} {A : Nat → Prop} (r1 : Nat) (g : Gd X w RX1 cX1_measure 7 rm_X1_measure) (hX : atX X l D A) (post : Mem → Prop) (hR : Rt X w shX 58 none (pV post)) (P27 : Int32 → Int32 → Int32 → Mem → Prop) (hP27 : ∀ (x2 : Int32) (x3 : Int32) (x4 : Int32) (μ : Mem), P27 x2 x3 x4 μ → V X 27 [(0, .ref (w.1 33)), (1, .ref (w.1 r1)), (2, .int x2), (3, .int x3), (4, .int x4)] [] (wls w shX 58 μ)) (x2 : Int32) (x3 : Int32) (x4 : Int32) (x5 : Int32) (μ : Mem) (h : T_X1_measure_74 r1 post P27 x2 x3 x4 x5 μ) : V X 74 [(0, .ref (w.1 33)), (1, .ref (w.1 r1)), (2, .int x2), (3, .int x3), (4, .int x4), (5, .int x5)] [.ref (w.1 33)] (wls w shX 58 μ) := by
  refine r_iconst (pc := 74) g dX1_measure_74 ci_0 ?_
  refine r_sub [0, 1, 2, 3, 4, 5] (lv' := [(0, .ref (w.1 33)), (1, .ref (w.1 r1)), (2, .int x2), (3, .int x3), (4, .int x4), (5, .int x5)]) rfl ?_
  exact v_X1_measure_75 r1 g hX post hR P27 hP27 x2 x3 x4 x5 0 μ h
def B_X1_measure_27 (r1 : Nat) (post : Mem → Prop) (P27 : Int32 → Int32 → Int32 → Mem → Prop) (x2 : Int32) (x3 : Int32) (x4 : Int32) (μ : Mem) : Prop :=
  (((μ 13 4) ≤ x4 → post μ) ∧ (¬ (μ 13 4) ≤ x4 → shX r1 = .inl 9 ∧ vp_in x4 9 ∧ (((μ 33 3) = 0 → T_X1_measure_74 r1 post P27 x2 x3 x4 (μ r1 x4.toNatClampNeg) μ) ∧ (¬ (μ 33 3) = 0 → vp_in (μ r1 x4.toNatClampNeg) 9 ∧ ((¬ ((μ 15 (μ r1 x4.toNatClampNeg).toNatClampNeg) &&& (x2 ^^^ (-1))) = 0 → T_X1_measure_74 r1 post P27 x2 x3 x4 (μ r1 x4.toNatClampNeg) μ) ∧ (((μ 15 (μ r1 x4.toNatClampNeg).toNatClampNeg) &&& (x2 ^^^ (-1))) = 0 → T_X1_measure_75 r1 post P27 x2 x3 x4 (μ r1 x4.toNatClampNeg) 1 μ))))))
def T_X1_measure_27 (r1 : Nat) (post : Mem → Prop) (x2 : Int32) (x3 : Int32) (x4 : Int32) (μ : Mem) : Prop :=
  ∀ P27 : Int32 → Int32 → Int32 → Mem → Prop, (∀ (x2 : Int32) (x3 : Int32) (x4 : Int32) (μ : Mem), B_X1_measure_27 r1 post P27 x2 x3 x4 μ → P27 x2 x3 x4 μ) → P27 x2 x3 x4 μ
theorem bv_X1_measure_27 {X : Cx} {w : Wd} {l : Launch} {D : va_G} {A : Nat → Prop} (r1 : Nat) (g : Gd X w RX1 cX1_measure 7 rm_X1_measure) (hX : atX X l D A) (post : Mem → Prop) (hR : Rt X w shX 58 none (pV post)) (P27 : Int32 → Int32 → Int32 → Mem → Prop) (hP27 : ∀ (x2 : Int32) (x3 : Int32) (x4 : Int32) (μ : Mem), P27 x2 x3 x4 μ → V X 27 [(0, .ref (w.1 33)), (1, .ref (w.1 r1)), (2, .int x2), (3, .int x3), (4, .int x4)] [] (wls w shX 58 μ)) (x2 : Int32) (x3 : Int32) (x4 : Int32) (μ : Mem) (h : B_X1_measure_27 r1 post P27 x2 x3 x4 μ) : V X 27 [(0, .ref (w.1 33)), (1, .ref (w.1 r1)), (2, .int x2), (3, .int x3), (4, .int x4)] [] (wls w shX 58 μ) := by
  refine r_iload (pc := 27) 4 g dX1_measure_27 rfl ?_
  refine r_aload_n (pc := 29) 0 g dX1_measure_29 rfl ?_
  refine r_getr (pc := 30) (μ := μ) g dX1_measure_30 fa_RX1_15 shX_out sX_33 rfl ?_
  refine r_geti (pc := 33) (μ := μ) g dX1_measure_33 fa_RX1_34 shX_out sX_13 rfl ?_
  refine r_icmp_ge (pc := 36) 158 g dX1_measure_36 rfl (fun q => ?_) (fun q => ?_)
  · have h := h.1 q
    exact r_vretv (pc := 158) g hR dX1_measure_158 h
  · have h := h.2 q
    refine r_aload_n (pc := 39) 1 g dX1_measure_39 rfl ?_
    refine r_iload (pc := 40) 4 g dX1_measure_40 rfl ?_
    obtain ⟨z1, h⟩ := h
    obtain ⟨b2, h⟩ := h
    refine r_iaload (pc := 42) (μ := μ) g dX1_measure_42 shX_out z1 b2 ?_
    refine r_istore (pc := 43) (lv' := [(5, .int (μ r1 x4.toNatClampNeg)), (0, .ref (w.1 33)), (1, .ref (w.1 r1)), (2, .int x2), (3, .int x3), (4, .int x4)]) g dX1_measure_43 rfl rfl ?_
    refine r_aload_n (pc := 45) 1 g dX1_measure_45 rfl ?_
    refine r_aload_n (pc := 46) 1 g dX1_measure_46 rfl ?_
    refine r_geti (pc := 47) (μ := μ) g dX1_measure_47 fa_RX1_30 shX_out sX_33 rfl ?_
    refine r_if_eq (pc := 50) 74 g dX1_measure_50 rfl (fun q => ?_) (fun q => ?_)
    · have h := h.1 q
      refine r_sub [1, 2, 3, 4, 5, 0] (lv' := [(0, .ref (w.1 33)), (1, .ref (w.1 r1)), (2, .int x2), (3, .int x3), (4, .int x4), (5, .int (μ r1 x4.toNatClampNeg))]) rfl ?_
      exact v_X1_measure_74 r1 g hX post hR P27 hP27 x2 x3 x4 (μ r1 x4.toNatClampNeg) μ h
    · have h := h.2 q
      refine r_aload_n (pc := 53) 1 g dX1_measure_53 rfl ?_
      refine r_getr (pc := 54) (μ := μ) g dX1_measure_54 fa_RX1_15 shX_out sX_33 rfl ?_
      refine r_getr (pc := 57) (μ := μ) g dX1_measure_57 fa_RX1_39 shX_out sX_13 rfl ?_
      refine r_iload (pc := 60) 0 g dX1_measure_60 rfl ?_
      obtain ⟨b3, h⟩ := h
      refine r_iaload (pc := 62) (μ := μ) g dX1_measure_62 shX_out sX_15 b3 ?_
      refine r_iload_n (pc := 63) 3 g dX1_measure_63 rfl ?_
      refine r_iconst (pc := 64) g dX1_measure_64 ci_m1 ?_
      refine r_ixor (pc := 65) g dX1_measure_65 ?_
      refine r_iand (pc := 66) g dX1_measure_66 ?_
      refine r_if_ne (pc := 67) 74 g dX1_measure_67 rfl (fun q => ?_) (fun q => ?_)
      · have h := h.1 q
        refine r_sub [1, 2, 3, 4, 5, 0] (lv' := [(0, .ref (w.1 33)), (1, .ref (w.1 r1)), (2, .int x2), (3, .int x3), (4, .int x4), (5, .int (μ r1 x4.toNatClampNeg))]) rfl ?_
        exact v_X1_measure_74 r1 g hX post hR P27 hP27 x2 x3 x4 (μ r1 x4.toNatClampNeg) μ h
      · have h := h.2 q
        refine r_iconst (pc := 70) g dX1_measure_70 ci_1 ?_
        refine r_goto (pc := 71) 75 g dX1_measure_71 rfl ?_
        refine r_sub [1, 2, 3, 4, 5, 0] (lv' := [(0, .ref (w.1 33)), (1, .ref (w.1 r1)), (2, .int x2), (3, .int x3), (4, .int x4), (5, .int (μ r1 x4.toNatClampNeg))]) rfl ?_
        exact v_X1_measure_75 r1 g hX post hR P27 hP27 x2 x3 x4 (μ r1 x4.toNatClampNeg) 1 μ h
theorem v_X1_measure_27 {X : Cx} {w : Wd} {l : Launch} {D : va_G} {A : Nat → Prop} (r1 : Nat) (g : Gd X w RX1 cX1_measure 7 rm_X1_measure) (hX : atX X l D A) (post : Mem → Prop) (hR : Rt X w shX 58 none (pV post)) (x2 : Int32) (x3 : Int32) (x4 : Int32) (μ : Mem) (h : T_X1_measure_27 r1 post x2 x3 x4 μ) : V X 27 [(0, .ref (w.1 33)), (1, .ref (w.1 r1)), (2, .int x2), (3, .int x3), (4, .int x4)] [] (wls w shX 58 μ) :=
  h (fun x2 x3 x4 μ => V X 27 [(0, .ref (w.1 33)), (1, .ref (w.1 r1)), (2, .int x2), (3, .int x3), (4, .int x4)] [] (wls w shX 58 μ)) (fun x2 x3 x4 μ h => bv_X1_measure_27 r1 g hX post hR (fun x2 x3 x4 μ => V X 27 [(0, .ref (w.1 33)), (1, .ref (w.1 r1)), (2, .int x2), (3, .int x3), (4, .int x4)] [] (wls w shX 58 μ)) (fun _ _ _ _ h => h) x2 x3 x4 μ h)
def T_X1_measure (r1 : Nat) (μ : Mem) (post : Mem → Prop) : Prop :=
  T_X1_fillNeededFromHereOn r1 μ (fun (μ2 : Mem) => T_X1_measure_27 r1 post 0 0 0 (mset (mset (mset μ2 33 1 0) 33 2 0) 33 3 1))
theorem m_X1_measure {w : Wd} {l : Launch} {D : va_G} {A : Nat → Prop} (r1 : Nat) (μ : Mem) (post : Mem → Prop) (h : T_X1_measure r1 μ post) : MetX l D A w shX 58 yX1_measure cX1_measure 7 none rm_X1_measure [.ref (w.1 33), .ref (w.1 r1)] μ (pV post) := by
  refine metX_of (by decide) rfl (lv := [(0, .ref (w.1 33)), (1, .ref (w.1 r1))]) rfl (fun X hX g hR => ?_)
  refine r_aload_n (pc := 0) 0 g dX1_measure_0 rfl ?_
  refine r_aload_n (pc := 1) 1 g dX1_measure_1 rfl ?_
  refine r_callVv (pc := 2) (st := []) g hX dX1_measure_2 (m_X1_fillNeededFromHereOn r1 μ _ h) kb_RX1_19 kv_X1_fillNeededFromHereOn shX_out sX_33 rfl rfl rfl rfl (fun μ2 h => ?_)
  refine r_aload_n (pc := 5) 0 g dX1_measure_5 rfl ?_
  refine r_iconst (pc := 6) g dX1_measure_6 ci_0 ?_
  refine r_puti (pc := 7) (μ := μ2) g dX1_measure_7 fp_RX1_23 shX_out sX_33 rfl ?_
  refine r_aload_n (pc := 10) 0 g dX1_measure_10 rfl ?_
  refine r_iconst (pc := 11) g dX1_measure_11 ci_0 ?_
  refine r_puti (pc := 12) (μ := mset μ2 33 1 0) g dX1_measure_12 fp_RX1_27 shX_out sX_33 rfl ?_
  refine r_aload_n (pc := 15) 0 g dX1_measure_15 rfl ?_
  refine r_iconst (pc := 16) g dX1_measure_16 ci_1 ?_
  refine r_putz (pc := 17) (μ := mset (mset μ2 33 1 0) 33 2 0) g dX1_measure_17 fp_RX1_30 shX_out sX_33 rfl (Or.inr rfl) ?_
  refine r_iconst (pc := 20) g dX1_measure_20 ci_0 ?_
  refine r_istore_n (pc := 21) (lv' := [(2, .int 0), (0, .ref (w.1 33)), (1, .ref (w.1 r1))]) g dX1_measure_21 rfl rfl ?_
  refine r_iconst (pc := 22) g dX1_measure_22 ci_0 ?_
  refine r_istore_n (pc := 23) (lv' := [(3, .int 0), (2, .int 0), (0, .ref (w.1 33)), (1, .ref (w.1 r1))]) g dX1_measure_23 rfl rfl ?_
  refine r_iconst (pc := 24) g dX1_measure_24 ci_0 ?_
  refine r_istore (pc := 25) (lv' := [(4, .int 0), (3, .int 0), (2, .int 0), (0, .ref (w.1 33)), (1, .ref (w.1 r1))]) g dX1_measure_25 rfl rfl ?_
  refine r_sub [3, 4, 2, 1, 0] (lv' := [(0, .ref (w.1 33)), (1, .ref (w.1 r1)), (2, .int 0), (3, .int 0), (4, .int 0)]) rfl ?_
  exact v_X1_measure_27 r1 g hX post hR 0 0 0 (mset (mset (mset μ2 33 1 0) 33 2 0) 33 3 1) h
abbrev rm_X1_beats : Room := { frames := 0, cells := 0, slots := 0, locals := 0 }
def B_X1_beats_47 (r3 : Nat) (r4 : Nat) (post : Int32 → Mem → Prop) (P47 : Int32 → Mem → Prop) (x5 : Int32) (μ : Mem) : Prop :=
  (((μ 13 4) ≤ x5 → post 0 μ) ∧ (¬ (μ 13 4) ≤ x5 → shX r3 = .inl 9 ∧ vp_in x5 9 ∧ shX r4 = .inl 9 ∧ vp_in x5 9 ∧ (((μ r3 x5.toNatClampNeg) = (μ r4 x5.toNatClampNeg) → P47 (x5 + 1) μ) ∧ (¬ (μ r3 x5.toNatClampNeg) = (μ r4 x5.toNatClampNeg) → vp_in x5 9 ∧ vp_in x5 9 ∧ (((μ r4 x5.toNatClampNeg) ≤ (μ r3 x5.toNatClampNeg) → post 0 μ) ∧ (¬ (μ r4 x5.toNatClampNeg) ≤ (μ r3 x5.toNatClampNeg) → post 1 μ))))))
def T_X1_beats_47 (r3 : Nat) (r4 : Nat) (post : Int32 → Mem → Prop) (x5 : Int32) (μ : Mem) : Prop :=
  ∀ P47 : Int32 → Mem → Prop, (∀ (x5 : Int32) (μ : Mem), B_X1_beats_47 r3 r4 post P47 x5 μ → P47 x5 μ) → P47 x5 μ
theorem bv_X1_beats_47 {X : Cx} {w : Wd} {l : Launch} {D : va_G} {A : Nat → Prop} (r3 : Nat) (r4 : Nat) (g : Gd X w RX1 cX1_beats 6 rm_X1_beats) (hX : atX X l D A) (post : Int32 → Mem → Prop) (hR : Rt X w shX 58 (some .boolean) (pI post)) (P47 : Int32 → Mem → Prop) (hP47 : ∀ (x5 : Int32) (μ : Mem), P47 x5 μ → V X 47 [(0, .ref (w.1 33)), (3, .ref (w.1 r3)), (4, .ref (w.1 r4)), (5, .int x5)] [] (wls w shX 58 μ)) (x5 : Int32) (μ : Mem) (h : B_X1_beats_47 r3 r4 post P47 x5 μ) : V X 47 [(0, .ref (w.1 33)), (3, .ref (w.1 r3)), (4, .ref (w.1 r4)), (5, .int x5)] [] (wls w shX 58 μ) := by
  refine r_iload (pc := 47) 3 g dX1_beats_47 rfl ?_
  refine r_aload_n (pc := 49) 0 g dX1_beats_49 rfl ?_
  refine r_getr (pc := 50) (μ := μ) g dX1_beats_50 fa_RX1_15 shX_out sX_33 rfl ?_
  refine r_geti (pc := 53) (μ := μ) g dX1_beats_53 fa_RX1_34 shX_out sX_13 rfl ?_
  refine r_icmp_ge (pc := 56) 95 g dX1_beats_56 rfl (fun q => ?_) (fun q => ?_)
  · have h := h.1 q
    refine r_iconst (pc := 95) g dX1_beats_95 ci_0 ?_
    exact r_zreti (pc := 96) g hR dX1_beats_96 (Or.inl rfl) h
  · have h := h.2 q
    refine r_aload_n (pc := 59) 1 g dX1_beats_59 rfl ?_
    refine r_iload (pc := 60) 3 g dX1_beats_60 rfl ?_
    obtain ⟨z1, h⟩ := h
    obtain ⟨b2, h⟩ := h
    refine r_iaload (pc := 62) (μ := μ) g dX1_beats_62 shX_out z1 b2 ?_
    refine r_aload (pc := 63) 2 g dX1_beats_63 rfl ?_
    refine r_iload (pc := 65) 3 g dX1_beats_65 rfl ?_
    obtain ⟨z3, h⟩ := h
    obtain ⟨b4, h⟩ := h
    refine r_iaload (pc := 67) (μ := μ) g dX1_beats_67 shX_out z3 b4 ?_
    refine r_icmp_eq (pc := 68) 89 g dX1_beats_68 rfl (fun q => ?_) (fun q => ?_)
    · have h := h.1 q
      refine r_iinc (pc := 89) (lv' := [(5, .int (x5 + 1)), (0, .ref (w.1 33)), (3, .ref (w.1 r3)), (4, .ref (w.1 r4))]) 3 g dX1_beats_89 rfl ci_1 rfl rfl ?_
      refine r_goto (pc := 92) 47 g dX1_beats_92 rfl ?_
      refine r_sub [1, 2, 3, 0] (lv' := [(0, .ref (w.1 33)), (3, .ref (w.1 r3)), (4, .ref (w.1 r4)), (5, .int (x5 + 1))]) rfl ?_
      exact hP47 (x5 + 1) μ h
    · have h := h.2 q
      refine r_aload_n (pc := 71) 1 g dX1_beats_71 rfl ?_
      refine r_iload (pc := 72) 3 g dX1_beats_72 rfl ?_
      obtain ⟨b5, h⟩ := h
      refine r_iaload (pc := 74) (μ := μ) g dX1_beats_74 shX_out z1 b5 ?_
      refine r_aload (pc := 75) 2 g dX1_beats_75 rfl ?_
      refine r_iload (pc := 77) 3 g dX1_beats_77 rfl ?_
      obtain ⟨b6, h⟩ := h
      refine r_iaload (pc := 79) (μ := μ) g dX1_beats_79 shX_out z3 b6 ?_
      refine r_icmp_ge (pc := 80) 87 g dX1_beats_80 rfl (fun q => ?_) (fun q => ?_)
      · have h := h.1 q
        refine r_iconst (pc := 87) g dX1_beats_87 ci_0 ?_
        exact r_zreti (pc := 88) g hR dX1_beats_88 (Or.inl rfl) h
      · have h := h.2 q
        refine r_iconst (pc := 83) g dX1_beats_83 ci_1 ?_
        refine r_goto (pc := 84) 88 g dX1_beats_84 rfl ?_
        exact r_zreti (pc := 88) g hR dX1_beats_88 (Or.inr rfl) h
theorem v_X1_beats_47 {X : Cx} {w : Wd} {l : Launch} {D : va_G} {A : Nat → Prop} (r3 : Nat) (r4 : Nat) (g : Gd X w RX1 cX1_beats 6 rm_X1_beats) (hX : atX X l D A) (post : Int32 → Mem → Prop) (hR : Rt X w shX 58 (some .boolean) (pI post)) (x5 : Int32) (μ : Mem) (h : T_X1_beats_47 r3 r4 post x5 μ) : V X 47 [(0, .ref (w.1 33)), (3, .ref (w.1 r3)), (4, .ref (w.1 r4)), (5, .int x5)] [] (wls w shX 58 μ) :=
  h (fun x5 μ => V X 47 [(0, .ref (w.1 33)), (3, .ref (w.1 r3)), (4, .ref (w.1 r4)), (5, .int x5)] [] (wls w shX 58 μ)) (fun x5 μ h => bv_X1_beats_47 r3 r4 g hX post hR (fun x5 μ => V X 47 [(0, .ref (w.1 33)), (3, .ref (w.1 r3)), (4, .ref (w.1 r4)), (5, .int x5)] [] (wls w shX 58 μ)) (fun _ _ h => h) x5 μ h)
def T_X1_beats (r3 : Nat) (r4 : Nat) (x1 : Int32) (x2 : Int32) (μ : Mem) (post : Int32 → Mem → Prop) : Prop :=
  (((μ 33 1) = x1 → (((μ 33 2) = x2 → T_X1_beats_47 r3 r4 post 0 μ) ∧ (¬ (μ 33 2) = x2 → ((x2 ≤ (μ 33 2) → post 0 μ) ∧ (¬ x2 ≤ (μ 33 2) → post 1 μ))))) ∧ (¬ (μ 33 1) = x1 → ((x1 ≤ (μ 33 1) → post 0 μ) ∧ (¬ x1 ≤ (μ 33 1) → post 1 μ))))
theorem m_X1_beats {w : Wd} {l : Launch} {D : va_G} {A : Nat → Prop} (r3 : Nat) (r4 : Nat) (x1 : Int32) (x2 : Int32) (μ : Mem) (post : Int32 → Mem → Prop) (h : T_X1_beats r3 r4 x1 x2 μ post) : MetX l D A w shX 58 yX1_beats cX1_beats 6 (some .boolean) rm_X1_beats [.ref (w.1 33), .int x1, .int x2, .ref (w.1 r3), .ref (w.1 r4)] μ (pI post) := by
  refine metX_of (by decide) rfl (lv := [(0, .ref (w.1 33)), (1, .int x1), (2, .int x2), (3, .ref (w.1 r3)), (4, .ref (w.1 r4))]) rfl (fun X hX g hR => ?_)
  refine r_aload_n (pc := 0) 0 g dX1_beats_0 rfl ?_
  refine r_geti (pc := 1) (μ := μ) g dX1_beats_1 fa_RX1_23 shX_out sX_33 rfl ?_
  refine r_iload_n (pc := 4) 1 g dX1_beats_4 rfl ?_
  refine r_icmp_eq (pc := 5) 22 g dX1_beats_5 rfl (fun q => ?_) (fun q => ?_)
  · have h := h.1 q
    refine r_aload_n (pc := 22) 0 g dX1_beats_22 rfl ?_
    refine r_geti (pc := 23) (μ := μ) g dX1_beats_23 fa_RX1_27 shX_out sX_33 rfl ?_
    refine r_iload_n (pc := 26) 2 g dX1_beats_26 rfl ?_
    refine r_icmp_eq (pc := 27) 44 g dX1_beats_27 rfl (fun q => ?_) (fun q => ?_)
    · have h := h.1 q
      refine r_iconst (pc := 44) g dX1_beats_44 ci_0 ?_
      refine r_istore (pc := 45) (lv' := [(5, .int 0), (0, .ref (w.1 33)), (1, .int x1), (2, .int x2), (3, .ref (w.1 r3)), (4, .ref (w.1 r4))]) g dX1_beats_45 rfl rfl ?_
      refine r_sub [1, 4, 5, 0] (lv' := [(0, .ref (w.1 33)), (3, .ref (w.1 r3)), (4, .ref (w.1 r4)), (5, .int 0)]) rfl ?_
      exact v_X1_beats_47 r3 r4 g hX post hR 0 μ h
    · have h := h.2 q
      refine r_aload_n (pc := 30) 0 g dX1_beats_30 rfl ?_
      refine r_geti (pc := 31) (μ := μ) g dX1_beats_31 fa_RX1_27 shX_out sX_33 rfl ?_
      refine r_iload_n (pc := 34) 2 g dX1_beats_34 rfl ?_
      refine r_icmp_ge (pc := 35) 42 g dX1_beats_35 rfl (fun q => ?_) (fun q => ?_)
      · have h := h.1 q
        refine r_iconst (pc := 42) g dX1_beats_42 ci_0 ?_
        exact r_zreti (pc := 43) g hR dX1_beats_43 (Or.inl rfl) h
      · have h := h.2 q
        refine r_iconst (pc := 38) g dX1_beats_38 ci_1 ?_
        refine r_goto (pc := 39) 43 g dX1_beats_39 rfl ?_
        exact r_zreti (pc := 43) g hR dX1_beats_43 (Or.inr rfl) h
  · have h := h.2 q
    refine r_aload_n (pc := 8) 0 g dX1_beats_8 rfl ?_
    refine r_geti (pc := 9) (μ := μ) g dX1_beats_9 fa_RX1_23 shX_out sX_33 rfl ?_
    refine r_iload_n (pc := 12) 1 g dX1_beats_12 rfl ?_
    refine r_icmp_ge (pc := 13) 20 g dX1_beats_13 rfl (fun q => ?_) (fun q => ?_)
    · have h := h.1 q
      refine r_iconst (pc := 20) g dX1_beats_20 ci_0 ?_
      exact r_zreti (pc := 21) g hR dX1_beats_21 (Or.inl rfl) h
    · have h := h.2 q
      refine r_iconst (pc := 16) g dX1_beats_16 ci_1 ?_
      refine r_goto (pc := 17) 21 g dX1_beats_17 rfl ?_
      exact r_zreti (pc := 21) g hR dX1_beats_21 (Or.inr rfl) h
abbrev rm_X2_isGood : Room := { frames := 2, cells := 0, slots := 0, locals := 49 }
def T_X2_isGood_59 (post : Int32 → Mem → Prop) (x1 : Int32) (x2 : Int32) (μ : Mem) : Prop :=
  vp_in x1 9 ∧ vp_in x2 9 ∧ T_X1_measure 52 (mset μ 52 x2.toNatClampNeg (μ 51 x1.toNatClampNeg)) (fun (μ4 : Mem) => (((μ4 33 3) = 0 → post 0 μ4) ∧ (¬ (μ4 33 3) = 0 → T_X1_beats 52 51 (μ4 50 4) (μ4 50 5) μ4 (fun (u5 : Int32) (μ6 : Mem) => ((u5 = 0 → post 0 μ6) ∧ (¬ u5 = 0 → post 1 μ6))))))
theorem v_X2_isGood_59 {X : Cx} {w : Wd} {l : Launch} {D : va_G} {A : Nat → Prop} (g : Gd X w RX2 cX2_isGood 3 rm_X2_isGood) (hX : atX X l D A) (post : Int32 → Mem → Prop) (hR : Rt X w shX 58 (some .boolean) (pI post)) (x1 : Int32) (x2 : Int32) (μ : Mem) (h : T_X2_isGood_59 post x1 x2 μ) : V X 59 [(0, .ref (w.1 50)), (1, .int x1), (2, .int x2)] [] (wls w shX 58 μ) := by
  refine r_aload_n (pc := 59) 0 g dX2_isGood_59 rfl ?_
  refine r_getr (pc := 60) (μ := μ) g dX2_isGood_60 fa_RX2_15 shX_out sX_50 rfl ?_
  refine r_iload_n (pc := 63) 2 g dX2_isGood_63 rfl ?_
  refine r_aload_n (pc := 64) 0 g dX2_isGood_64 rfl ?_
  refine r_getr (pc := 65) (μ := μ) g dX2_isGood_65 fa_RX2_9 shX_out sX_50 rfl ?_
  refine r_iload_n (pc := 68) 1 g dX2_isGood_68 rfl ?_
  obtain ⟨b1, h⟩ := h
  refine r_iaload (pc := 69) (μ := μ) g dX2_isGood_69 shX_out sX_51 b1 ?_
  obtain ⟨b2, h⟩ := h
  refine r_iastore (pc := 70) (μ := μ) g dX2_isGood_70 shX_out sX_52 b2 ?_
  refine r_aload_n (pc := 71) 0 g dX2_isGood_71 rfl ?_
  refine r_getr (pc := 72) (μ := mset μ 52 x2.toNatClampNeg (μ 51 x1.toNatClampNeg)) g dX2_isGood_72 fa_RX2_22 shX_out sX_50 rfl ?_
  refine r_aload_n (pc := 75) 0 g dX2_isGood_75 rfl ?_
  refine r_getr (pc := 76) (μ := mset μ 52 x2.toNatClampNeg (μ 51 x1.toNatClampNeg)) g dX2_isGood_76 fa_RX2_15 shX_out sX_50 rfl ?_
  refine r_callVv (pc := 79) (st := []) g hX dX2_isGood_79 (m_X1_measure 52 (mset μ 52 x2.toNatClampNeg (μ 51 x1.toNatClampNeg)) _ h) kb_RX2_32 kv_X1_measure shX_out sX_33 rfl rfl rfl rfl (fun μ4 h => ?_)
  refine r_aload_n (pc := 82) 0 g dX2_isGood_82 rfl ?_
  refine r_getr (pc := 83) (μ := μ4) g dX2_isGood_83 fa_RX2_22 shX_out sX_50 rfl ?_
  refine r_geti (pc := 86) (μ := μ4) g dX2_isGood_86 fa_RX2_61 shX_out sX_33 rfl ?_
  refine r_if_eq (pc := 89) 122 g dX2_isGood_89 rfl (fun q => ?_) (fun q => ?_)
  · have h := h.1 q
    refine r_iconst (pc := 122) g dX2_isGood_122 ci_0 ?_
    exact r_zreti (pc := 123) g hR dX2_isGood_123 (Or.inl rfl) h
  · have h := h.2 q
    refine r_aload_n (pc := 92) 0 g dX2_isGood_92 rfl ?_
    refine r_getr (pc := 93) (μ := μ4) g dX2_isGood_93 fa_RX2_22 shX_out sX_50 rfl ?_
    refine r_aload_n (pc := 96) 0 g dX2_isGood_96 rfl ?_
    refine r_geti (pc := 97) (μ := μ4) g dX2_isGood_97 fa_RX2_42 shX_out sX_50 rfl ?_
    refine r_aload_n (pc := 100) 0 g dX2_isGood_100 rfl ?_
    refine r_geti (pc := 101) (μ := μ4) g dX2_isGood_101 fa_RX2_46 shX_out sX_50 rfl ?_
    refine r_aload_n (pc := 104) 0 g dX2_isGood_104 rfl ?_
    refine r_getr (pc := 105) (μ := μ4) g dX2_isGood_105 fa_RX2_15 shX_out sX_50 rfl ?_
    refine r_aload_n (pc := 108) 0 g dX2_isGood_108 rfl ?_
    refine r_getr (pc := 109) (μ := μ4) g dX2_isGood_109 fa_RX2_9 shX_out sX_50 rfl ?_
    refine r_callVi (pc := 112) (st := []) g hX dX2_isGood_112 (m_X1_beats 52 51 (μ4 50 4) (μ4 50 5) μ4 _ h) kb_RX2_65 kv_X1_beats shX_out sX_33 rfl rfl rfl rfl (fun u5 μ6 h => ?_)
    refine r_if_eq (pc := 115) 122 g dX2_isGood_115 rfl (fun q => ?_) (fun q => ?_)
    · have h := h.1 q
      refine r_iconst (pc := 122) g dX2_isGood_122 ci_0 ?_
      exact r_zreti (pc := 123) g hR dX2_isGood_123 (Or.inl rfl) h
    · have h := h.2 q
      refine r_iconst (pc := 118) g dX2_isGood_118 ci_1 ?_
      refine r_goto (pc := 119) 123 g dX2_isGood_119 rfl ?_
      exact r_zreti (pc := 123) g hR dX2_isGood_123 (Or.inr rfl) h
def T_X2_isGood (x1 : Int32) (x2 : Int32) (μ : Mem) (post : Int32 → Mem → Prop) : Prop :=
  (¬ (0 : Int32) < 0 ∧ ¬ (0 : Int32) < 0 ∧ ¬ (9 : Int32) < 0 ∧ (0 : Int32).toNatClampNeg + (9 : Int32).toNatClampNeg ≤ 9 ∧ (0 : Int32).toNatClampNeg + (9 : Int32).toNatClampNeg ≤ 9) ∧ ((x2 ≤ x1 → (¬ x2 < 0 ∧ ¬ (x2 + 1) < 0 ∧ ¬ (x1 - x2) < 0 ∧ x2.toNatClampNeg + (x1 - x2).toNatClampNeg ≤ 9 ∧ (x2 + 1).toNatClampNeg + (x1 - x2).toNatClampNeg ≤ 9) ∧ T_X2_isGood_59 post x1 x2 (mput (mput μ 52 (va_cpy (μ 51) (μ 52) (0 : Int32).toNatClampNeg (0 : Int32).toNatClampNeg (9 : Int32).toNatClampNeg)) 52 (va_cpy ((mput μ 52 (va_cpy (μ 51) (μ 52) (0 : Int32).toNatClampNeg (0 : Int32).toNatClampNeg (9 : Int32).toNatClampNeg)) 51) ((mput μ 52 (va_cpy (μ 51) (μ 52) (0 : Int32).toNatClampNeg (0 : Int32).toNatClampNeg (9 : Int32).toNatClampNeg)) 52) x2.toNatClampNeg (x2 + 1).toNatClampNeg (x1 - x2).toNatClampNeg))) ∧ (¬ x2 ≤ x1 → (¬ (x1 + 1) < 0 ∧ ¬ x1 < 0 ∧ ¬ (x2 - x1) < 0 ∧ (x1 + 1).toNatClampNeg + (x2 - x1).toNatClampNeg ≤ 9 ∧ x1.toNatClampNeg + (x2 - x1).toNatClampNeg ≤ 9) ∧ T_X2_isGood_59 post x1 x2 (mput (mput μ 52 (va_cpy (μ 51) (μ 52) (0 : Int32).toNatClampNeg (0 : Int32).toNatClampNeg (9 : Int32).toNatClampNeg)) 52 (va_cpy ((mput μ 52 (va_cpy (μ 51) (μ 52) (0 : Int32).toNatClampNeg (0 : Int32).toNatClampNeg (9 : Int32).toNatClampNeg)) 51) ((mput μ 52 (va_cpy (μ 51) (μ 52) (0 : Int32).toNatClampNeg (0 : Int32).toNatClampNeg (9 : Int32).toNatClampNeg)) 52) (x1 + 1).toNatClampNeg x1.toNatClampNeg (x2 - x1).toNatClampNeg))))
theorem m_X2_isGood {w : Wd} {l : Launch} {D : va_G} {A : Nat → Prop} (x1 : Int32) (x2 : Int32) (μ : Mem) (post : Int32 → Mem → Prop) (h : T_X2_isGood x1 x2 μ post) : MetX l D A w shX 58 yX2_isGood cX2_isGood 3 (some .boolean) rm_X2_isGood [.ref (w.1 50), .int x1, .int x2] μ (pI post) := by
  refine metX_of (by decide) rfl (lv := [(0, .ref (w.1 50)), (1, .int x1), (2, .int x2)]) rfl (fun X hX g hR => ?_)
  refine r_aload_n (pc := 0) 0 g dX2_isGood_0 rfl ?_
  refine r_getr (pc := 1) (μ := μ) g dX2_isGood_1 fa_RX2_9 shX_out sX_50 rfl ?_
  refine r_iconst (pc := 4) g dX2_isGood_4 ci_0 ?_
  refine r_aload_n (pc := 5) 0 g dX2_isGood_5 rfl ?_
  refine r_getr (pc := 6) (μ := μ) g dX2_isGood_6 fa_RX2_15 shX_out sX_50 rfl ?_
  refine r_iconst (pc := 9) g dX2_isGood_9 ci_0 ?_
  refine r_bipush (pc := 10) g dX2_isGood_10 cb_9 ?_
  obtain ⟨b1, h⟩ := h
  refine r_copy (pc := 12) (μ := μ) g dX2_isGood_12 kc_RX2_26 shX_out sX_51 sX_52 ⟨rfl, rfl⟩ b1 ?_
  refine r_iload_n (pc := 15) 1 g dX2_isGood_15 rfl ?_
  refine r_iload_n (pc := 16) 2 g dX2_isGood_16 rfl ?_
  refine r_icmp_ge (pc := 17) 41 g dX2_isGood_17 rfl (fun q => ?_) (fun q => ?_)
  · have h := h.1 q
    refine r_aload_n (pc := 41) 0 g dX2_isGood_41 rfl ?_
    refine r_getr (pc := 42) (μ := mput μ 52 (va_cpy (μ 51) (μ 52) (0 : Int32).toNatClampNeg (0 : Int32).toNatClampNeg (9 : Int32).toNatClampNeg)) g dX2_isGood_42 fa_RX2_9 shX_out sX_50 rfl ?_
    refine r_iload_n (pc := 45) 2 g dX2_isGood_45 rfl ?_
    refine r_aload_n (pc := 46) 0 g dX2_isGood_46 rfl ?_
    refine r_getr (pc := 47) (μ := mput μ 52 (va_cpy (μ 51) (μ 52) (0 : Int32).toNatClampNeg (0 : Int32).toNatClampNeg (9 : Int32).toNatClampNeg)) g dX2_isGood_47 fa_RX2_15 shX_out sX_50 rfl ?_
    refine r_iload_n (pc := 50) 2 g dX2_isGood_50 rfl ?_
    refine r_iconst (pc := 51) g dX2_isGood_51 ci_1 ?_
    refine r_iadd (pc := 52) g dX2_isGood_52 ?_
    refine r_iload_n (pc := 53) 1 g dX2_isGood_53 rfl ?_
    refine r_iload_n (pc := 54) 2 g dX2_isGood_54 rfl ?_
    refine r_isub (pc := 55) g dX2_isGood_55 ?_
    obtain ⟨b2, h⟩ := h
    refine r_copy (pc := 56) (μ := mput μ 52 (va_cpy (μ 51) (μ 52) (0 : Int32).toNatClampNeg (0 : Int32).toNatClampNeg (9 : Int32).toNatClampNeg)) g dX2_isGood_56 kc_RX2_26 shX_out sX_51 sX_52 ⟨rfl, rfl⟩ b2 ?_
    refine r_sub [0, 1, 2] (lv' := [(0, .ref (w.1 50)), (1, .int x1), (2, .int x2)]) rfl ?_
    exact v_X2_isGood_59 g hX post hR x1 x2 (mput (mput μ 52 (va_cpy (μ 51) (μ 52) (0 : Int32).toNatClampNeg (0 : Int32).toNatClampNeg (9 : Int32).toNatClampNeg)) 52 (va_cpy ((mput μ 52 (va_cpy (μ 51) (μ 52) (0 : Int32).toNatClampNeg (0 : Int32).toNatClampNeg (9 : Int32).toNatClampNeg)) 51) ((mput μ 52 (va_cpy (μ 51) (μ 52) (0 : Int32).toNatClampNeg (0 : Int32).toNatClampNeg (9 : Int32).toNatClampNeg)) 52) x2.toNatClampNeg (x2 + 1).toNatClampNeg (x1 - x2).toNatClampNeg)) h
  · have h := h.2 q
    refine r_aload_n (pc := 20) 0 g dX2_isGood_20 rfl ?_
    refine r_getr (pc := 21) (μ := mput μ 52 (va_cpy (μ 51) (μ 52) (0 : Int32).toNatClampNeg (0 : Int32).toNatClampNeg (9 : Int32).toNatClampNeg)) g dX2_isGood_21 fa_RX2_9 shX_out sX_50 rfl ?_
    refine r_iload_n (pc := 24) 1 g dX2_isGood_24 rfl ?_
    refine r_iconst (pc := 25) g dX2_isGood_25 ci_1 ?_
    refine r_iadd (pc := 26) g dX2_isGood_26 ?_
    refine r_aload_n (pc := 27) 0 g dX2_isGood_27 rfl ?_
    refine r_getr (pc := 28) (μ := mput μ 52 (va_cpy (μ 51) (μ 52) (0 : Int32).toNatClampNeg (0 : Int32).toNatClampNeg (9 : Int32).toNatClampNeg)) g dX2_isGood_28 fa_RX2_15 shX_out sX_50 rfl ?_
    refine r_iload_n (pc := 31) 1 g dX2_isGood_31 rfl ?_
    refine r_iload_n (pc := 32) 2 g dX2_isGood_32 rfl ?_
    refine r_iload_n (pc := 33) 1 g dX2_isGood_33 rfl ?_
    refine r_isub (pc := 34) g dX2_isGood_34 ?_
    obtain ⟨b3, h⟩ := h
    refine r_copy (pc := 35) (μ := mput μ 52 (va_cpy (μ 51) (μ 52) (0 : Int32).toNatClampNeg (0 : Int32).toNatClampNeg (9 : Int32).toNatClampNeg)) g dX2_isGood_35 kc_RX2_26 shX_out sX_51 sX_52 ⟨rfl, rfl⟩ b3 ?_
    refine r_goto (pc := 38) 59 g dX2_isGood_38 rfl ?_
    refine r_sub [0, 1, 2] (lv' := [(0, .ref (w.1 50)), (1, .int x1), (2, .int x2)]) rfl ?_
    exact v_X2_isGood_59 g hX post hR x1 x2 (mput (mput μ 52 (va_cpy (μ 51) (μ 52) (0 : Int32).toNatClampNeg (0 : Int32).toNatClampNeg (9 : Int32).toNatClampNeg)) 52 (va_cpy ((mput μ 52 (va_cpy (μ 51) (μ 52) (0 : Int32).toNatClampNeg (0 : Int32).toNatClampNeg (9 : Int32).toNatClampNeg)) 51) ((mput μ 52 (va_cpy (μ 51) (μ 52) (0 : Int32).toNatClampNeg (0 : Int32).toNatClampNeg (9 : Int32).toNatClampNeg)) 52) (x1 + 1).toNatClampNeg x1.toNatClampNeg (x2 - x1).toNatClampNeg)) h
abbrev rm_X2_doFirstMove : Room := { frames := 3, cells := 0, slots := 0, locals := 71 }
def B_X2_doFirstMove_15 (post : Int32 → Mem → Prop) (P2 : Int32 → Mem → Prop) (P15 : Int32 → Int32 → Mem → Prop) (x1 : Int32) (x2 : Int32) (μ : Mem) : Prop :=
  (((μ 13 4) ≤ x2 → P2 (x1 + 1) μ) ∧ (¬ (μ 13 4) ≤ x2 → ((x1 = x2 → P15 x1 (x2 + 1) μ) ∧ (¬ x1 = x2 → T_X2_isGood x1 x2 μ (fun (u1 : Int32) (μ2 : Mem) => ((u1 = 0 → P15 x1 (x2 + 1) μ2) ∧ (¬ u1 = 0 → (¬ (0 : Int32) < 0 ∧ ¬ (0 : Int32) < 0 ∧ ¬ (9 : Int32) < 0 ∧ (0 : Int32).toNatClampNeg + (9 : Int32).toNatClampNeg ≤ 9 ∧ (0 : Int32).toNatClampNeg + (9 : Int32).toNatClampNeg ≤ 9) ∧ post 1 (mset (mset (mput μ2 51 (va_cpy (μ2 52) (μ2 51) (0 : Int32).toNatClampNeg (0 : Int32).toNatClampNeg (9 : Int32).toNatClampNeg)) 50 4 ((mput μ2 51 (va_cpy (μ2 52) (μ2 51) (0 : Int32).toNatClampNeg (0 : Int32).toNatClampNeg (9 : Int32).toNatClampNeg)) 33 1)) 50 5 ((mset (mput μ2 51 (va_cpy (μ2 52) (μ2 51) (0 : Int32).toNatClampNeg (0 : Int32).toNatClampNeg (9 : Int32).toNatClampNeg)) 50 4 ((mput μ2 51 (va_cpy (μ2 52) (μ2 51) (0 : Int32).toNatClampNeg (0 : Int32).toNatClampNeg (9 : Int32).toNatClampNeg)) 33 1)) 33 2)))))))))
def T_X2_doFirstMove_15 (post : Int32 → Mem → Prop) (P2 : Int32 → Mem → Prop) (x1 : Int32) (x2 : Int32) (μ : Mem) : Prop :=
  ∀ P15 : Int32 → Int32 → Mem → Prop, (∀ (x1 : Int32) (x2 : Int32) (μ : Mem), B_X2_doFirstMove_15 post P2 P15 x1 x2 μ → P15 x1 x2 μ) → P15 x1 x2 μ
theorem bv_X2_doFirstMove_15 {X : Cx} {w : Wd} {l : Launch} {D : va_G} {A : Nat → Prop} (g : Gd X w RX2 cX2_doFirstMove 3 rm_X2_doFirstMove) (hX : atX X l D A) (post : Int32 → Mem → Prop) (hR : Rt X w shX 58 (some .boolean) (pI post)) (P2 : Int32 → Mem → Prop) (hP2 : ∀ (x1 : Int32) (μ : Mem), P2 x1 μ → V X 2 [(0, .ref (w.1 50)), (1, .int x1)] [] (wls w shX 58 μ)) (P15 : Int32 → Int32 → Mem → Prop) (hP15 : ∀ (x1 : Int32) (x2 : Int32) (μ : Mem), P15 x1 x2 μ → V X 15 [(0, .ref (w.1 50)), (1, .int x1), (2, .int x2)] [] (wls w shX 58 μ)) (x1 : Int32) (x2 : Int32) (μ : Mem) (h : B_X2_doFirstMove_15 post P2 P15 x1 x2 μ) : V X 15 [(0, .ref (w.1 50)), (1, .int x1), (2, .int x2)] [] (wls w shX 58 μ) := by
  refine r_iload_n (pc := 15) 2 g dX2_doFirstMove_15 rfl ?_
  refine r_aload_n (pc := 16) 0 g dX2_doFirstMove_16 rfl ?_
  refine r_getr (pc := 17) (μ := μ) g dX2_doFirstMove_17 fa_RX2_18 shX_out sX_50 rfl ?_
  refine r_geti (pc := 20) (μ := μ) g dX2_doFirstMove_20 fa_RX2_52 shX_out sX_13 rfl ?_
  refine r_icmp_ge (pc := 23) 85 g dX2_doFirstMove_23 rfl (fun q => ?_) (fun q => ?_)
  · have h := h.1 q
    refine r_iinc (pc := 85) (lv' := [(1, .int (x1 + 1)), (0, .ref (w.1 50)), (2, .int x2)]) 1 g dX2_doFirstMove_85 rfl ci_1 rfl rfl ?_
    refine r_goto (pc := 88) 2 g dX2_doFirstMove_88 rfl ?_
    refine r_sub [1, 0] (lv' := [(0, .ref (w.1 50)), (1, .int (x1 + 1))]) rfl ?_
    exact hP2 (x1 + 1) μ h
  · have h := h.2 q
    refine r_iload_n (pc := 26) 1 g dX2_doFirstMove_26 rfl ?_
    refine r_iload_n (pc := 27) 2 g dX2_doFirstMove_27 rfl ?_
    refine r_icmp_eq (pc := 28) 79 g dX2_doFirstMove_28 rfl (fun q => ?_) (fun q => ?_)
    · have h := h.1 q
      refine r_iinc (pc := 79) (lv' := [(2, .int (x2 + 1)), (0, .ref (w.1 50)), (1, .int x1)]) 2 g dX2_doFirstMove_79 rfl ci_1 rfl rfl ?_
      refine r_goto (pc := 82) 15 g dX2_doFirstMove_82 rfl ?_
      refine r_sub [1, 2, 0] (lv' := [(0, .ref (w.1 50)), (1, .int x1), (2, .int (x2 + 1))]) rfl ?_
      exact hP15 x1 (x2 + 1) μ h
    · have h := h.2 q
      refine r_aload_n (pc := 31) 0 g dX2_doFirstMove_31 rfl ?_
      refine r_iload_n (pc := 32) 1 g dX2_doFirstMove_32 rfl ?_
      refine r_iload_n (pc := 33) 2 g dX2_doFirstMove_33 rfl ?_
      refine r_callVi (pc := 34) (st := []) g hX dX2_doFirstMove_34 (m_X2_isGood x1 x2 μ _ h) kb_RX2_57 kv_X2_isGood shX_out sX_50 rfl rfl rfl rfl (fun u1 μ2 h => ?_)
      refine r_if_eq (pc := 37) 79 g dX2_doFirstMove_37 rfl (fun q => ?_) (fun q => ?_)
      · have h := h.1 q
        refine r_iinc (pc := 79) (lv' := [(2, .int (x2 + 1)), (0, .ref (w.1 50)), (1, .int x1)]) 2 g dX2_doFirstMove_79 rfl ci_1 rfl rfl ?_
        refine r_goto (pc := 82) 15 g dX2_doFirstMove_82 rfl ?_
        refine r_sub [1, 2, 0] (lv' := [(0, .ref (w.1 50)), (1, .int x1), (2, .int (x2 + 1))]) rfl ?_
        exact hP15 x1 (x2 + 1) μ2 h
      · have h := h.2 q
        refine r_aload_n (pc := 40) 0 g dX2_doFirstMove_40 rfl ?_
        refine r_getr (pc := 41) (μ := μ2) g dX2_doFirstMove_41 fa_RX2_15 shX_out sX_50 rfl ?_
        refine r_iconst (pc := 44) g dX2_doFirstMove_44 ci_0 ?_
        refine r_aload_n (pc := 45) 0 g dX2_doFirstMove_45 rfl ?_
        refine r_getr (pc := 46) (μ := μ2) g dX2_doFirstMove_46 fa_RX2_9 shX_out sX_50 rfl ?_
        refine r_iconst (pc := 49) g dX2_doFirstMove_49 ci_0 ?_
        refine r_bipush (pc := 50) g dX2_doFirstMove_50 cb_9 ?_
        obtain ⟨b3, h⟩ := h
        refine r_copy (pc := 52) (μ := μ2) g dX2_doFirstMove_52 kc_RX2_26 shX_out sX_52 sX_51 ⟨rfl, rfl⟩ b3 ?_
        refine r_aload_n (pc := 55) 0 g dX2_doFirstMove_55 rfl ?_
        refine r_aload_n (pc := 56) 0 g dX2_doFirstMove_56 rfl ?_
        refine r_getr (pc := 57) (μ := mput μ2 51 (va_cpy (μ2 52) (μ2 51) (0 : Int32).toNatClampNeg (0 : Int32).toNatClampNeg (9 : Int32).toNatClampNeg)) g dX2_doFirstMove_57 fa_RX2_22 shX_out sX_50 rfl ?_
        refine r_geti (pc := 60) (μ := mput μ2 51 (va_cpy (μ2 52) (μ2 51) (0 : Int32).toNatClampNeg (0 : Int32).toNatClampNeg (9 : Int32).toNatClampNeg)) g dX2_doFirstMove_60 fa_RX2_38 shX_out sX_33 rfl ?_
        refine r_puti (pc := 63) (μ := mput μ2 51 (va_cpy (μ2 52) (μ2 51) (0 : Int32).toNatClampNeg (0 : Int32).toNatClampNeg (9 : Int32).toNatClampNeg)) g dX2_doFirstMove_63 fp_RX2_42 shX_out sX_50 rfl ?_
        refine r_aload_n (pc := 66) 0 g dX2_doFirstMove_66 rfl ?_
        refine r_aload_n (pc := 67) 0 g dX2_doFirstMove_67 rfl ?_
        refine r_getr (pc := 68) (μ := mset (mput μ2 51 (va_cpy (μ2 52) (μ2 51) (0 : Int32).toNatClampNeg (0 : Int32).toNatClampNeg (9 : Int32).toNatClampNeg)) 50 4 ((mput μ2 51 (va_cpy (μ2 52) (μ2 51) (0 : Int32).toNatClampNeg (0 : Int32).toNatClampNeg (9 : Int32).toNatClampNeg)) 33 1)) g dX2_doFirstMove_68 fa_RX2_22 shX_out sX_50 rfl ?_
        refine r_geti (pc := 71) (μ := mset (mput μ2 51 (va_cpy (μ2 52) (μ2 51) (0 : Int32).toNatClampNeg (0 : Int32).toNatClampNeg (9 : Int32).toNatClampNeg)) 50 4 ((mput μ2 51 (va_cpy (μ2 52) (μ2 51) (0 : Int32).toNatClampNeg (0 : Int32).toNatClampNeg (9 : Int32).toNatClampNeg)) 33 1)) g dX2_doFirstMove_71 fa_RX2_43 shX_out sX_33 rfl ?_
        refine r_puti (pc := 74) (μ := mset (mput μ2 51 (va_cpy (μ2 52) (μ2 51) (0 : Int32).toNatClampNeg (0 : Int32).toNatClampNeg (9 : Int32).toNatClampNeg)) 50 4 ((mput μ2 51 (va_cpy (μ2 52) (μ2 51) (0 : Int32).toNatClampNeg (0 : Int32).toNatClampNeg (9 : Int32).toNatClampNeg)) 33 1)) g dX2_doFirstMove_74 fp_RX2_46 shX_out sX_50 rfl ?_
        refine r_iconst (pc := 77) g dX2_doFirstMove_77 ci_1 ?_
        exact r_zreti (pc := 78) g hR dX2_doFirstMove_78 (Or.inr rfl) h
theorem v_X2_doFirstMove_15 {X : Cx} {w : Wd} {l : Launch} {D : va_G} {A : Nat → Prop} (g : Gd X w RX2 cX2_doFirstMove 3 rm_X2_doFirstMove) (hX : atX X l D A) (post : Int32 → Mem → Prop) (hR : Rt X w shX 58 (some .boolean) (pI post)) (P2 : Int32 → Mem → Prop) (hP2 : ∀ (x1 : Int32) (μ : Mem), P2 x1 μ → V X 2 [(0, .ref (w.1 50)), (1, .int x1)] [] (wls w shX 58 μ)) (x1 : Int32) (x2 : Int32) (μ : Mem) (h : T_X2_doFirstMove_15 post P2 x1 x2 μ) : V X 15 [(0, .ref (w.1 50)), (1, .int x1), (2, .int x2)] [] (wls w shX 58 μ) :=
  h (fun x1 x2 μ => V X 15 [(0, .ref (w.1 50)), (1, .int x1), (2, .int x2)] [] (wls w shX 58 μ)) (fun x1 x2 μ h => bv_X2_doFirstMove_15 g hX post hR P2 hP2 (fun x1 x2 μ => V X 15 [(0, .ref (w.1 50)), (1, .int x1), (2, .int x2)] [] (wls w shX 58 μ)) (fun _ _ _ h => h) x1 x2 μ h)
def B_X2_doFirstMove_2 (post : Int32 → Mem → Prop) (P2 : Int32 → Mem → Prop) (x1 : Int32) (μ : Mem) : Prop :=
  (((μ 13 4) ≤ x1 → post 0 μ) ∧ (¬ (μ 13 4) ≤ x1 → T_X2_doFirstMove_15 post P2 x1 0 μ))
def T_X2_doFirstMove_2 (post : Int32 → Mem → Prop) (x1 : Int32) (μ : Mem) : Prop :=
  ∀ P2 : Int32 → Mem → Prop, (∀ (x1 : Int32) (μ : Mem), B_X2_doFirstMove_2 post P2 x1 μ → P2 x1 μ) → P2 x1 μ
theorem bv_X2_doFirstMove_2 {X : Cx} {w : Wd} {l : Launch} {D : va_G} {A : Nat → Prop} (g : Gd X w RX2 cX2_doFirstMove 3 rm_X2_doFirstMove) (hX : atX X l D A) (post : Int32 → Mem → Prop) (hR : Rt X w shX 58 (some .boolean) (pI post)) (P2 : Int32 → Mem → Prop) (hP2 : ∀ (x1 : Int32) (μ : Mem), P2 x1 μ → V X 2 [(0, .ref (w.1 50)), (1, .int x1)] [] (wls w shX 58 μ)) (x1 : Int32) (μ : Mem) (h : B_X2_doFirstMove_2 post P2 x1 μ) : V X 2 [(0, .ref (w.1 50)), (1, .int x1)] [] (wls w shX 58 μ) := by
  refine r_iload_n (pc := 2) 1 g dX2_doFirstMove_2 rfl ?_
  refine r_aload_n (pc := 3) 0 g dX2_doFirstMove_3 rfl ?_
  refine r_getr (pc := 4) (μ := μ) g dX2_doFirstMove_4 fa_RX2_18 shX_out sX_50 rfl ?_
  refine r_geti (pc := 7) (μ := μ) g dX2_doFirstMove_7 fa_RX2_52 shX_out sX_13 rfl ?_
  refine r_icmp_ge (pc := 10) 91 g dX2_doFirstMove_10 rfl (fun q => ?_) (fun q => ?_)
  · have h := h.1 q
    refine r_iconst (pc := 91) g dX2_doFirstMove_91 ci_0 ?_
    exact r_zreti (pc := 92) g hR dX2_doFirstMove_92 (Or.inl rfl) h
  · have h := h.2 q
    refine r_iconst (pc := 13) g dX2_doFirstMove_13 ci_0 ?_
    refine r_istore_n (pc := 14) (lv' := [(2, .int 0), (0, .ref (w.1 50)), (1, .int x1)]) g dX2_doFirstMove_14 rfl rfl ?_
    refine r_sub [1, 2, 0] (lv' := [(0, .ref (w.1 50)), (1, .int x1), (2, .int 0)]) rfl ?_
    exact v_X2_doFirstMove_15 g hX post hR P2 hP2 x1 0 μ h
theorem v_X2_doFirstMove_2 {X : Cx} {w : Wd} {l : Launch} {D : va_G} {A : Nat → Prop} (g : Gd X w RX2 cX2_doFirstMove 3 rm_X2_doFirstMove) (hX : atX X l D A) (post : Int32 → Mem → Prop) (hR : Rt X w shX 58 (some .boolean) (pI post)) (x1 : Int32) (μ : Mem) (h : T_X2_doFirstMove_2 post x1 μ) : V X 2 [(0, .ref (w.1 50)), (1, .int x1)] [] (wls w shX 58 μ) :=
  h (fun x1 μ => V X 2 [(0, .ref (w.1 50)), (1, .int x1)] [] (wls w shX 58 μ)) (fun x1 μ h => bv_X2_doFirstMove_2 g hX post hR (fun x1 μ => V X 2 [(0, .ref (w.1 50)), (1, .int x1)] [] (wls w shX 58 μ)) (fun _ _ h => h) x1 μ h)
def T_X2_doFirstMove (μ : Mem) (post : Int32 → Mem → Prop) : Prop :=
  T_X2_doFirstMove_2 post 0 μ
theorem m_X2_doFirstMove {w : Wd} {l : Launch} {D : va_G} {A : Nat → Prop} (μ : Mem) (post : Int32 → Mem → Prop) (h : T_X2_doFirstMove μ post) : MetX l D A w shX 58 yX2_doFirstMove cX2_doFirstMove 3 (some .boolean) rm_X2_doFirstMove [.ref (w.1 50)] μ (pI post) := by
  refine metX_of (by decide) rfl (lv := [(0, .ref (w.1 50))]) rfl (fun X hX g hR => ?_)
  refine r_iconst (pc := 0) g dX2_doFirstMove_0 ci_0 ?_
  refine r_istore_n (pc := 1) (lv' := [(1, .int 0), (0, .ref (w.1 50))]) g dX2_doFirstMove_1 rfl rfl ?_
  refine r_sub [1, 0] (lv' := [(0, .ref (w.1 50)), (1, .int 0)]) rfl ?_
  exact v_X2_doFirstMove_2 g hX post hR 0 μ h
abbrev rm_X2_improve : Room := { frames := 4, cells := 0, slots := 0, locals := 93 }
def B_X2_improve_47 (r1 : Nat) (post : Int32 → Mem → Prop) (P47 : Int32 → Mem → Prop) (x2 : Int32) (μ : Mem) : Prop :=
  ((1000000 ≤ x2 → post 1000000 μ) ∧ (¬ 1000000 ≤ x2 → T_X2_doFirstMove μ (fun (u1 : Int32) (μ2 : Mem) => ((¬ u1 = 0 → P47 (x2 + 1) μ2) ∧ (u1 = 0 → post x2 μ2)))))
def T_X2_improve_47 (r1 : Nat) (post : Int32 → Mem → Prop) (x2 : Int32) (μ : Mem) : Prop :=
  ∀ P47 : Int32 → Mem → Prop, (∀ (x2 : Int32) (μ : Mem), B_X2_improve_47 r1 post P47 x2 μ → P47 x2 μ) → P47 x2 μ
theorem bv_X2_improve_47 {X : Cx} {w : Wd} {l : Launch} {D : va_G} {A : Nat → Prop} (r1 : Nat) (g : Gd X w RX2 cX2_improve 3 rm_X2_improve) (hX : atX X l D A) (post : Int32 → Mem → Prop) (hR : Rt X w shX 58 (some .int) (pI post)) (P47 : Int32 → Mem → Prop) (hP47 : ∀ (x2 : Int32) (μ : Mem), P47 x2 μ → V X 47 [(0, .ref (w.1 50)), (2, .int x2)] [] (wls w shX 58 μ)) (x2 : Int32) (μ : Mem) (h : B_X2_improve_47 r1 post P47 x2 μ) : V X 47 [(0, .ref (w.1 50)), (2, .int x2)] [] (wls w shX 58 μ) := by
  refine r_iload_n (pc := 47) 1 g dX2_improve_47 rfl ?_
  refine r_ldc (pc := 48) g dX2_improve_48 k_823 ?_
  refine r_icmp_ge (pc := 50) 68 g dX2_improve_50 rfl (fun q => ?_) (fun q => ?_)
  · have h := h.1 q
    refine r_ldc (pc := 68) g dX2_improve_68 k_823 ?_
    exact r_ireti (pc := 70) g hR dX2_improve_70 h
  · have h := h.2 q
    refine r_aload_n (pc := 53) 0 g dX2_improve_53 rfl ?_
    refine r_callVi (pc := 54) (st := []) g hX dX2_improve_54 (m_X2_doFirstMove μ _ h) kb_RX2_48 kv_X2_doFirstMove shX_out sX_50 rfl rfl rfl rfl (fun u1 μ2 h => ?_)
    refine r_if_ne (pc := 57) 62 g dX2_improve_57 rfl (fun q => ?_) (fun q => ?_)
    · have h := h.1 q
      refine r_iinc (pc := 62) (lv' := [(2, .int (x2 + 1)), (0, .ref (w.1 50))]) 1 g dX2_improve_62 rfl ci_1 rfl rfl ?_
      refine r_goto (pc := 65) 47 g dX2_improve_65 rfl ?_
      refine r_sub [1, 0] (lv' := [(0, .ref (w.1 50)), (2, .int (x2 + 1))]) rfl ?_
      exact hP47 (x2 + 1) μ2 h
    · have h := h.2 q
      refine r_iload_n (pc := 60) 1 g dX2_improve_60 rfl ?_
      exact r_ireti (pc := 61) g hR dX2_improve_61 h
theorem v_X2_improve_47 {X : Cx} {w : Wd} {l : Launch} {D : va_G} {A : Nat → Prop} (r1 : Nat) (g : Gd X w RX2 cX2_improve 3 rm_X2_improve) (hX : atX X l D A) (post : Int32 → Mem → Prop) (hR : Rt X w shX 58 (some .int) (pI post)) (x2 : Int32) (μ : Mem) (h : T_X2_improve_47 r1 post x2 μ) : V X 47 [(0, .ref (w.1 50)), (2, .int x2)] [] (wls w shX 58 μ) :=
  h (fun x2 μ => V X 47 [(0, .ref (w.1 50)), (2, .int x2)] [] (wls w shX 58 μ)) (fun x2 μ h => bv_X2_improve_47 r1 g hX post hR (fun x2 μ => V X 47 [(0, .ref (w.1 50)), (2, .int x2)] [] (wls w shX 58 μ)) (fun _ _ h => h) x2 μ h)
def T_X2_improve (r1 : Nat) (μ : Mem) (post : Int32 → Mem → Prop) : Prop :=
  shX r1 = .inl 9 ∧ (¬ (0 : Int32) < 0 ∧ ¬ (0 : Int32) < 0 ∧ ¬ (9 : Int32) < 0 ∧ (0 : Int32).toNatClampNeg + (9 : Int32).toNatClampNeg ≤ 9 ∧ (0 : Int32).toNatClampNeg + (9 : Int32).toNatClampNeg ≤ 9) ∧ T_X1_measure 51 (mput μ 51 (va_cpy (μ r1) (μ 51) (0 : Int32).toNatClampNeg (0 : Int32).toNatClampNeg (9 : Int32).toNatClampNeg)) (fun (μ4 : Mem) => T_X2_improve_47 r1 post 0 (mset (mset μ4 50 4 (μ4 33 1)) 50 5 ((mset μ4 50 4 (μ4 33 1)) 33 2)))
theorem m_X2_improve {w : Wd} {l : Launch} {D : va_G} {A : Nat → Prop} (r1 : Nat) (μ : Mem) (post : Int32 → Mem → Prop) (h : T_X2_improve r1 μ post) : MetX l D A w shX 58 yX2_improve cX2_improve 3 (some .int) rm_X2_improve [.ref (w.1 50), .ref (w.1 r1)] μ (pI post) := by
  refine metX_of (by decide) rfl (lv := [(0, .ref (w.1 50)), (1, .ref (w.1 r1))]) rfl (fun X hX g hR => ?_)
  refine r_aload_n (pc := 0) 1 g dX2_improve_0 rfl ?_
  refine r_iconst (pc := 1) g dX2_improve_1 ci_0 ?_
  refine r_aload_n (pc := 2) 0 g dX2_improve_2 rfl ?_
  refine r_getr (pc := 3) (μ := μ) g dX2_improve_3 fa_RX2_9 shX_out sX_50 rfl ?_
  refine r_iconst (pc := 6) g dX2_improve_6 ci_0 ?_
  refine r_bipush (pc := 7) g dX2_improve_7 cb_9 ?_
  obtain ⟨z1, h⟩ := h
  obtain ⟨b2, h⟩ := h
  refine r_copy (pc := 9) (μ := μ) g dX2_improve_9 kc_RX2_26 shX_out z1 sX_51 ⟨rfl, rfl⟩ b2 ?_
  refine r_aload_n (pc := 12) 0 g dX2_improve_12 rfl ?_
  refine r_getr (pc := 13) (μ := mput μ 51 (va_cpy (μ r1) (μ 51) (0 : Int32).toNatClampNeg (0 : Int32).toNatClampNeg (9 : Int32).toNatClampNeg)) g dX2_improve_13 fa_RX2_22 shX_out sX_50 rfl ?_
  refine r_aload_n (pc := 16) 0 g dX2_improve_16 rfl ?_
  refine r_getr (pc := 17) (μ := mput μ 51 (va_cpy (μ r1) (μ 51) (0 : Int32).toNatClampNeg (0 : Int32).toNatClampNeg (9 : Int32).toNatClampNeg)) g dX2_improve_17 fa_RX2_9 shX_out sX_50 rfl ?_
  refine r_callVv (pc := 20) (st := []) g hX dX2_improve_20 (m_X1_measure 51 (mput μ 51 (va_cpy (μ r1) (μ 51) (0 : Int32).toNatClampNeg (0 : Int32).toNatClampNeg (9 : Int32).toNatClampNeg)) _ h) kb_RX2_32 kv_X1_measure shX_out sX_33 rfl rfl rfl rfl (fun μ4 h => ?_)
  refine r_aload_n (pc := 23) 0 g dX2_improve_23 rfl ?_
  refine r_aload_n (pc := 24) 0 g dX2_improve_24 rfl ?_
  refine r_getr (pc := 25) (μ := μ4) g dX2_improve_25 fa_RX2_22 shX_out sX_50 rfl ?_
  refine r_geti (pc := 28) (μ := μ4) g dX2_improve_28 fa_RX2_38 shX_out sX_33 rfl ?_
  refine r_puti (pc := 31) (μ := μ4) g dX2_improve_31 fp_RX2_42 shX_out sX_50 rfl ?_
  refine r_aload_n (pc := 34) 0 g dX2_improve_34 rfl ?_
  refine r_aload_n (pc := 35) 0 g dX2_improve_35 rfl ?_
  refine r_getr (pc := 36) (μ := mset μ4 50 4 (μ4 33 1)) g dX2_improve_36 fa_RX2_22 shX_out sX_50 rfl ?_
  refine r_geti (pc := 39) (μ := mset μ4 50 4 (μ4 33 1)) g dX2_improve_39 fa_RX2_43 shX_out sX_33 rfl ?_
  refine r_puti (pc := 42) (μ := mset μ4 50 4 (μ4 33 1)) g dX2_improve_42 fp_RX2_46 shX_out sX_50 rfl ?_
  refine r_iconst (pc := 45) g dX2_improve_45 ci_0 ?_
  refine r_istore_n (pc := 46) (lv' := [(2, .int 0), (0, .ref (w.1 50)), (1, .ref (w.1 r1))]) g dX2_improve_46 rfl rfl ?_
  refine r_sub [1, 0] (lv' := [(0, .ref (w.1 50)), (2, .int 0)]) rfl ?_
  exact v_X2_improve_47 r1 g hX post hR 0 (mset (mset μ4 50 4 (μ4 33 1)) 50 5 ((mset μ4 50 4 (μ4 33 1)) 33 2)) h
abbrev rm_X3_has : Room := { frames := 0, cells := 0, slots := 0, locals := 0 }
def T_X3_has (x1 : Int32) (μ : Mem) (post : Int32 → Mem → Prop) : Prop :=
  ((x1 < 0 → post 0 μ) ∧ (¬ x1 < 0 → (((μ 22 2) ≤ x1 → post 0 μ) ∧ (¬ (μ 22 2) ≤ x1 → post 1 μ))))
theorem m_X3_has {w : Wd} {l : Launch} {D : va_G} {A : Nat → Prop} (x1 : Int32) (μ : Mem) (post : Int32 → Mem → Prop) (h : T_X3_has x1 μ post) : MetX l D A w shX 58 yX3_has cX3_has 2 (some .boolean) rm_X3_has [.ref (w.1 22), .int x1] μ (pI post) := by
  refine metX_of (by decide) rfl (lv := [(0, .ref (w.1 22)), (1, .int x1)]) rfl (fun X hX g hR => ?_)
  refine r_iload_n (pc := 0) 1 g dX3_has_0 rfl ?_
  refine r_if_lt (pc := 1) 16 g dX3_has_1 rfl (fun q => ?_) (fun q => ?_)
  · have h := h.1 q
    refine r_iconst (pc := 16) g dX3_has_16 ci_0 ?_
    exact r_zreti (pc := 17) g hR dX3_has_17 (Or.inl rfl) h
  · have h := h.2 q
    refine r_iload_n (pc := 4) 1 g dX3_has_4 rfl ?_
    refine r_aload_n (pc := 5) 0 g dX3_has_5 rfl ?_
    refine r_geti (pc := 6) (μ := μ) g dX3_has_6 fa_RX3_20 shX_out sX_22 rfl ?_
    refine r_icmp_ge (pc := 9) 16 g dX3_has_9 rfl (fun q => ?_) (fun q => ?_)
    · have h := h.1 q
      refine r_iconst (pc := 16) g dX3_has_16 ci_0 ?_
      exact r_zreti (pc := 17) g hR dX3_has_17 (Or.inl rfl) h
    · have h := h.2 q
      refine r_iconst (pc := 12) g dX3_has_12 ci_1 ?_
      refine r_goto (pc := 13) 17 g dX3_has_13 rfl ?_
      exact r_zreti (pc := 17) g hR dX3_has_17 (Or.inr rfl) h
abbrev rm_X3_isFull : Room := { frames := 0, cells := 0, slots := 0, locals := 0 }
def T_X3_isFull (μ : Mem) (post : Int32 → Mem → Prop) : Prop :=
  (((μ 22 2) < 8 → post 0 μ) ∧ (¬ (μ 22 2) < 8 → post 1 μ))
theorem m_X3_isFull {w : Wd} {l : Launch} {D : va_G} {A : Nat → Prop} (μ : Mem) (post : Int32 → Mem → Prop) (h : T_X3_isFull μ post) : MetX l D A w shX 58 yX3_isFull cX3_isFull 1 (some .boolean) rm_X3_isFull [.ref (w.1 22)] μ (pI post) := by
  refine metX_of (by decide) rfl (lv := [(0, .ref (w.1 22))]) rfl (fun X hX g hR => ?_)
  refine r_aload_n (pc := 0) 0 g dX3_isFull_0 rfl ?_
  refine r_geti (pc := 1) (μ := μ) g dX3_isFull_1 fa_RX3_20 shX_out sX_22 rfl ?_
  refine r_bipush (pc := 4) g dX3_isFull_4 cb_8 ?_
  refine r_icmp_lt (pc := 6) 13 g dX3_isFull_6 rfl (fun q => ?_) (fun q => ?_)
  · have h := h.1 q
    refine r_iconst (pc := 13) g dX3_isFull_13 ci_0 ?_
    exact r_zreti (pc := 14) g hR dX3_isFull_14 (Or.inl rfl) h
  · have h := h.2 q
    refine r_iconst (pc := 9) g dX3_isFull_9 ci_1 ?_
    refine r_goto (pc := 10) 14 g dX3_isFull_10 rfl ?_
    exact r_zreti (pc := 14) g hR dX3_isFull_14 (Or.inr rfl) h
abbrev rm_X3_add : Room := { frames := 1, cells := 0, slots := 0, locals := 26 }
def T_X3_add (r2 : Nat) (x1 : Int32) (μ : Mem) (post : Int32 → Mem → Prop) : Prop :=
  vp_in (μ 22 2) 8 ∧ shX r2 = .inl 9 ∧ (¬ (0 : Int32) < 0 ∧ ¬ (0 : Int32) < 0 ∧ ¬ (9 : Int32) < 0 ∧ (0 : Int32).toNatClampNeg + (9 : Int32).toNatClampNeg ≤ 9 ∧ (0 : Int32).toNatClampNeg + (9 : Int32).toNatClampNeg ≤ 9) ∧ vp_in ((mput μ (25 + (μ 22 2).toNatClampNeg) (va_cpy (μ r2) (μ (25 + (μ 22 2).toNatClampNeg)) (0 : Int32).toNatClampNeg (0 : Int32).toNatClampNeg (9 : Int32).toNatClampNeg)) 22 2) 8 ∧ post (((mset (mset (mput μ (25 + (μ 22 2).toNatClampNeg) (va_cpy (μ r2) (μ (25 + (μ 22 2).toNatClampNeg)) (0 : Int32).toNatClampNeg (0 : Int32).toNatClampNeg (9 : Int32).toNatClampNeg)) 24 ((mput μ (25 + (μ 22 2).toNatClampNeg) (va_cpy (μ r2) (μ (25 + (μ 22 2).toNatClampNeg)) (0 : Int32).toNatClampNeg (0 : Int32).toNatClampNeg (9 : Int32).toNatClampNeg)) 22 2).toNatClampNeg x1) 22 2 (((mset (mput μ (25 + (μ 22 2).toNatClampNeg) (va_cpy (μ r2) (μ (25 + (μ 22 2).toNatClampNeg)) (0 : Int32).toNatClampNeg (0 : Int32).toNatClampNeg (9 : Int32).toNatClampNeg)) 24 ((mput μ (25 + (μ 22 2).toNatClampNeg) (va_cpy (μ r2) (μ (25 + (μ 22 2).toNatClampNeg)) (0 : Int32).toNatClampNeg (0 : Int32).toNatClampNeg (9 : Int32).toNatClampNeg)) 22 2).toNatClampNeg x1) 22 2) + 1)) 22 2) - 1) (mset (mset (mput μ (25 + (μ 22 2).toNatClampNeg) (va_cpy (μ r2) (μ (25 + (μ 22 2).toNatClampNeg)) (0 : Int32).toNatClampNeg (0 : Int32).toNatClampNeg (9 : Int32).toNatClampNeg)) 24 ((mput μ (25 + (μ 22 2).toNatClampNeg) (va_cpy (μ r2) (μ (25 + (μ 22 2).toNatClampNeg)) (0 : Int32).toNatClampNeg (0 : Int32).toNatClampNeg (9 : Int32).toNatClampNeg)) 22 2).toNatClampNeg x1) 22 2 (((mset (mput μ (25 + (μ 22 2).toNatClampNeg) (va_cpy (μ r2) (μ (25 + (μ 22 2).toNatClampNeg)) (0 : Int32).toNatClampNeg (0 : Int32).toNatClampNeg (9 : Int32).toNatClampNeg)) 24 ((mput μ (25 + (μ 22 2).toNatClampNeg) (va_cpy (μ r2) (μ (25 + (μ 22 2).toNatClampNeg)) (0 : Int32).toNatClampNeg (0 : Int32).toNatClampNeg (9 : Int32).toNatClampNeg)) 22 2).toNatClampNeg x1) 22 2) + 1))
theorem m_X3_add {w : Wd} {l : Launch} {D : va_G} {A : Nat → Prop} (r2 : Nat) (x1 : Int32) (μ : Mem) (post : Int32 → Mem → Prop) (h : T_X3_add r2 x1 μ post) : MetX l D A w shX 58 yX3_add cX3_add 3 (some .int) rm_X3_add [.ref (w.1 22), .int x1, .ref (w.1 r2)] μ (pI post) := by
  refine metX_of (by decide) rfl (lv := [(0, .ref (w.1 22)), (1, .int x1), (2, .ref (w.1 r2))]) rfl (fun X hX g hR => ?_)
  refine r_aload_n (pc := 0) 2 g dX3_add_0 rfl ?_
  refine r_iconst (pc := 1) g dX3_add_1 ci_0 ?_
  refine r_aload_n (pc := 2) 0 g dX3_add_2 rfl ?_
  refine r_getr (pc := 3) (μ := μ) g dX3_add_3 fa_RX3_11 shX_out sX_22 rfl ?_
  refine r_aload_n (pc := 6) 0 g dX3_add_6 rfl ?_
  refine r_geti (pc := 7) (μ := μ) g dX3_add_7 fa_RX3_20 shX_out sX_22 rfl ?_
  obtain ⟨b1, h⟩ := h
  refine r_aaload (pc := 10) (μ := μ) g dX3_add_10 (by decide) sX_23 b1 ?_
  refine r_iconst (pc := 11) g dX3_add_11 ci_0 ?_
  refine r_bipush (pc := 12) g dX3_add_12 cb_9 ?_
  obtain ⟨z2, h⟩ := h
  obtain ⟨b3, h⟩ := h
  refine r_copy (pc := 14) (μ := μ) g dX3_add_14 kc_RX3_24 shX_out z2 (shX_rows25 b1) ⟨rfl, rfl⟩ b3 ?_
  refine r_aload_n (pc := 17) 0 g dX3_add_17 rfl ?_
  refine r_getr (pc := 18) (μ := mput μ (25 + (μ 22 2).toNatClampNeg) (va_cpy (μ r2) (μ (25 + (μ 22 2).toNatClampNeg)) (0 : Int32).toNatClampNeg (0 : Int32).toNatClampNeg (9 : Int32).toNatClampNeg)) g dX3_add_18 fa_RX3_16 shX_out sX_22 rfl ?_
  refine r_aload_n (pc := 21) 0 g dX3_add_21 rfl ?_
  refine r_geti (pc := 22) (μ := mput μ (25 + (μ 22 2).toNatClampNeg) (va_cpy (μ r2) (μ (25 + (μ 22 2).toNatClampNeg)) (0 : Int32).toNatClampNeg (0 : Int32).toNatClampNeg (9 : Int32).toNatClampNeg)) g dX3_add_22 fa_RX3_20 shX_out sX_22 rfl ?_
  refine r_iload_n (pc := 25) 1 g dX3_add_25 rfl ?_
  obtain ⟨b4, h⟩ := h
  refine r_iastore (pc := 26) (μ := mput μ (25 + (μ 22 2).toNatClampNeg) (va_cpy (μ r2) (μ (25 + (μ 22 2).toNatClampNeg)) (0 : Int32).toNatClampNeg (0 : Int32).toNatClampNeg (9 : Int32).toNatClampNeg)) g dX3_add_26 shX_out sX_24 b4 ?_
  refine r_aload_n (pc := 27) 0 g dX3_add_27 rfl ?_
  refine r_dup (pc := 28) g dX3_add_28 rfl ?_
  refine r_geti (pc := 29) (μ := mset (mput μ (25 + (μ 22 2).toNatClampNeg) (va_cpy (μ r2) (μ (25 + (μ 22 2).toNatClampNeg)) (0 : Int32).toNatClampNeg (0 : Int32).toNatClampNeg (9 : Int32).toNatClampNeg)) 24 ((mput μ (25 + (μ 22 2).toNatClampNeg) (va_cpy (μ r2) (μ (25 + (μ 22 2).toNatClampNeg)) (0 : Int32).toNatClampNeg (0 : Int32).toNatClampNeg (9 : Int32).toNatClampNeg)) 22 2).toNatClampNeg x1) g dX3_add_29 fa_RX3_20 shX_out sX_22 rfl ?_
  refine r_iconst (pc := 32) g dX3_add_32 ci_1 ?_
  refine r_iadd (pc := 33) g dX3_add_33 ?_
  refine r_puti (pc := 34) (μ := mset (mput μ (25 + (μ 22 2).toNatClampNeg) (va_cpy (μ r2) (μ (25 + (μ 22 2).toNatClampNeg)) (0 : Int32).toNatClampNeg (0 : Int32).toNatClampNeg (9 : Int32).toNatClampNeg)) 24 ((mput μ (25 + (μ 22 2).toNatClampNeg) (va_cpy (μ r2) (μ (25 + (μ 22 2).toNatClampNeg)) (0 : Int32).toNatClampNeg (0 : Int32).toNatClampNeg (9 : Int32).toNatClampNeg)) 22 2).toNatClampNeg x1) g dX3_add_34 fp_RX3_20 shX_out sX_22 rfl ?_
  refine r_aload_n (pc := 37) 0 g dX3_add_37 rfl ?_
  refine r_geti (pc := 38) (μ := mset (mset (mput μ (25 + (μ 22 2).toNatClampNeg) (va_cpy (μ r2) (μ (25 + (μ 22 2).toNatClampNeg)) (0 : Int32).toNatClampNeg (0 : Int32).toNatClampNeg (9 : Int32).toNatClampNeg)) 24 ((mput μ (25 + (μ 22 2).toNatClampNeg) (va_cpy (μ r2) (μ (25 + (μ 22 2).toNatClampNeg)) (0 : Int32).toNatClampNeg (0 : Int32).toNatClampNeg (9 : Int32).toNatClampNeg)) 22 2).toNatClampNeg x1) 22 2 (((mset (mput μ (25 + (μ 22 2).toNatClampNeg) (va_cpy (μ r2) (μ (25 + (μ 22 2).toNatClampNeg)) (0 : Int32).toNatClampNeg (0 : Int32).toNatClampNeg (9 : Int32).toNatClampNeg)) 24 ((mput μ (25 + (μ 22 2).toNatClampNeg) (va_cpy (μ r2) (μ (25 + (μ 22 2).toNatClampNeg)) (0 : Int32).toNatClampNeg (0 : Int32).toNatClampNeg (9 : Int32).toNatClampNeg)) 22 2).toNatClampNeg x1) 22 2) + 1)) g dX3_add_38 fa_RX3_20 shX_out sX_22 rfl ?_
  refine r_iconst (pc := 41) g dX3_add_41 ci_1 ?_
  refine r_isub (pc := 42) g dX3_add_42 ?_
  exact r_ireti (pc := 43) g hR dX3_add_43 h
abbrev rm_X3_setOfFirst : Room := { frames := 0, cells := 0, slots := 0, locals := 0 }
def B_X3_setOfFirst_5 (post : Int32 → Mem → Prop) (P5 : Int32 → Int32 → Int32 → Int32 → Mem → Prop) (x1 : Int32) (x2 : Int32) (x3 : Int32) (x4 : Int32) (μ : Mem) : Prop :=
  ((x2 ≤ x4 → post x3 μ) ∧ (¬ x2 ≤ x4 → vp_in x1 8 ∧ vp_in x4 9 ∧ P5 x1 x2 (x3 ||| ((1 : Int32) <<< ((μ (25 + x1.toNatClampNeg) x4.toNatClampNeg) &&& 31))) (x4 + 1) μ))
def T_X3_setOfFirst_5 (post : Int32 → Mem → Prop) (x1 : Int32) (x2 : Int32) (x3 : Int32) (x4 : Int32) (μ : Mem) : Prop :=
  ∀ P5 : Int32 → Int32 → Int32 → Int32 → Mem → Prop, (∀ (x1 : Int32) (x2 : Int32) (x3 : Int32) (x4 : Int32) (μ : Mem), B_X3_setOfFirst_5 post P5 x1 x2 x3 x4 μ → P5 x1 x2 x3 x4 μ) → P5 x1 x2 x3 x4 μ
theorem bv_X3_setOfFirst_5 {X : Cx} {w : Wd} {l : Launch} {D : va_G} {A : Nat → Prop} (g : Gd X w RX3 cX3_setOfFirst 5 rm_X3_setOfFirst) (hX : atX X l D A) (post : Int32 → Mem → Prop) (hR : Rt X w shX 58 (some .int) (pI post)) (P5 : Int32 → Int32 → Int32 → Int32 → Mem → Prop) (hP5 : ∀ (x1 : Int32) (x2 : Int32) (x3 : Int32) (x4 : Int32) (μ : Mem), P5 x1 x2 x3 x4 μ → V X 5 [(0, .ref (w.1 22)), (1, .int x1), (2, .int x2), (3, .int x3), (4, .int x4)] [] (wls w shX 58 μ)) (x1 : Int32) (x2 : Int32) (x3 : Int32) (x4 : Int32) (μ : Mem) (h : B_X3_setOfFirst_5 post P5 x1 x2 x3 x4 μ) : V X 5 [(0, .ref (w.1 22)), (1, .int x1), (2, .int x2), (3, .int x3), (4, .int x4)] [] (wls w shX 58 μ) := by
  refine r_iload (pc := 5) 4 g dX3_setOfFirst_5 rfl ?_
  refine r_iload_n (pc := 7) 2 g dX3_setOfFirst_7 rfl ?_
  refine r_icmp_ge (pc := 8) 31 g dX3_setOfFirst_8 rfl (fun q => ?_) (fun q => ?_)
  · have h := h.1 q
    refine r_iload_n (pc := 31) 3 g dX3_setOfFirst_31 rfl ?_
    exact r_ireti (pc := 32) g hR dX3_setOfFirst_32 h
  · have h := h.2 q
    refine r_iload_n (pc := 11) 3 g dX3_setOfFirst_11 rfl ?_
    refine r_iconst (pc := 12) g dX3_setOfFirst_12 ci_1 ?_
    refine r_aload_n (pc := 13) 0 g dX3_setOfFirst_13 rfl ?_
    refine r_getr (pc := 14) (μ := μ) g dX3_setOfFirst_14 fa_RX3_11 shX_out sX_22 rfl ?_
    refine r_iload_n (pc := 17) 1 g dX3_setOfFirst_17 rfl ?_
    obtain ⟨b1, h⟩ := h
    refine r_aaload (pc := 18) (μ := μ) g dX3_setOfFirst_18 (by decide) sX_23 b1 ?_
    refine r_iload (pc := 19) 4 g dX3_setOfFirst_19 rfl ?_
    obtain ⟨b2, h⟩ := h
    refine r_iaload (pc := 21) (μ := μ) g dX3_setOfFirst_21 shX_out (shX_rows25 b1) b2 ?_
    refine r_ishl (pc := 22) g dX3_setOfFirst_22 ?_
    refine r_ior (pc := 23) g dX3_setOfFirst_23 ?_
    refine r_istore_n (pc := 24) (lv' := [(3, .int (x3 ||| ((1 : Int32) <<< ((μ (25 + x1.toNatClampNeg) x4.toNatClampNeg) &&& 31)))), (0, .ref (w.1 22)), (1, .int x1), (2, .int x2), (4, .int x4)]) g dX3_setOfFirst_24 rfl rfl ?_
    refine r_iinc (pc := 25) (lv' := [(4, .int (x4 + 1)), (3, .int (x3 ||| ((1 : Int32) <<< ((μ (25 + x1.toNatClampNeg) x4.toNatClampNeg) &&& 31)))), (0, .ref (w.1 22)), (1, .int x1), (2, .int x2)]) 4 g dX3_setOfFirst_25 rfl ci_1 rfl rfl ?_
    refine r_goto (pc := 28) 5 g dX3_setOfFirst_28 rfl ?_
    refine r_sub [2, 3, 4, 1, 0] (lv' := [(0, .ref (w.1 22)), (1, .int x1), (2, .int x2), (3, .int (x3 ||| ((1 : Int32) <<< ((μ (25 + x1.toNatClampNeg) x4.toNatClampNeg) &&& 31)))), (4, .int (x4 + 1))]) rfl ?_
    exact hP5 x1 x2 (x3 ||| ((1 : Int32) <<< ((μ (25 + x1.toNatClampNeg) x4.toNatClampNeg) &&& 31))) (x4 + 1) μ h
theorem v_X3_setOfFirst_5 {X : Cx} {w : Wd} {l : Launch} {D : va_G} {A : Nat → Prop} (g : Gd X w RX3 cX3_setOfFirst 5 rm_X3_setOfFirst) (hX : atX X l D A) (post : Int32 → Mem → Prop) (hR : Rt X w shX 58 (some .int) (pI post)) (x1 : Int32) (x2 : Int32) (x3 : Int32) (x4 : Int32) (μ : Mem) (h : T_X3_setOfFirst_5 post x1 x2 x3 x4 μ) : V X 5 [(0, .ref (w.1 22)), (1, .int x1), (2, .int x2), (3, .int x3), (4, .int x4)] [] (wls w shX 58 μ) :=
  h (fun x1 x2 x3 x4 μ => V X 5 [(0, .ref (w.1 22)), (1, .int x1), (2, .int x2), (3, .int x3), (4, .int x4)] [] (wls w shX 58 μ)) (fun x1 x2 x3 x4 μ h => bv_X3_setOfFirst_5 g hX post hR (fun x1 x2 x3 x4 μ => V X 5 [(0, .ref (w.1 22)), (1, .int x1), (2, .int x2), (3, .int x3), (4, .int x4)] [] (wls w shX 58 μ)) (fun _ _ _ _ _ h => h) x1 x2 x3 x4 μ h)
def T_X3_setOfFirst (x1 : Int32) (x2 : Int32) (μ : Mem) (post : Int32 → Mem → Prop) : Prop :=
  T_X3_setOfFirst_5 post x1 x2 0 0 μ
theorem m_X3_setOfFirst {w : Wd} {l : Launch} {D : va_G} {A : Nat → Prop} (x1 : Int32) (x2 : Int32) (μ : Mem) (post : Int32 → Mem → Prop) (h : T_X3_setOfFirst x1 x2 μ post) : MetX l D A w shX 58 yX3_setOfFirst cX3_setOfFirst 5 (some .int) rm_X3_setOfFirst [.ref (w.1 22), .int x1, .int x2] μ (pI post) := by
  refine metX_of (by decide) rfl (lv := [(0, .ref (w.1 22)), (1, .int x1), (2, .int x2)]) rfl (fun X hX g hR => ?_)
  refine r_iconst (pc := 0) g dX3_setOfFirst_0 ci_0 ?_
  refine r_istore_n (pc := 1) (lv' := [(3, .int 0), (0, .ref (w.1 22)), (1, .int x1), (2, .int x2)]) g dX3_setOfFirst_1 rfl rfl ?_
  refine r_iconst (pc := 2) g dX3_setOfFirst_2 ci_0 ?_
  refine r_istore (pc := 3) (lv' := [(4, .int 0), (3, .int 0), (0, .ref (w.1 22)), (1, .int x1), (2, .int x2)]) g dX3_setOfFirst_3 rfl rfl ?_
  refine r_sub [2, 3, 4, 1, 0] (lv' := [(0, .ref (w.1 22)), (1, .int x1), (2, .int x2), (3, .int 0), (4, .int 0)]) rfl ?_
  exact v_X3_setOfFirst_5 g hX post hR x1 x2 0 0 μ h
abbrev rm_X10_greatestNeed : Room := { frames := 1, cells := 0, slots := 0, locals := 21 }
def B_X10_greatestNeed_4 (post : Int32 → Mem → Prop) (P4 : Int32 → Int32 → Mem → Prop) (x1 : Int32) (x2 : Int32) (μ : Mem) : Prop :=
  (((μ 13 4) ≤ x2 → post x1 μ) ∧ (¬ (μ 13 4) ≤ x2 → vp_in x2 9 ∧ T_X5_sum 16 (μ 14 x2.toNatClampNeg) μ (fun (u2 : Int32) (μ3 : Mem) => P4 (if x1 < u2 then u2 else x1) (x2 + 1) μ3)))
def T_X10_greatestNeed_4 (post : Int32 → Mem → Prop) (x1 : Int32) (x2 : Int32) (μ : Mem) : Prop :=
  ∀ P4 : Int32 → Int32 → Mem → Prop, (∀ (x1 : Int32) (x2 : Int32) (μ : Mem), B_X10_greatestNeed_4 post P4 x1 x2 μ → P4 x1 x2 μ) → P4 x1 x2 μ
theorem bv_X10_greatestNeed_4 {X : Cx} {w : Wd} {l : Launch} {D : va_G} {A : Nat → Prop} (g : Gd X w RX10 cX10_greatestNeed 3 rm_X10_greatestNeed) (hX : atX X l D A) (post : Int32 → Mem → Prop) (hR : Rt X w shX 58 (some .int) (pI post)) (P4 : Int32 → Int32 → Mem → Prop) (hP4 : ∀ (x1 : Int32) (x2 : Int32) (μ : Mem), P4 x1 x2 μ → V X 4 [(0, .ref (w.1 13)), (1, .int x1), (2, .int x2)] [] (wls w shX 58 μ)) (x1 : Int32) (x2 : Int32) (μ : Mem) (h : B_X10_greatestNeed_4 post P4 x1 x2 μ) : V X 4 [(0, .ref (w.1 13)), (1, .int x1), (2, .int x2)] [] (wls w shX 58 μ) := by
  refine r_iload_n (pc := 4) 2 g dX10_greatestNeed_4 rfl ?_
  refine r_aload_n (pc := 5) 0 g dX10_greatestNeed_5 rfl ?_
  refine r_geti (pc := 6) (μ := μ) g dX10_greatestNeed_6 fa_RX10_28 shX_out sX_13 rfl ?_
  refine r_icmp_ge (pc := 9) 36 g dX10_greatestNeed_9 rfl (fun q => ?_) (fun q => ?_)
  · have h := h.1 q
    refine r_iload_n (pc := 36) 1 g dX10_greatestNeed_36 rfl ?_
    exact r_ireti (pc := 37) g hR dX10_greatestNeed_37 h
  · have h := h.2 q
    refine r_iload_n (pc := 12) 1 g dX10_greatestNeed_12 rfl ?_
    refine r_aload_n (pc := 13) 0 g dX10_greatestNeed_13 rfl ?_
    refine r_getr (pc := 14) (μ := μ) g dX10_greatestNeed_14 fa_RX10_21 shX_out sX_13 rfl ?_
    refine r_aload_n (pc := 17) 0 g dX10_greatestNeed_17 rfl ?_
    refine r_getr (pc := 18) (μ := μ) g dX10_greatestNeed_18 fa_RX10_9 shX_out sX_13 rfl ?_
    refine r_iload_n (pc := 21) 2 g dX10_greatestNeed_21 rfl ?_
    obtain ⟨b1, h⟩ := h
    refine r_iaload (pc := 22) (μ := μ) g dX10_greatestNeed_22 shX_out sX_14 b1 ?_
    refine r_callVi (pc := 23) (st := [.int x1]) g hX dX10_greatestNeed_23 (m_X5_sum 16 (Or.inl rfl) (μ 14 x2.toNatClampNeg) μ _ h) kb_RX10_46 kv_X5_sum shX_out (sc_0 (Or.inl rfl)) rfl rfl rfl rfl (fun u2 μ3 h => ?_)
    refine r_max (pc := 26) g dX10_greatestNeed_26 kj_RX10_50 ⟨rfl, rfl⟩ ?_
    refine r_istore_n (pc := 29) (lv' := [(1, .int (if x1 < u2 then u2 else x1)), (0, .ref (w.1 13)), (2, .int x2)]) g dX10_greatestNeed_29 rfl rfl ?_
    refine r_iinc (pc := 30) (lv' := [(2, .int (x2 + 1)), (1, .int (if x1 < u2 then u2 else x1)), (0, .ref (w.1 13))]) 2 g dX10_greatestNeed_30 rfl ci_1 rfl rfl ?_
    refine r_goto (pc := 33) 4 g dX10_greatestNeed_33 rfl ?_
    refine r_sub [2, 1, 0] (lv' := [(0, .ref (w.1 13)), (1, .int (if x1 < u2 then u2 else x1)), (2, .int (x2 + 1))]) rfl ?_
    exact hP4 (if x1 < u2 then u2 else x1) (x2 + 1) μ3 h
theorem v_X10_greatestNeed_4 {X : Cx} {w : Wd} {l : Launch} {D : va_G} {A : Nat → Prop} (g : Gd X w RX10 cX10_greatestNeed 3 rm_X10_greatestNeed) (hX : atX X l D A) (post : Int32 → Mem → Prop) (hR : Rt X w shX 58 (some .int) (pI post)) (x1 : Int32) (x2 : Int32) (μ : Mem) (h : T_X10_greatestNeed_4 post x1 x2 μ) : V X 4 [(0, .ref (w.1 13)), (1, .int x1), (2, .int x2)] [] (wls w shX 58 μ) :=
  h (fun x1 x2 μ => V X 4 [(0, .ref (w.1 13)), (1, .int x1), (2, .int x2)] [] (wls w shX 58 μ)) (fun x1 x2 μ h => bv_X10_greatestNeed_4 g hX post hR (fun x1 x2 μ => V X 4 [(0, .ref (w.1 13)), (1, .int x1), (2, .int x2)] [] (wls w shX 58 μ)) (fun _ _ _ h => h) x1 x2 μ h)
def T_X10_greatestNeed (μ : Mem) (post : Int32 → Mem → Prop) : Prop :=
  T_X10_greatestNeed_4 post 0 0 μ
theorem m_X10_greatestNeed {w : Wd} {l : Launch} {D : va_G} {A : Nat → Prop} (μ : Mem) (post : Int32 → Mem → Prop) (h : T_X10_greatestNeed μ post) : MetX l D A w shX 58 yX10_greatestNeed cX10_greatestNeed 3 (some .int) rm_X10_greatestNeed [.ref (w.1 13)] μ (pI post) := by
  refine metX_of (by decide) rfl (lv := [(0, .ref (w.1 13))]) rfl (fun X hX g hR => ?_)
  refine r_iconst (pc := 0) g dX10_greatestNeed_0 ci_0 ?_
  refine r_istore_n (pc := 1) (lv' := [(1, .int 0), (0, .ref (w.1 13))]) g dX10_greatestNeed_1 rfl rfl ?_
  refine r_iconst (pc := 2) g dX10_greatestNeed_2 ci_0 ?_
  refine r_istore_n (pc := 3) (lv' := [(2, .int 0), (1, .int 0), (0, .ref (w.1 13))]) g dX10_greatestNeed_3 rfl rfl ?_
  refine r_sub [2, 1, 0] (lv' := [(0, .ref (w.1 13)), (1, .int 0), (2, .int 0)]) rfl ?_
  exact v_X10_greatestNeed_4 g hX post hR 0 0 μ h
