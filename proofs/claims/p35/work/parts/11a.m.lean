theorem dX12_fails_0 : decode cX12_fails 0 = .ok (.aload_n 0, 1) := by decide +kernel
theorem dX12_fails_1 : decode cX12_fails 1 = .ok (.iload_n 1, 1) := by decide +kernel
theorem dX12_fails_2 : decode cX12_fails 2 = .ok (.putfield 73, 3) := by decide +kernel
theorem dX12_fails_5 : decode cX12_fails 5 = .ok (.bipush (-10), 2) := by decide +kernel
theorem dX12_fails_7 : decode cX12_fails 7 = .ok (.iload_n 1, 1) := by decide +kernel
theorem dX12_fails_8 : decode cX12_fails 8 = .ok (.isub, 1) := by decide +kernel
theorem dX12_fails_9 : decode cX12_fails 9 = .ok (.ireturn, 1) := by decide +kernel
theorem dX12_lost_0 : decode cX12_lost 0 = .ok (.aload_n 0, 1) := by decide +kernel
theorem dX12_lost_1 : decode cX12_lost 1 = .ok (.iload_n 1, 1) := by decide +kernel
theorem dX12_lost_2 : decode cX12_lost 2 = .ok (.putfield 73, 3) := by decide +kernel
theorem dX12_lost_5 : decode cX12_lost 5 = .ok (.ldc2_w 77, 3) := by decide +kernel
theorem dX12_lost_8 : decode cX12_lost 8 = .ok (.lreturn, 1) := by decide +kernel
theorem dX12_isIn_0 : decode cX12_isIn 0 = .ok (.iload_n 0, 1) := by decide +kernel
theorem dX12_isIn_1 : decode cX12_isIn 1 = .ok (.iload_n 1, 1) := by decide +kernel
theorem dX12_isIn_2 : decode cX12_isIn 2 = .ok (.if_icmp .lt 12, 3) := by decide +kernel
theorem dX12_isIn_5 : decode cX12_isIn 5 = .ok (.iload_n 0, 1) := by decide +kernel
theorem dX12_isIn_6 : decode cX12_isIn 6 = .ok (.iload_n 2, 1) := by decide +kernel
theorem dX12_isIn_7 : decode cX12_isIn 7 = .ok (.if_icmp .gt 7, 3) := by decide +kernel
theorem dX12_isIn_10 : decode cX12_isIn 10 = .ok (.iconst 1, 1) := by decide +kernel
theorem dX12_isIn_11 : decode cX12_isIn 11 = .ok (.goto 4, 3) := by decide +kernel
theorem dX12_isIn_14 : decode cX12_isIn 14 = .ok (.iconst 0, 1) := by decide +kernel
theorem dX12_isIn_15 : decode cX12_isIn 15 = .ok (.ireturn, 1) := by decide +kernel
theorem dX12_has_0 : decode cX12_has 0 = .ok (.iload_n 0, 1) := by decide +kernel
theorem dX12_has_1 : decode cX12_has 1 = .ok (.iload_n 1, 1) := by decide +kernel
theorem dX12_has_2 : decode cX12_has 2 = .ok (.ishr, 1) := by decide +kernel
theorem dX12_has_3 : decode cX12_has 3 = .ok (.iconst 1, 1) := by decide +kernel
theorem dX12_has_4 : decode cX12_has 4 = .ok (.iand, 1) := by decide +kernel
theorem dX12_has_5 : decode cX12_has 5 = .ok (.iconst 1, 1) := by decide +kernel
theorem dX12_has_6 : decode cX12_has 6 = .ok (.if_icmp .ne 7, 3) := by decide +kernel
theorem dX12_has_9 : decode cX12_has 9 = .ok (.iconst 1, 1) := by decide +kernel
theorem dX12_has_10 : decode cX12_has 10 = .ok (.goto 4, 3) := by decide +kernel
theorem dX12_has_13 : decode cX12_has 13 = .ok (.iconst 0, 1) := by decide +kernel
theorem dX12_has_14 : decode cX12_has 14 = .ok (.ireturn, 1) := by decide +kernel
theorem dX12_bitsOf_0 : decode cX12_bitsOf 0 = .ok (.iconst 0, 1) := by decide +kernel
theorem dX12_bitsOf_1 : decode cX12_bitsOf 1 = .ok (.istore_n 1, 1) := by decide +kernel
theorem dX12_bitsOf_2 : decode cX12_bitsOf 2 = .ok (.iconst 0, 1) := by decide +kernel
theorem dX12_bitsOf_3 : decode cX12_bitsOf 3 = .ok (.istore_n 2, 1) := by decide +kernel
theorem dX12_bitsOf_4 : decode cX12_bitsOf 4 = .ok (.iload_n 2, 1) := by decide +kernel
theorem dX12_bitsOf_5 : decode cX12_bitsOf 5 = .ok (.bipush 10, 2) := by decide +kernel
theorem dX12_bitsOf_7 : decode cX12_bitsOf 7 = .ok (.if_icmp .ge 17, 3) := by decide +kernel
theorem dX12_bitsOf_10 : decode cX12_bitsOf 10 = .ok (.iload_n 1, 1) := by decide +kernel
theorem dX12_bitsOf_11 : decode cX12_bitsOf 11 = .ok (.iload_n 0, 1) := by decide +kernel
theorem dX12_bitsOf_12 : decode cX12_bitsOf 12 = .ok (.iload_n 2, 1) := by decide +kernel
theorem dX12_bitsOf_13 : decode cX12_bitsOf 13 = .ok (.ishr, 1) := by decide +kernel
theorem dX12_bitsOf_14 : decode cX12_bitsOf 14 = .ok (.iconst 1, 1) := by decide +kernel
theorem dX12_bitsOf_15 : decode cX12_bitsOf 15 = .ok (.iand, 1) := by decide +kernel
theorem dX12_bitsOf_16 : decode cX12_bitsOf 16 = .ok (.iadd, 1) := by decide +kernel
theorem dX12_bitsOf_17 : decode cX12_bitsOf 17 = .ok (.istore_n 1, 1) := by decide +kernel
theorem dX12_bitsOf_18 : decode cX12_bitsOf 18 = .ok (.iinc 2 1, 3) := by decide +kernel
theorem dX12_bitsOf_21 : decode cX12_bitsOf 21 = .ok (.goto (-17), 3) := by decide +kernel
theorem dX12_bitsOf_24 : decode cX12_bitsOf 24 = .ok (.iload_n 1, 1) := by decide +kernel
theorem dX12_bitsOf_25 : decode cX12_bitsOf 25 = .ok (.ireturn, 1) := by decide +kernel
theorem dX12_isSheet_0 : decode cX12_isSheet 0 = .ok (.iload_n 0, 1) := by decide +kernel
theorem dX12_isSheet_1 : decode cX12_isSheet 1 = .ok (.iconst 0, 1) := by decide +kernel
theorem dX12_isSheet_2 : decode cX12_isSheet 2 = .ok (.iconst 3, 1) := by decide +kernel
theorem dX12_isSheet_3 : decode cX12_isSheet 3 = .ok (.invokestatic 79, 3) := by decide +kernel
theorem dX12_isSheet_6 : decode cX12_isSheet 6 = .ok (.ireturn, 1) := by decide +kernel
theorem dX12_isLane_0 : decode cX12_isLane 0 = .ok (.iload_n 0, 1) := by decide +kernel
theorem dX12_isLane_1 : decode cX12_isLane 1 = .ok (.iconst 0, 1) := by decide +kernel
theorem dX12_isLane_2 : decode cX12_isLane 2 = .ok (.iconst 2, 1) := by decide +kernel
theorem dX12_isLane_3 : decode cX12_isLane 3 = .ok (.invokestatic 79, 3) := by decide +kernel
theorem dX12_isLane_6 : decode cX12_isLane 6 = .ok (.ireturn, 1) := by decide +kernel
theorem dX12_against_0 : decode cX12_against 0 = .ok (.aload_n 0, 1) := by decide +kernel
theorem dX12_against_1 : decode cX12_against 1 = .ok (.getfield 9, 3) := by decide +kernel
theorem dX12_against_4 : decode cX12_against 4 = .ok (.iload_n 1, 1) := by decide +kernel
theorem dX12_against_5 : decode cX12_against 5 = .ok (.iaload, 1) := by decide +kernel
theorem dX12_against_6 : decode cX12_against 6 = .ok (.bipush (-9), 2) := by decide +kernel
theorem dX12_against_8 : decode cX12_against 8 = .ok (.if_icmp .eq 15, 3) := by decide +kernel
theorem dX12_against_11 : decode cX12_against 11 = .ok (.aload_n 0, 1) := by decide +kernel
theorem dX12_against_12 : decode cX12_against 12 = .ok (.getfield 9, 3) := by decide +kernel
theorem dX12_against_15 : decode cX12_against 15 = .ok (.iload_n 1, 1) := by decide +kernel
theorem dX12_against_16 : decode cX12_against 16 = .ok (.iaload, 1) := by decide +kernel
theorem dX12_against_17 : decode cX12_against 17 = .ok (.iload_n 2, 1) := by decide +kernel
theorem dX12_against_18 : decode cX12_against 18 = .ok (.if_icmp .eq 5, 3) := by decide +kernel
theorem dX12_against_21 : decode cX12_against 21 = .ok (.iconst 2, 1) := by decide +kernel
theorem dX12_against_22 : decode cX12_against 22 = .ok (.ireturn, 1) := by decide +kernel
theorem dX12_against_23 : decode cX12_against 23 = .ok (.aload_n 0, 1) := by decide +kernel
theorem dX12_against_24 : decode cX12_against 24 = .ok (.getfield 9, 3) := by decide +kernel
theorem dX12_against_27 : decode cX12_against 27 = .ok (.iload_n 1, 1) := by decide +kernel
theorem dX12_against_28 : decode cX12_against 28 = .ok (.iaload, 1) := by decide +kernel
theorem dX12_against_29 : decode cX12_against 29 = .ok (.bipush (-9), 2) := by decide +kernel
theorem dX12_against_31 : decode cX12_against 31 = .ok (.if_icmp .ne 5, 3) := by decide +kernel
theorem dX12_against_34 : decode cX12_against 34 = .ok (.iconst 1, 1) := by decide +kernel
theorem dX12_against_35 : decode cX12_against 35 = .ok (.ireturn, 1) := by decide +kernel
theorem dX12_against_36 : decode cX12_against 36 = .ok (.iload 4, 2) := by decide +kernel
theorem dX12_against_38 : decode cX12_against 38 = .ok (.ifCond .ge 5, 3) := by decide +kernel
theorem dX12_against_41 : decode cX12_against 41 = .ok (.iconst 4, 1) := by decide +kernel
theorem dX12_against_42 : decode cX12_against 42 = .ok (.ireturn, 1) := by decide +kernel
theorem dX12_against_43 : decode cX12_against 43 = .ok (.iload_n 3, 1) := by decide +kernel
theorem dX12_against_44 : decode cX12_against 44 = .ok (.ifCond .lt 26, 3) := by decide +kernel
theorem dX12_against_47 : decode cX12_against 47 = .ok (.iload_n 3, 1) := by decide +kernel
theorem dX12_against_48 : decode cX12_against 48 = .ok (.aload_n 0, 1) := by decide +kernel
theorem dX12_against_49 : decode cX12_against 49 = .ok (.getfield 13, 3) := by decide +kernel
theorem dX12_against_52 : decode cX12_against 52 = .ok (.iload_n 1, 1) := by decide +kernel
theorem dX12_against_53 : decode cX12_against 53 = .ok (.iaload, 1) := by decide +kernel
theorem dX12_against_54 : decode cX12_against 54 = .ok (.if_icmp .gt 16, 3) := by decide +kernel
theorem dX12_against_57 : decode cX12_against 57 = .ok (.iload 4, 2) := by decide +kernel
theorem dX12_against_59 : decode cX12_against 59 = .ok (.aload_n 0, 1) := by decide +kernel
theorem dX12_against_60 : decode cX12_against 60 = .ok (.getfield 13, 3) := by decide +kernel
theorem dX12_against_63 : decode cX12_against 63 = .ok (.iload_n 1, 1) := by decide +kernel
theorem dX12_against_64 : decode cX12_against 64 = .ok (.iaload, 1) := by decide +kernel
theorem dX12_against_65 : decode cX12_against 65 = .ok (.iload_n 3, 1) := by decide +kernel
theorem dX12_against_66 : decode cX12_against 66 = .ok (.isub, 1) := by decide +kernel
theorem dX12_against_67 : decode cX12_against 67 = .ok (.if_icmp .le 5, 3) := by decide +kernel
theorem dX12_against_70 : decode cX12_against 70 = .ok (.iconst 3, 1) := by decide +kernel
theorem dX12_against_71 : decode cX12_against 71 = .ok (.ireturn, 1) := by decide +kernel
theorem dX12_against_72 : decode cX12_against 72 = .ok (.iconst 0, 1) := by decide +kernel
theorem dX12_against_73 : decode cX12_against 73 = .ok (.ireturn, 1) := by decide +kernel
theorem dX12_isWork_0 : decode cX12_isWork 0 = .ok (.iload_n 1, 1) := by decide +kernel
theorem dX12_isWork_1 : decode cX12_isWork 1 = .ok (.ifCond .lt 15, 3) := by decide +kernel
theorem dX12_isWork_4 : decode cX12_isWork 4 = .ok (.iload_n 1, 1) := by decide +kernel
theorem dX12_isWork_5 : decode cX12_isWork 5 = .ok (.aload_n 0, 1) := by decide +kernel
theorem dX12_isWork_6 : decode cX12_isWork 6 = .ok (.getfield 83, 3) := by decide +kernel
theorem dX12_isWork_9 : decode cX12_isWork 9 = .ok (.if_icmp .ge 7, 3) := by decide +kernel
theorem dX12_isWork_12 : decode cX12_isWork 12 = .ok (.iconst 1, 1) := by decide +kernel
theorem dX12_isWork_13 : decode cX12_isWork 13 = .ok (.goto 4, 3) := by decide +kernel
theorem dX12_isWork_16 : decode cX12_isWork 16 = .ok (.iconst 0, 1) := by decide +kernel
theorem dX12_isWork_17 : decode cX12_isWork 17 = .ok (.ireturn, 1) := by decide +kernel
theorem dX12_all_0 : decode cX12_all 0 = .ok (.iconst 1, 1) := by decide +kernel
theorem dX12_all_1 : decode cX12_all 1 = .ok (.aload_n 0, 1) := by decide +kernel
theorem dX12_all_2 : decode cX12_all 2 = .ok (.getfield 83, 3) := by decide +kernel
theorem dX12_all_5 : decode cX12_all 5 = .ok (.ishl, 1) := by decide +kernel
theorem dX12_all_6 : decode cX12_all 6 = .ok (.iconst 1, 1) := by decide +kernel
theorem dX12_all_7 : decode cX12_all 7 = .ok (.isub, 1) := by decide +kernel
theorem dX12_all_8 : decode cX12_all 8 = .ok (.ireturn, 1) := by decide +kernel
theorem dX12_codeAt_0 : decode cX12_codeAt 0 = .ok (.aload_n 0, 1) := by decide +kernel
theorem dX12_codeAt_1 : decode cX12_codeAt 1 = .ok (.getfield 86, 3) := by decide +kernel
theorem dX12_codeAt_4 : decode cX12_codeAt 4 = .ok (.aload_n 0, 1) := by decide +kernel
theorem dX12_codeAt_5 : decode cX12_codeAt 5 = .ok (.getfield 89, 3) := by decide +kernel
theorem dX12_codeAt_8 : decode cX12_codeAt 8 = .ok (.if_icmp .ge 15, 3) := by decide +kernel
theorem dX12_codeAt_11 : decode cX12_codeAt 11 = .ok (.aload_n 0, 1) := by decide +kernel
theorem dX12_codeAt_12 : decode cX12_codeAt 12 = .ok (.getfield 16, 3) := by decide +kernel
theorem dX12_codeAt_15 : decode cX12_codeAt 15 = .ok (.aload_n 0, 1) := by decide +kernel
theorem dX12_codeAt_16 : decode cX12_codeAt 16 = .ok (.getfield 86, 3) := by decide +kernel
theorem dX12_codeAt_19 : decode cX12_codeAt 19 = .ok (.iaload, 1) := by decide +kernel
theorem dX12_codeAt_20 : decode cX12_codeAt 20 = .ok (.goto 5, 3) := by decide +kernel
theorem dX12_codeAt_23 : decode cX12_codeAt 23 = .ok (.bipush (-9), 2) := by decide +kernel
theorem dX12_codeAt_25 : decode cX12_codeAt 25 = .ok (.ireturn, 1) := by decide +kernel
theorem dX12_readsWork_0 : decode cX12_readsWork 0 = .ok (.iconst 0, 1) := by decide +kernel
theorem dX12_readsWork_1 : decode cX12_readsWork 1 = .ok (.istore_n 1, 1) := by decide +kernel
theorem dX12_readsWork_2 : decode cX12_readsWork 2 = .ok (.aload_n 0, 1) := by decide +kernel
theorem dX12_readsWork_3 : decode cX12_readsWork 3 = .ok (.invokevirtual 92, 3) := by decide +kernel
theorem dX12_readsWork_6 : decode cX12_readsWork 6 = .ok (.bipush 97, 2) := by decide +kernel
theorem dX12_readsWork_8 : decode cX12_readsWork 8 = .ok (.bipush 106, 2) := by decide +kernel
theorem dX12_readsWork_10 : decode cX12_readsWork 10 = .ok (.invokestatic 79, 3) := by decide +kernel
theorem dX12_readsWork_13 : decode cX12_readsWork 13 = .ok (.ifCond .eq 40, 3) := by decide +kernel
theorem dX12_readsWork_16 : decode cX12_readsWork 16 = .ok (.aload_n 0, 1) := by decide +kernel
theorem dX12_readsWork_17 : decode cX12_readsWork 17 = .ok (.invokevirtual 92, 3) := by decide +kernel
theorem dX12_readsWork_20 : decode cX12_readsWork 20 = .ok (.bipush 97, 2) := by decide +kernel
theorem dX12_readsWork_22 : decode cX12_readsWork 22 = .ok (.isub, 1) := by decide +kernel
theorem dX12_readsWork_23 : decode cX12_readsWork 23 = .ok (.istore_n 2, 1) := by decide +kernel
theorem dX12_readsWork_24 : decode cX12_readsWork 24 = .ok (.iload_n 1, 1) := by decide +kernel
theorem dX12_readsWork_25 : decode cX12_readsWork 25 = .ok (.iload_n 2, 1) := by decide +kernel
theorem dX12_readsWork_26 : decode cX12_readsWork 26 = .ok (.invokestatic 96, 3) := by decide +kernel
theorem dX12_readsWork_29 : decode cX12_readsWork 29 = .ok (.ifCond .eq 5, 3) := by decide +kernel
theorem dX12_readsWork_32 : decode cX12_readsWork 32 = .ok (.iconst 0, 1) := by decide +kernel
theorem dX12_readsWork_33 : decode cX12_readsWork 33 = .ok (.ireturn, 1) := by decide +kernel
theorem dX12_readsWork_34 : decode cX12_readsWork 34 = .ok (.iload_n 1, 1) := by decide +kernel
theorem dX12_readsWork_35 : decode cX12_readsWork 35 = .ok (.iconst 1, 1) := by decide +kernel
theorem dX12_readsWork_36 : decode cX12_readsWork 36 = .ok (.iload_n 2, 1) := by decide +kernel
theorem dX12_readsWork_37 : decode cX12_readsWork 37 = .ok (.ishl, 1) := by decide +kernel
theorem dX12_readsWork_38 : decode cX12_readsWork 38 = .ok (.ior, 1) := by decide +kernel
theorem dX12_readsWork_39 : decode cX12_readsWork 39 = .ok (.istore_n 1, 1) := by decide +kernel
theorem dX12_readsWork_40 : decode cX12_readsWork 40 = .ok (.aload_n 0, 1) := by decide +kernel
theorem dX12_readsWork_41 : decode cX12_readsWork 41 = .ok (.dup, 1) := by decide +kernel
theorem dX12_readsWork_42 : decode cX12_readsWork 42 = .ok (.getfield 86, 3) := by decide +kernel
theorem dX12_readsWork_45 : decode cX12_readsWork 45 = .ok (.iconst 1, 1) := by decide +kernel
theorem dX12_readsWork_46 : decode cX12_readsWork 46 = .ok (.iadd, 1) := by decide +kernel
theorem dX12_readsWork_47 : decode cX12_readsWork 47 = .ok (.putfield 86, 3) := by decide +kernel
theorem dX12_readsWork_50 : decode cX12_readsWork 50 = .ok (.goto (-48), 3) := by decide +kernel
theorem dX12_readsWork_53 : decode cX12_readsWork 53 = .ok (.iconst 0, 1) := by decide +kernel
theorem dX12_readsWork_54 : decode cX12_readsWork 54 = .ok (.istore_n 2, 1) := by decide +kernel
theorem dX12_readsWork_55 : decode cX12_readsWork 55 = .ok (.aload_n 0, 1) := by decide +kernel
theorem dX12_readsWork_56 : decode cX12_readsWork 56 = .ok (.invokevirtual 92, 3) := by decide +kernel
theorem dX12_readsWork_59 : decode cX12_readsWork 59 = .ok (.bipush 60, 2) := by decide +kernel
theorem dX12_readsWork_61 : decode cX12_readsWork 61 = .ok (.if_icmp .ne 64, 3) := by decide +kernel
theorem dX12_readsWork_64 : decode cX12_readsWork 64 = .ok (.aload_n 0, 1) := by decide +kernel
theorem dX12_readsWork_65 : decode cX12_readsWork 65 = .ok (.dup, 1) := by decide +kernel
theorem dX12_readsWork_66 : decode cX12_readsWork 66 = .ok (.getfield 86, 3) := by decide +kernel
theorem dX12_readsWork_69 : decode cX12_readsWork 69 = .ok (.iconst 1, 1) := by decide +kernel
theorem dX12_readsWork_70 : decode cX12_readsWork 70 = .ok (.iadd, 1) := by decide +kernel
theorem dX12_readsWork_71 : decode cX12_readsWork 71 = .ok (.putfield 86, 3) := by decide +kernel
theorem dX12_readsWork_74 : decode cX12_readsWork 74 = .ok (.aload_n 0, 1) := by decide +kernel
theorem dX12_readsWork_75 : decode cX12_readsWork 75 = .ok (.invokevirtual 92, 3) := by decide +kernel
theorem dX12_readsWork_78 : decode cX12_readsWork 78 = .ok (.bipush 48, 2) := by decide +kernel
theorem dX12_readsWork_80 : decode cX12_readsWork 80 = .ok (.isub, 1) := by decide +kernel
theorem dX12_readsWork_81 : decode cX12_readsWork 81 = .ok (.istore_n 3, 1) := by decide +kernel
theorem dX12_readsWork_82 : decode cX12_readsWork 82 = .ok (.iload_n 3, 1) := by decide +kernel
theorem dX12_readsWork_83 : decode cX12_readsWork 83 = .ok (.iconst 0, 1) := by decide +kernel
theorem dX12_readsWork_84 : decode cX12_readsWork 84 = .ok (.aload_n 0, 1) := by decide +kernel
theorem dX12_readsWork_85 : decode cX12_readsWork 85 = .ok (.getfield 100, 3) := by decide +kernel
theorem dX12_readsWork_88 : decode cX12_readsWork 88 = .ok (.iconst 1, 1) := by decide +kernel
theorem dX12_readsWork_89 : decode cX12_readsWork 89 = .ok (.isub, 1) := by decide +kernel
theorem dX12_readsWork_90 : decode cX12_readsWork 90 = .ok (.invokestatic 79, 3) := by decide +kernel
theorem dX12_readsWork_93 : decode cX12_readsWork 93 = .ok (.ifCond .eq 11, 3) := by decide +kernel
theorem dX12_readsWork_96 : decode cX12_readsWork 96 = .ok (.iload_n 2, 1) := by decide +kernel
theorem dX12_readsWork_97 : decode cX12_readsWork 97 = .ok (.iload_n 3, 1) := by decide +kernel
theorem dX12_readsWork_98 : decode cX12_readsWork 98 = .ok (.invokestatic 96, 3) := by decide +kernel
theorem dX12_readsWork_101 : decode cX12_readsWork 101 = .ok (.ifCond .eq 5, 3) := by decide +kernel
theorem dX12_readsWork_104 : decode cX12_readsWork 104 = .ok (.iconst 0, 1) := by decide +kernel
theorem dX12_readsWork_105 : decode cX12_readsWork 105 = .ok (.ireturn, 1) := by decide +kernel
theorem dX12_readsWork_106 : decode cX12_readsWork 106 = .ok (.iload_n 2, 1) := by decide +kernel
theorem dX12_readsWork_107 : decode cX12_readsWork 107 = .ok (.iconst 1, 1) := by decide +kernel
theorem dX12_readsWork_108 : decode cX12_readsWork 108 = .ok (.iload_n 3, 1) := by decide +kernel
theorem dX12_readsWork_109 : decode cX12_readsWork 109 = .ok (.ishl, 1) := by decide +kernel
theorem dX12_readsWork_110 : decode cX12_readsWork 110 = .ok (.ior, 1) := by decide +kernel
theorem dX12_readsWork_111 : decode cX12_readsWork 111 = .ok (.istore_n 2, 1) := by decide +kernel
theorem dX12_readsWork_112 : decode cX12_readsWork 112 = .ok (.aload_n 0, 1) := by decide +kernel
theorem dX12_readsWork_113 : decode cX12_readsWork 113 = .ok (.dup, 1) := by decide +kernel
theorem dX12_readsWork_114 : decode cX12_readsWork 114 = .ok (.getfield 86, 3) := by decide +kernel
theorem dX12_readsWork_117 : decode cX12_readsWork 117 = .ok (.iconst 1, 1) := by decide +kernel
theorem dX12_readsWork_118 : decode cX12_readsWork 118 = .ok (.iadd, 1) := by decide +kernel
theorem dX12_readsWork_119 : decode cX12_readsWork 119 = .ok (.putfield 86, 3) := by decide +kernel
theorem dX12_readsWork_122 : decode cX12_readsWork 122 = .ok (.goto (-67), 3) := by decide +kernel
theorem dX12_readsWork_125 : decode cX12_readsWork 125 = .ok (.aload_n 0, 1) := by decide +kernel
theorem dX12_readsWork_126 : decode cX12_readsWork 126 = .ok (.getfield 31, 3) := by decide +kernel
theorem dX12_readsWork_129 : decode cX12_readsWork 129 = .ok (.aload_n 0, 1) := by decide +kernel
theorem dX12_readsWork_130 : decode cX12_readsWork 130 = .ok (.getfield 100, 3) := by decide +kernel
theorem dX12_readsWork_133 : decode cX12_readsWork 133 = .ok (.iload_n 1, 1) := by decide +kernel
theorem dX12_readsWork_134 : decode cX12_readsWork 134 = .ok (.iastore, 1) := by decide +kernel
theorem dX12_readsWork_135 : decode cX12_readsWork 135 = .ok (.aload_n 0, 1) := by decide +kernel
theorem dX12_readsWork_136 : decode cX12_readsWork 136 = .ok (.getfield 34, 3) := by decide +kernel
theorem dX12_readsWork_139 : decode cX12_readsWork 139 = .ok (.aload_n 0, 1) := by decide +kernel
theorem dX12_readsWork_140 : decode cX12_readsWork 140 = .ok (.getfield 100, 3) := by decide +kernel
theorem dX12_readsWork_143 : decode cX12_readsWork 143 = .ok (.iload_n 2, 1) := by decide +kernel
theorem dX12_readsWork_144 : decode cX12_readsWork 144 = .ok (.iastore, 1) := by decide +kernel
theorem dX12_readsWork_145 : decode cX12_readsWork 145 = .ok (.aload_n 0, 1) := by decide +kernel
theorem dX12_readsWork_146 : decode cX12_readsWork 146 = .ok (.dup, 1) := by decide +kernel
theorem dX12_readsWork_147 : decode cX12_readsWork 147 = .ok (.getfield 100, 3) := by decide +kernel
theorem dX12_readsWork_150 : decode cX12_readsWork 150 = .ok (.iconst 1, 1) := by decide +kernel
theorem dX12_readsWork_151 : decode cX12_readsWork 151 = .ok (.iadd, 1) := by decide +kernel
theorem dX12_readsWork_152 : decode cX12_readsWork 152 = .ok (.putfield 100, 3) := by decide +kernel
theorem dX12_readsWork_155 : decode cX12_readsWork 155 = .ok (.iconst 1, 1) := by decide +kernel
theorem dX12_readsWork_156 : decode cX12_readsWork 156 = .ok (.ireturn, 1) := by decide +kernel
theorem dX12_readsSize_0 : decode cX12_readsSize 0 = .ok (.aload_n 0, 1) := by decide +kernel
theorem dX12_readsSize_1 : decode cX12_readsSize 1 = .ok (.invokevirtual 92, 3) := by decide +kernel
theorem dX12_readsSize_4 : decode cX12_readsSize 4 = .ok (.bipush 97, 2) := by decide +kernel
theorem dX12_readsSize_6 : decode cX12_readsSize 6 = .ok (.isub, 1) := by decide +kernel
theorem dX12_readsSize_7 : decode cX12_readsSize 7 = .ok (.istore_n 1, 1) := by decide +kernel
theorem dX12_readsSize_8 : decode cX12_readsSize 8 = .ok (.iload_n 1, 1) := by decide +kernel
theorem dX12_readsSize_9 : decode cX12_readsSize 9 = .ok (.iconst 0, 1) := by decide +kernel
theorem dX12_readsSize_10 : decode cX12_readsSize 10 = .ok (.bipush 9, 2) := by decide +kernel
theorem dX12_readsSize_12 : decode cX12_readsSize 12 = .ok (.invokestatic 79, 3) := by decide +kernel
theorem dX12_readsSize_15 : decode cX12_readsSize 15 = .ok (.ifCond .eq 14, 3) := by decide +kernel
theorem dX12_readsSize_18 : decode cX12_readsSize 18 = .ok (.aload_n 0, 1) := by decide +kernel
theorem dX12_readsSize_19 : decode cX12_readsSize 19 = .ok (.getfield 103, 3) := by decide +kernel
theorem dX12_readsSize_22 : decode cX12_readsSize 22 = .ok (.iload_n 1, 1) := by decide +kernel
theorem dX12_readsSize_23 : decode cX12_readsSize 23 = .ok (.invokestatic 96, 3) := by decide +kernel
theorem dX12_readsSize_26 : decode cX12_readsSize 26 = .ok (.ifCond .eq 5, 3) := by decide +kernel
theorem dX12_readsSize_29 : decode cX12_readsSize 29 = .ok (.iconst 0, 1) := by decide +kernel
theorem dX12_readsSize_30 : decode cX12_readsSize 30 = .ok (.ireturn, 1) := by decide +kernel
theorem dX12_readsSize_31 : decode cX12_readsSize 31 = .ok (.aload_n 0, 1) := by decide +kernel
theorem dX12_readsSize_32 : decode cX12_readsSize 32 = .ok (.dup, 1) := by decide +kernel
theorem dX12_readsSize_33 : decode cX12_readsSize 33 = .ok (.getfield 86, 3) := by decide +kernel
theorem dX12_readsSize_36 : decode cX12_readsSize 36 = .ok (.iconst 1, 1) := by decide +kernel
theorem dX12_readsSize_37 : decode cX12_readsSize 37 = .ok (.iadd, 1) := by decide +kernel
theorem dX12_readsSize_38 : decode cX12_readsSize 38 = .ok (.putfield 86, 3) := by decide +kernel
theorem dX12_readsSize_41 : decode cX12_readsSize 41 = .ok (.aload_n 0, 1) := by decide +kernel
theorem dX12_readsSize_42 : decode cX12_readsSize 42 = .ok (.invokevirtual 92, 3) := by decide +kernel
theorem dX12_readsSize_45 : decode cX12_readsSize 45 = .ok (.bipush 48, 2) := by decide +kernel
theorem dX12_readsSize_47 : decode cX12_readsSize 47 = .ok (.isub, 1) := by decide +kernel
theorem dX12_readsSize_48 : decode cX12_readsSize 48 = .ok (.istore_n 2, 1) := by decide +kernel
theorem dX12_readsSize_49 : decode cX12_readsSize 49 = .ok (.iload_n 2, 1) := by decide +kernel
theorem dX12_readsSize_50 : decode cX12_readsSize 50 = .ok (.iconst 1, 1) := by decide +kernel
theorem dX12_readsSize_51 : decode cX12_readsSize 51 = .ok (.bipush 9, 2) := by decide +kernel
theorem dX12_readsSize_53 : decode cX12_readsSize 53 = .ok (.invokestatic 79, 3) := by decide +kernel
theorem dX12_readsSize_56 : decode cX12_readsSize 56 = .ok (.ifCond .ne 5, 3) := by decide +kernel
theorem dX12_readsSize_59 : decode cX12_readsSize 59 = .ok (.iconst 0, 1) := by decide +kernel
theorem dX12_readsSize_60 : decode cX12_readsSize 60 = .ok (.ireturn, 1) := by decide +kernel
theorem dX12_readsSize_61 : decode cX12_readsSize 61 = .ok (.aload_n 0, 1) := by decide +kernel
theorem dX12_readsSize_62 : decode cX12_readsSize 62 = .ok (.dup, 1) := by decide +kernel
theorem dX12_readsSize_63 : decode cX12_readsSize 63 = .ok (.getfield 103, 3) := by decide +kernel
theorem dX12_readsSize_66 : decode cX12_readsSize 66 = .ok (.iconst 1, 1) := by decide +kernel
theorem dX12_readsSize_67 : decode cX12_readsSize 67 = .ok (.iload_n 1, 1) := by decide +kernel
theorem dX12_readsSize_68 : decode cX12_readsSize 68 = .ok (.ishl, 1) := by decide +kernel
theorem dX12_readsSize_69 : decode cX12_readsSize 69 = .ok (.ior, 1) := by decide +kernel
theorem dX12_readsSize_70 : decode cX12_readsSize 70 = .ok (.putfield 103, 3) := by decide +kernel
theorem dX12_readsSize_73 : decode cX12_readsSize 73 = .ok (.aload_n 0, 1) := by decide +kernel
theorem dX12_readsSize_74 : decode cX12_readsSize 74 = .ok (.getfield 37, 3) := by decide +kernel
theorem dX12_readsSize_77 : decode cX12_readsSize 77 = .ok (.iload_n 1, 1) := by decide +kernel
theorem dX12_readsSize_78 : decode cX12_readsSize 78 = .ok (.iload_n 2, 1) := by decide +kernel
theorem dX12_readsSize_79 : decode cX12_readsSize 79 = .ok (.iastore, 1) := by decide +kernel
theorem dX12_readsSize_80 : decode cX12_readsSize 80 = .ok (.aload_n 0, 1) := by decide +kernel
theorem dX12_readsSize_81 : decode cX12_readsSize 81 = .ok (.dup, 1) := by decide +kernel
theorem dX12_readsSize_82 : decode cX12_readsSize 82 = .ok (.getfield 86, 3) := by decide +kernel
theorem dX12_readsSize_85 : decode cX12_readsSize 85 = .ok (.iconst 1, 1) := by decide +kernel
theorem dX12_readsSize_86 : decode cX12_readsSize 86 = .ok (.iadd, 1) := by decide +kernel
theorem dX12_readsSize_87 : decode cX12_readsSize 87 = .ok (.putfield 86, 3) := by decide +kernel
theorem dX12_readsSize_90 : decode cX12_readsSize 90 = .ok (.iconst 1, 1) := by decide +kernel
theorem dX12_readsSize_91 : decode cX12_readsSize 91 = .ok (.ireturn, 1) := by decide +kernel
theorem dX12_readsAll_0 : decode cX12_readsAll 0 = .ok (.aload_n 0, 1) := by decide +kernel
theorem dX12_readsAll_1 : decode cX12_readsAll 1 = .ok (.iconst 0, 1) := by decide +kernel
theorem dX12_readsAll_2 : decode cX12_readsAll 2 = .ok (.putfield 100, 3) := by decide +kernel
theorem dX12_readsAll_5 : decode cX12_readsAll 5 = .ok (.aload_n 0, 1) := by decide +kernel
theorem dX12_readsAll_6 : decode cX12_readsAll 6 = .ok (.iconst 0, 1) := by decide +kernel
theorem dX12_readsAll_7 : decode cX12_readsAll 7 = .ok (.putfield 103, 3) := by decide +kernel
theorem dX12_readsAll_10 : decode cX12_readsAll 10 = .ok (.iconst 0, 1) := by decide +kernel
theorem dX12_readsAll_11 : decode cX12_readsAll 11 = .ok (.istore_n 1, 1) := by decide +kernel
theorem dX12_readsAll_12 : decode cX12_readsAll 12 = .ok (.aload_n 0, 1) := by decide +kernel
theorem dX12_readsAll_13 : decode cX12_readsAll 13 = .ok (.invokevirtual 92, 3) := by decide +kernel
theorem dX12_readsAll_16 : decode cX12_readsAll 16 = .ok (.istore_n 2, 1) := by decide +kernel
theorem dX12_readsAll_17 : decode cX12_readsAll 17 = .ok (.iload_n 2, 1) := by decide +kernel
theorem dX12_readsAll_18 : decode cX12_readsAll 18 = .ok (.bipush 119, 2) := by decide +kernel
theorem dX12_readsAll_20 : decode cX12_readsAll 20 = .ok (.if_icmp .ne 23, 3) := by decide +kernel
theorem dX12_readsAll_23 : decode cX12_readsAll 23 = .ok (.aload_n 0, 1) := by decide +kernel
theorem dX12_readsAll_24 : decode cX12_readsAll 24 = .ok (.getfield 103, 3) := by decide +kernel
theorem dX12_readsAll_27 : decode cX12_readsAll 27 = .ok (.ifCond .ne 16, 3) := by decide +kernel
theorem dX12_readsAll_30 : decode cX12_readsAll 30 = .ok (.aload_n 0, 1) := by decide +kernel
theorem dX12_readsAll_31 : decode cX12_readsAll 31 = .ok (.getfield 100, 3) := by decide +kernel
theorem dX12_readsAll_34 : decode cX12_readsAll 34 = .ok (.bipush 9, 2) := by decide +kernel
theorem dX12_readsAll_36 : decode cX12_readsAll 36 = .ok (.if_icmp .ge 7, 3) := by decide +kernel
theorem dX12_readsAll_39 : decode cX12_readsAll 39 = .ok (.iconst 1, 1) := by decide +kernel
theorem dX12_readsAll_40 : decode cX12_readsAll 40 = .ok (.goto 4, 3) := by decide +kernel
theorem dX12_readsAll_43 : decode cX12_readsAll 43 = .ok (.iconst 0, 1) := by decide +kernel
theorem dX12_readsAll_44 : decode cX12_readsAll 44 = .ok (.istore_n 3, 1) := by decide +kernel
theorem dX12_readsAll_45 : decode cX12_readsAll 45 = .ok (.iload_n 3, 1) := by decide +kernel
theorem dX12_readsAll_46 : decode cX12_readsAll 46 = .ok (.ifCond .ne 18, 3) := by decide +kernel
theorem dX12_readsAll_49 : decode cX12_readsAll 49 = .ok (.iload_n 2, 1) := by decide +kernel
theorem dX12_readsAll_50 : decode cX12_readsAll 50 = .ok (.bipush 115, 2) := by decide +kernel
theorem dX12_readsAll_52 : decode cX12_readsAll 52 = .ok (.if_icmp .ne 10, 3) := by decide +kernel
theorem dX12_readsAll_55 : decode cX12_readsAll 55 = .ok (.aload_n 0, 1) := by decide +kernel
theorem dX12_readsAll_56 : decode cX12_readsAll 56 = .ok (.getfield 100, 3) := by decide +kernel
theorem dX12_readsAll_59 : decode cX12_readsAll 59 = .ok (.ifCond .ne 5, 3) := by decide +kernel
theorem dX12_readsAll_62 : decode cX12_readsAll 62 = .ok (.iconst 0, 1) := by decide +kernel
theorem dX12_readsAll_63 : decode cX12_readsAll 63 = .ok (.ireturn, 1) := by decide +kernel
theorem dX12_readsAll_64 : decode cX12_readsAll 64 = .ok (.aload_n 0, 1) := by decide +kernel
theorem dX12_readsAll_65 : decode cX12_readsAll 65 = .ok (.dup, 1) := by decide +kernel
theorem dX12_readsAll_66 : decode cX12_readsAll 66 = .ok (.getfield 86, 3) := by decide +kernel
theorem dX12_readsAll_69 : decode cX12_readsAll 69 = .ok (.iconst 1, 1) := by decide +kernel
theorem dX12_readsAll_70 : decode cX12_readsAll 70 = .ok (.iadd, 1) := by decide +kernel
theorem dX12_readsAll_71 : decode cX12_readsAll 71 = .ok (.putfield 86, 3) := by decide +kernel
theorem dX12_readsAll_74 : decode cX12_readsAll 74 = .ok (.iload_n 3, 1) := by decide +kernel
theorem dX12_readsAll_75 : decode cX12_readsAll 75 = .ok (.ifCond .eq 13, 3) := by decide +kernel
theorem dX12_readsAll_78 : decode cX12_readsAll 78 = .ok (.aload_n 0, 1) := by decide +kernel
theorem dX12_readsAll_79 : decode cX12_readsAll 79 = .ok (.invokevirtual 106, 3) := by decide +kernel
theorem dX12_readsAll_82 : decode cX12_readsAll 82 = .ok (.ifCond .ne 15, 3) := by decide +kernel
theorem dX12_readsAll_85 : decode cX12_readsAll 85 = .ok (.goto 10, 3) := by decide +kernel
theorem dX12_readsAll_88 : decode cX12_readsAll 88 = .ok (.aload_n 0, 1) := by decide +kernel
theorem dX12_readsAll_89 : decode cX12_readsAll 89 = .ok (.invokevirtual 110, 3) := by decide +kernel
theorem dX12_readsAll_92 : decode cX12_readsAll 92 = .ok (.ifCond .ne 5, 3) := by decide +kernel
theorem dX12_readsAll_95 : decode cX12_readsAll 95 = .ok (.iconst 0, 1) := by decide +kernel
theorem dX12_readsAll_96 : decode cX12_readsAll 96 = .ok (.ireturn, 1) := by decide +kernel
theorem dX12_readsAll_97 : decode cX12_readsAll 97 = .ok (.iinc 1 1, 3) := by decide +kernel
theorem dX12_readsAll_100 : decode cX12_readsAll 100 = .ok (.aload_n 0, 1) := by decide +kernel
theorem dX12_readsAll_101 : decode cX12_readsAll 101 = .ok (.getfield 86, 3) := by decide +kernel
theorem dX12_readsAll_104 : decode cX12_readsAll 104 = .ok (.aload_n 0, 1) := by decide +kernel
theorem dX12_readsAll_105 : decode cX12_readsAll 105 = .ok (.getfield 89, 3) := by decide +kernel
theorem dX12_readsAll_108 : decode cX12_readsAll 108 = .ok (.if_icmp .ne 5, 3) := by decide +kernel
theorem dX12_readsAll_111 : decode cX12_readsAll 111 = .ok (.iconst 1, 1) := by decide +kernel
theorem dX12_readsAll_112 : decode cX12_readsAll 112 = .ok (.ireturn, 1) := by decide +kernel
theorem dX12_readsAll_113 : decode cX12_readsAll 113 = .ok (.aload_n 0, 1) := by decide +kernel
theorem dX12_readsAll_114 : decode cX12_readsAll 114 = .ok (.invokevirtual 92, 3) := by decide +kernel
theorem dX12_readsAll_117 : decode cX12_readsAll 117 = .ok (.bipush 59, 2) := by decide +kernel
theorem dX12_readsAll_119 : decode cX12_readsAll 119 = .ok (.if_icmp .ne 9, 3) := by decide +kernel
theorem dX12_readsAll_122 : decode cX12_readsAll 122 = .ok (.iload_n 1, 1) := by decide +kernel
theorem dX12_readsAll_123 : decode cX12_readsAll 123 = .ok (.bipush 12, 2) := by decide +kernel
theorem dX12_readsAll_125 : decode cX12_readsAll 125 = .ok (.if_icmp .ne 5, 3) := by decide +kernel
theorem dX12_readsAll_128 : decode cX12_readsAll 128 = .ok (.iconst 0, 1) := by decide +kernel
theorem dX12_readsAll_129 : decode cX12_readsAll 129 = .ok (.ireturn, 1) := by decide +kernel
theorem dX12_readsAll_130 : decode cX12_readsAll 130 = .ok (.aload_n 0, 1) := by decide +kernel
theorem dX12_readsAll_131 : decode cX12_readsAll 131 = .ok (.dup, 1) := by decide +kernel
theorem dX12_readsAll_132 : decode cX12_readsAll 132 = .ok (.getfield 86, 3) := by decide +kernel
theorem dX12_readsAll_135 : decode cX12_readsAll 135 = .ok (.iconst 1, 1) := by decide +kernel
theorem dX12_readsAll_136 : decode cX12_readsAll 136 = .ok (.iadd, 1) := by decide +kernel
theorem dX12_readsAll_137 : decode cX12_readsAll 137 = .ok (.putfield 86, 3) := by decide +kernel
theorem dX12_readsAll_140 : decode cX12_readsAll 140 = .ok (.goto (-128), 3) := by decide +kernel
theorem dX12_shop_0 : decode cX12_shop 0 = .ok (.aload_n 0, 1) := by decide +kernel
theorem dX12_shop_1 : decode cX12_shop 1 = .ok (.iconst 0, 1) := by decide +kernel
theorem dX12_shop_2 : decode cX12_shop 2 = .ok (.putfield 73, 3) := by decide +kernel
theorem dX12_shop_5 : decode cX12_shop 5 = .ok (.iload_n 1, 1) := by decide +kernel
theorem dX12_shop_6 : decode cX12_shop 6 = .ok (.invokestatic 113, 3) := by decide +kernel
theorem dX12_shop_9 : decode cX12_shop 9 = .ok (.ifCond .ne 5, 3) := by decide +kernel
theorem dX12_shop_12 : decode cX12_shop 12 = .ok (.iconst (-1), 1) := by decide +kernel
theorem dX12_shop_13 : decode cX12_shop 13 = .ok (.ireturn, 1) := by decide +kernel
theorem dX12_shop_14 : decode cX12_shop 14 = .ok (.iload_n 2, 1) := by decide +kernel
theorem dX12_shop_15 : decode cX12_shop 15 = .ok (.invokestatic 117, 3) := by decide +kernel
theorem dX12_shop_18 : decode cX12_shop 18 = .ok (.ifCond .ne 6, 3) := by decide +kernel
theorem dX12_shop_21 : decode cX12_shop 21 = .ok (.bipush (-2), 2) := by decide +kernel
theorem dX12_shop_23 : decode cX12_shop 23 = .ok (.ireturn, 1) := by decide +kernel
theorem dX12_shop_24 : decode cX12_shop 24 = .ok (.aload_n 0, 1) := by decide +kernel
theorem dX12_shop_25 : decode cX12_shop 25 = .ok (.iload_n 1, 1) := by decide +kernel
theorem dX12_shop_26 : decode cX12_shop 26 = .ok (.iload_n 2, 1) := by decide +kernel
theorem dX12_shop_27 : decode cX12_shop 27 = .ok (.iload_n 3, 1) := by decide +kernel
theorem dX12_shop_28 : decode cX12_shop 28 = .ok (.iload 4, 2) := by decide +kernel
theorem dX12_shop_30 : decode cX12_shop 30 = .ok (.invokevirtual 120, 3) := by decide +kernel
theorem dX12_shop_33 : decode cX12_shop 33 = .ok (.istore 5, 2) := by decide +kernel
theorem dX12_shop_35 : decode cX12_shop 35 = .ok (.iload 5, 2) := by decide +kernel
theorem dX12_shop_37 : decode cX12_shop 37 = .ok (.ifCond .eq 10, 3) := by decide +kernel
theorem dX12_shop_40 : decode cX12_shop 40 = .ok (.aload_n 0, 1) := by decide +kernel
theorem dX12_shop_41 : decode cX12_shop 41 = .ok (.iload 5, 2) := by decide +kernel
theorem dX12_shop_43 : decode cX12_shop 43 = .ok (.invokevirtual 124, 3) := by decide +kernel
theorem dX12_shop_46 : decode cX12_shop 46 = .ok (.ireturn, 1) := by decide +kernel
theorem dX12_shop_47 : decode cX12_shop 47 = .ok (.bipush 60, 2) := by decide +kernel
theorem dX12_shop_49 : decode cX12_shop 49 = .ok (.iload_n 1, 1) := by decide +kernel
theorem dX12_shop_50 : decode cX12_shop 50 = .ok (.imul, 1) := by decide +kernel
theorem dX12_shop_51 : decode cX12_shop 51 = .ok (.iload_n 3, 1) := by decide +kernel
theorem dX12_shop_52 : decode cX12_shop 52 = .ok (.iadd, 1) := by decide +kernel
theorem dX12_shop_53 : decode cX12_shop 53 = .ok (.istore 6, 2) := by decide +kernel
theorem dX12_shop_55 : decode cX12_shop 55 = .ok (.aload_n 0, 1) := by decide +kernel
theorem dX12_shop_56 : decode cX12_shop 56 = .ok (.iload 6, 2) := by decide +kernel
theorem dX12_shop_58 : decode cX12_shop 58 = .ok (.putfield 86, 3) := by decide +kernel
theorem dX12_shop_61 : decode cX12_shop 61 = .ok (.aload_n 0, 1) := by decide +kernel
theorem dX12_shop_62 : decode cX12_shop 62 = .ok (.iload 6, 2) := by decide +kernel
theorem dX12_shop_64 : decode cX12_shop 64 = .ok (.iload 4, 2) := by decide +kernel
theorem dX12_shop_66 : decode cX12_shop 66 = .ok (.iadd, 1) := by decide +kernel
theorem dX12_shop_67 : decode cX12_shop 67 = .ok (.putfield 89, 3) := by decide +kernel
theorem dX12_shop_70 : decode cX12_shop 70 = .ok (.aload_n 0, 1) := by decide +kernel
theorem dX12_shop_71 : decode cX12_shop 71 = .ok (.invokevirtual 128, 3) := by decide +kernel
theorem dX12_shop_74 : decode cX12_shop 74 = .ok (.ifCond .ne 14, 3) := by decide +kernel
theorem dX12_shop_77 : decode cX12_shop 77 = .ok (.bipush (-100), 2) := by decide +kernel
theorem dX12_shop_79 : decode cX12_shop 79 = .ok (.aload_n 0, 1) := by decide +kernel
theorem dX12_shop_80 : decode cX12_shop 80 = .ok (.getfield 86, 3) := by decide +kernel
theorem dX12_shop_83 : decode cX12_shop 83 = .ok (.iload 6, 2) := by decide +kernel
theorem dX12_shop_85 : decode cX12_shop 85 = .ok (.isub, 1) := by decide +kernel
theorem dX12_shop_86 : decode cX12_shop 86 = .ok (.isub, 1) := by decide +kernel
theorem dX12_shop_87 : decode cX12_shop 87 = .ok (.ireturn, 1) := by decide +kernel
theorem dX12_shop_88 : decode cX12_shop 88 = .ok (.aload_n 0, 1) := by decide +kernel
theorem dX12_shop_89 : decode cX12_shop 89 = .ok (.aload_n 0, 1) := by decide +kernel
theorem dX12_shop_90 : decode cX12_shop 90 = .ok (.getfield 100, 3) := by decide +kernel
theorem dX12_shop_93 : decode cX12_shop 93 = .ok (.putfield 83, 3) := by decide +kernel
theorem dX12_shop_96 : decode cX12_shop 96 = .ok (.iconst 0, 1) := by decide +kernel
theorem dX12_shop_97 : decode cX12_shop 97 = .ok (.istore 7, 2) := by decide +kernel
theorem dX12_shop_99 : decode cX12_shop 99 = .ok (.iload 7, 2) := by decide +kernel
theorem dX12_shop_101 : decode cX12_shop 101 = .ok (.aload_n 0, 1) := by decide +kernel
theorem dX12_shop_102 : decode cX12_shop 102 = .ok (.getfield 83, 3) := by decide +kernel
theorem dX12_shop_105 : decode cX12_shop 105 = .ok (.if_icmp .ge 37, 3) := by decide +kernel
theorem dX12_shop_108 : decode cX12_shop 108 = .ok (.aload_n 0, 1) := by decide +kernel
theorem dX12_shop_109 : decode cX12_shop 109 = .ok (.getfield 19, 3) := by decide +kernel
theorem dX12_shop_112 : decode cX12_shop 112 = .ok (.iload 7, 2) := by decide +kernel
theorem dX12_shop_114 : decode cX12_shop 114 = .ok (.aload_n 0, 1) := by decide +kernel
theorem dX12_shop_115 : decode cX12_shop 115 = .ok (.getfield 31, 3) := by decide +kernel
theorem dX12_shop_118 : decode cX12_shop 118 = .ok (.iload 7, 2) := by decide +kernel
theorem dX12_shop_120 : decode cX12_shop 120 = .ok (.iaload, 1) := by decide +kernel
theorem dX12_shop_121 : decode cX12_shop 121 = .ok (.iastore, 1) := by decide +kernel
theorem dX12_shop_122 : decode cX12_shop 122 = .ok (.aload_n 0, 1) := by decide +kernel
theorem dX12_shop_123 : decode cX12_shop 123 = .ok (.getfield 22, 3) := by decide +kernel
theorem dX12_shop_126 : decode cX12_shop 126 = .ok (.iload 7, 2) := by decide +kernel
theorem dX12_shop_128 : decode cX12_shop 128 = .ok (.aload_n 0, 1) := by decide +kernel
theorem dX12_shop_129 : decode cX12_shop 129 = .ok (.getfield 34, 3) := by decide +kernel
theorem dX12_shop_132 : decode cX12_shop 132 = .ok (.iload 7, 2) := by decide +kernel
theorem dX12_shop_134 : decode cX12_shop 134 = .ok (.iaload, 1) := by decide +kernel
theorem dX12_shop_135 : decode cX12_shop 135 = .ok (.iastore, 1) := by decide +kernel
theorem dX12_shop_136 : decode cX12_shop 136 = .ok (.iinc 7 1, 3) := by decide +kernel
theorem dX12_shop_139 : decode cX12_shop 139 = .ok (.goto (-40), 3) := by decide +kernel
theorem dX12_shop_142 : decode cX12_shop 142 = .ok (.iconst 0, 1) := by decide +kernel
theorem dX12_shop_143 : decode cX12_shop 143 = .ok (.istore 7, 2) := by decide +kernel
theorem dX12_shop_145 : decode cX12_shop 145 = .ok (.iload 7, 2) := by decide +kernel
theorem dX12_shop_147 : decode cX12_shop 147 = .ok (.bipush 10, 2) := by decide +kernel
theorem dX12_shop_149 : decode cX12_shop 149 = .ok (.if_icmp .ge 39, 3) := by decide +kernel
theorem dX12_shop_152 : decode cX12_shop 152 = .ok (.aload_n 0, 1) := by decide +kernel
theorem dX12_shop_153 : decode cX12_shop 153 = .ok (.getfield 25, 3) := by decide +kernel
theorem dX12_shop_156 : decode cX12_shop 156 = .ok (.iload 7, 2) := by decide +kernel
theorem dX12_shop_158 : decode cX12_shop 158 = .ok (.aload_n 0, 1) := by decide +kernel
theorem dX12_shop_159 : decode cX12_shop 159 = .ok (.getfield 103, 3) := by decide +kernel
theorem dX12_shop_162 : decode cX12_shop 162 = .ok (.iload 7, 2) := by decide +kernel
theorem dX12_shop_164 : decode cX12_shop 164 = .ok (.invokestatic 96, 3) := by decide +kernel
theorem dX12_shop_167 : decode cX12_shop 167 = .ok (.ifCond .eq 13, 3) := by decide +kernel
theorem dX12_shop_170 : decode cX12_shop 170 = .ok (.aload_n 0, 1) := by decide +kernel
theorem dX12_shop_171 : decode cX12_shop 171 = .ok (.getfield 37, 3) := by decide +kernel
theorem dX12_shop_174 : decode cX12_shop 174 = .ok (.iload 7, 2) := by decide +kernel
theorem dX12_shop_176 : decode cX12_shop 176 = .ok (.iaload, 1) := by decide +kernel
theorem dX12_shop_177 : decode cX12_shop 177 = .ok (.goto 4, 3) := by decide +kernel
theorem dX12_shop_180 : decode cX12_shop 180 = .ok (.iconst 1, 1) := by decide +kernel
theorem dX12_shop_181 : decode cX12_shop 181 = .ok (.iastore, 1) := by decide +kernel
theorem dX12_shop_182 : decode cX12_shop 182 = .ok (.iinc 7 1, 3) := by decide +kernel
theorem dX12_shop_185 : decode cX12_shop 185 = .ok (.goto (-40), 3) := by decide +kernel
theorem dX12_shop_188 : decode cX12_shop 188 = .ok (.aload_n 0, 1) := by decide +kernel
theorem dX12_shop_189 : decode cX12_shop 189 = .ok (.iconst 0, 1) := by decide +kernel
theorem dX12_shop_190 : decode cX12_shop 190 = .ok (.putfield 131, 3) := by decide +kernel
theorem dX12_shop_193 : decode cX12_shop 193 = .ok (.aload_n 0, 1) := by decide +kernel
theorem dX12_shop_194 : decode cX12_shop 194 = .ok (.getfield 83, 3) := by decide +kernel
theorem dX12_shop_197 : decode cX12_shop 197 = .ok (.ireturn, 1) := by decide +kernel
theorem dX12_work_0 : decode cX12_work 0 = .ok (.iload_n 1, 1) := by decide +kernel
theorem dX12_work_1 : decode cX12_work 1 = .ok (.iconst 0, 1) := by decide +kernel
theorem dX12_work_2 : decode cX12_work 2 = .ok (.sipush 1023, 3) := by decide +kernel
theorem dX12_work_5 : decode cX12_work 5 = .ok (.invokestatic 79, 3) := by decide +kernel
theorem dX12_work_8 : decode cX12_work 8 = .ok (.ifCond .eq 15, 3) := by decide +kernel
theorem dX12_work_11 : decode cX12_work 11 = .ok (.iload_n 2, 1) := by decide +kernel
theorem dX12_work_12 : decode cX12_work 12 = .ok (.iconst 0, 1) := by decide +kernel
theorem dX12_work_13 : decode cX12_work 13 = .ok (.aload_n 0, 1) := by decide +kernel
theorem dX12_work_14 : decode cX12_work 14 = .ok (.invokevirtual 134, 3) := by decide +kernel
theorem dX12_work_17 : decode cX12_work 17 = .ok (.invokestatic 79, 3) := by decide +kernel
theorem dX12_work_20 : decode cX12_work 20 = .ok (.ifCond .ne 6, 3) := by decide +kernel
theorem dX12_work_23 : decode cX12_work 23 = .ok (.bipush (-2), 2) := by decide +kernel
theorem dX12_work_25 : decode cX12_work 25 = .ok (.ireturn, 1) := by decide +kernel
theorem dX12_work_26 : decode cX12_work 26 = .ok (.aload_n 0, 1) := by decide +kernel
theorem dX12_work_27 : decode cX12_work 27 = .ok (.getfield 83, 3) := by decide +kernel
theorem dX12_work_30 : decode cX12_work 30 = .ok (.bipush 9, 2) := by decide +kernel
theorem dX12_work_32 : decode cX12_work 32 = .ok (.if_icmp .ne 6, 3) := by decide +kernel
theorem dX12_work_35 : decode cX12_work 35 = .ok (.bipush (-4), 2) := by decide +kernel
theorem dX12_work_37 : decode cX12_work 37 = .ok (.ireturn, 1) := by decide +kernel
theorem dX12_work_38 : decode cX12_work 38 = .ok (.aload_n 0, 1) := by decide +kernel
theorem dX12_work_39 : decode cX12_work 39 = .ok (.getfield 19, 3) := by decide +kernel
theorem dX12_work_42 : decode cX12_work 42 = .ok (.aload_n 0, 1) := by decide +kernel
theorem dX12_work_43 : decode cX12_work 43 = .ok (.getfield 83, 3) := by decide +kernel
theorem dX12_work_46 : decode cX12_work 46 = .ok (.iload_n 1, 1) := by decide +kernel
theorem dX12_work_47 : decode cX12_work 47 = .ok (.iastore, 1) := by decide +kernel
theorem dX12_work_48 : decode cX12_work 48 = .ok (.aload_n 0, 1) := by decide +kernel
theorem dX12_work_49 : decode cX12_work 49 = .ok (.getfield 22, 3) := by decide +kernel
theorem dX12_work_52 : decode cX12_work 52 = .ok (.aload_n 0, 1) := by decide +kernel
theorem dX12_work_53 : decode cX12_work 53 = .ok (.getfield 83, 3) := by decide +kernel
theorem dX12_work_56 : decode cX12_work 56 = .ok (.iload_n 2, 1) := by decide +kernel
theorem dX12_work_57 : decode cX12_work 57 = .ok (.iastore, 1) := by decide +kernel
theorem dX12_work_58 : decode cX12_work 58 = .ok (.aload_n 0, 1) := by decide +kernel
theorem dX12_work_59 : decode cX12_work 59 = .ok (.dup, 1) := by decide +kernel
theorem dX12_work_60 : decode cX12_work 60 = .ok (.getfield 83, 3) := by decide +kernel
theorem dX12_work_63 : decode cX12_work 63 = .ok (.iconst 1, 1) := by decide +kernel
theorem dX12_work_64 : decode cX12_work 64 = .ok (.iadd, 1) := by decide +kernel
theorem dX12_work_65 : decode cX12_work 65 = .ok (.putfield 83, 3) := by decide +kernel
theorem dX12_work_68 : decode cX12_work 68 = .ok (.aload_n 0, 1) := by decide +kernel
theorem dX12_work_69 : decode cX12_work 69 = .ok (.iconst 0, 1) := by decide +kernel
theorem dX12_work_70 : decode cX12_work 70 = .ok (.putfield 131, 3) := by decide +kernel
theorem dX12_work_73 : decode cX12_work 73 = .ok (.aload_n 0, 1) := by decide +kernel
theorem dX12_work_74 : decode cX12_work 74 = .ok (.getfield 83, 3) := by decide +kernel
theorem dX12_work_77 : decode cX12_work 77 = .ok (.iconst 1, 1) := by decide +kernel
theorem dX12_work_78 : decode cX12_work 78 = .ok (.isub, 1) := by decide +kernel
theorem dX12_work_79 : decode cX12_work 79 = .ok (.ireturn, 1) := by decide +kernel
theorem dX12_ofWork_0 : decode cX12_ofWork 0 = .ok (.aload_n 0, 1) := by decide +kernel
theorem dX12_ofWork_1 : decode cX12_ofWork 1 = .ok (.iload_n 1, 1) := by decide +kernel
theorem dX12_ofWork_2 : decode cX12_ofWork 2 = .ok (.invokevirtual 137, 3) := by decide +kernel
theorem dX12_ofWork_5 : decode cX12_ofWork 5 = .ok (.ifCond .ne 5, 3) := by decide +kernel
theorem dX12_ofWork_8 : decode cX12_ofWork 8 = .ok (.iconst (-1), 1) := by decide +kernel
theorem dX12_ofWork_9 : decode cX12_ofWork 9 = .ok (.ireturn, 1) := by decide +kernel
theorem dX12_ofWork_10 : decode cX12_ofWork 10 = .ok (.iload_n 2, 1) := by decide +kernel
theorem dX12_ofWork_11 : decode cX12_ofWork 11 = .ok (.ifCond .ne 12, 3) := by decide +kernel
theorem dX12_ofWork_14 : decode cX12_ofWork 14 = .ok (.aload_n 0, 1) := by decide +kernel
theorem dX12_ofWork_15 : decode cX12_ofWork 15 = .ok (.getfield 19, 3) := by decide +kernel
theorem dX12_ofWork_18 : decode cX12_ofWork 18 = .ok (.iload_n 1, 1) := by decide +kernel
theorem dX12_ofWork_19 : decode cX12_ofWork 19 = .ok (.iaload, 1) := by decide +kernel
theorem dX12_ofWork_20 : decode cX12_ofWork 20 = .ok (.goto 19, 3) := by decide +kernel
theorem dX12_ofWork_23 : decode cX12_ofWork 23 = .ok (.iload_n 2, 1) := by decide +kernel
theorem dX12_ofWork_24 : decode cX12_ofWork 24 = .ok (.iconst 1, 1) := by decide +kernel
theorem dX12_ofWork_25 : decode cX12_ofWork 25 = .ok (.if_icmp .ne 12, 3) := by decide +kernel
theorem dX12_ofWork_28 : decode cX12_ofWork 28 = .ok (.aload_n 0, 1) := by decide +kernel
theorem dX12_ofWork_29 : decode cX12_ofWork 29 = .ok (.getfield 22, 3) := by decide +kernel
theorem dX12_ofWork_32 : decode cX12_ofWork 32 = .ok (.iload_n 1, 1) := by decide +kernel
theorem dX12_ofWork_33 : decode cX12_ofWork 33 = .ok (.iaload, 1) := by decide +kernel
theorem dX12_ofWork_34 : decode cX12_ofWork 34 = .ok (.goto 5, 3) := by decide +kernel
theorem dX12_ofWork_37 : decode cX12_ofWork 37 = .ok (.bipush (-2), 2) := by decide +kernel
theorem dX12_ofWork_39 : decode cX12_ofWork 39 = .ok (.ireturn, 1) := by decide +kernel
theorem dX12_aheadOf_0 : decode cX12_aheadOf 0 = .ok (.aload_n 0, 1) := by decide +kernel
theorem dX12_aheadOf_1 : decode cX12_aheadOf 1 = .ok (.getfield 22, 3) := by decide +kernel
theorem dX12_aheadOf_4 : decode cX12_aheadOf 4 = .ok (.iload_n 1, 1) := by decide +kernel
theorem dX12_aheadOf_5 : decode cX12_aheadOf 5 = .ok (.iaload, 1) := by decide +kernel
theorem dX12_aheadOf_6 : decode cX12_aheadOf 6 = .ok (.istore_n 2, 1) := by decide +kernel
theorem dX12_aheadOf_7 : decode cX12_aheadOf 7 = .ok (.iconst 1, 1) := by decide +kernel
theorem dX12_aheadOf_8 : decode cX12_aheadOf 8 = .ok (.istore_n 3, 1) := by decide +kernel
theorem dX12_aheadOf_9 : decode cX12_aheadOf 9 = .ok (.iload_n 3, 1) := by decide +kernel
theorem dX12_aheadOf_10 : decode cX12_aheadOf 10 = .ok (.ifCond .eq 62, 3) := by decide +kernel
theorem dX12_aheadOf_13 : decode cX12_aheadOf 13 = .ok (.iload_n 2, 1) := by decide +kernel
theorem dX12_aheadOf_14 : decode cX12_aheadOf 14 = .ok (.istore 4, 2) := by decide +kernel
theorem dX12_aheadOf_16 : decode cX12_aheadOf 16 = .ok (.iconst 0, 1) := by decide +kernel
theorem dX12_aheadOf_17 : decode cX12_aheadOf 17 = .ok (.istore 5, 2) := by decide +kernel
theorem dX12_aheadOf_19 : decode cX12_aheadOf 19 = .ok (.iload 5, 2) := by decide +kernel
theorem dX12_aheadOf_21 : decode cX12_aheadOf 21 = .ok (.aload_n 0, 1) := by decide +kernel
theorem dX12_aheadOf_22 : decode cX12_aheadOf 22 = .ok (.getfield 83, 3) := by decide +kernel
theorem dX12_aheadOf_25 : decode cX12_aheadOf 25 = .ok (.if_icmp .ge 32, 3) := by decide +kernel
theorem dX12_aheadOf_28 : decode cX12_aheadOf 28 = .ok (.iload_n 2, 1) := by decide +kernel
theorem dX12_aheadOf_29 : decode cX12_aheadOf 29 = .ok (.iload_n 2, 1) := by decide +kernel
theorem dX12_aheadOf_30 : decode cX12_aheadOf 30 = .ok (.iload 5, 2) := by decide +kernel
theorem dX12_aheadOf_32 : decode cX12_aheadOf 32 = .ok (.invokestatic 96, 3) := by decide +kernel
theorem dX12_aheadOf_35 : decode cX12_aheadOf 35 = .ok (.ifCond .eq 13, 3) := by decide +kernel
theorem dX12_aheadOf_38 : decode cX12_aheadOf 38 = .ok (.aload_n 0, 1) := by decide +kernel
theorem dX12_aheadOf_39 : decode cX12_aheadOf 39 = .ok (.getfield 22, 3) := by decide +kernel
theorem dX12_aheadOf_42 : decode cX12_aheadOf 42 = .ok (.iload 5, 2) := by decide +kernel
theorem dX12_aheadOf_44 : decode cX12_aheadOf 44 = .ok (.iaload, 1) := by decide +kernel
theorem dX12_aheadOf_45 : decode cX12_aheadOf 45 = .ok (.goto 4, 3) := by decide +kernel
theorem dX12_aheadOf_48 : decode cX12_aheadOf 48 = .ok (.iconst 0, 1) := by decide +kernel
theorem dX12_aheadOf_49 : decode cX12_aheadOf 49 = .ok (.ior, 1) := by decide +kernel
theorem dX12_aheadOf_50 : decode cX12_aheadOf 50 = .ok (.istore_n 2, 1) := by decide +kernel
theorem dX12_aheadOf_51 : decode cX12_aheadOf 51 = .ok (.iinc 5 1, 3) := by decide +kernel
theorem dX12_aheadOf_54 : decode cX12_aheadOf 54 = .ok (.goto (-35), 3) := by decide +kernel
theorem dX12_aheadOf_57 : decode cX12_aheadOf 57 = .ok (.iload_n 2, 1) := by decide +kernel
theorem dX12_aheadOf_58 : decode cX12_aheadOf 58 = .ok (.iload 4, 2) := by decide +kernel
theorem dX12_aheadOf_60 : decode cX12_aheadOf 60 = .ok (.if_icmp .eq 7, 3) := by decide +kernel
theorem dX12_aheadOf_63 : decode cX12_aheadOf 63 = .ok (.iconst 1, 1) := by decide +kernel
theorem dX12_aheadOf_64 : decode cX12_aheadOf 64 = .ok (.goto 4, 3) := by decide +kernel
theorem dX12_aheadOf_67 : decode cX12_aheadOf 67 = .ok (.iconst 0, 1) := by decide +kernel
theorem dX12_aheadOf_68 : decode cX12_aheadOf 68 = .ok (.istore_n 3, 1) := by decide +kernel
theorem dX12_aheadOf_69 : decode cX12_aheadOf 69 = .ok (.goto (-60), 3) := by decide +kernel
theorem dX12_aheadOf_72 : decode cX12_aheadOf 72 = .ok (.iload_n 2, 1) := by decide +kernel
theorem dX12_aheadOf_73 : decode cX12_aheadOf 73 = .ok (.ireturn, 1) := by decide +kernel
theorem dX12_before_0 : decode cX12_before 0 = .ok (.aload_n 0, 1) := by decide +kernel
theorem dX12_before_1 : decode cX12_before 1 = .ok (.iload_n 1, 1) := by decide +kernel
theorem dX12_before_2 : decode cX12_before 2 = .ok (.invokevirtual 137, 3) := by decide +kernel
theorem dX12_before_5 : decode cX12_before 5 = .ok (.ifCond .eq 11, 3) := by decide +kernel
theorem dX12_before_8 : decode cX12_before 8 = .ok (.aload_n 0, 1) := by decide +kernel
theorem dX12_before_9 : decode cX12_before 9 = .ok (.iload_n 2, 1) := by decide +kernel
theorem dX12_before_10 : decode cX12_before 10 = .ok (.invokevirtual 137, 3) := by decide +kernel
theorem dX12_before_13 : decode cX12_before 13 = .ok (.ifCond .ne 5, 3) := by decide +kernel
theorem dX12_before_16 : decode cX12_before 16 = .ok (.iconst (-1), 1) := by decide +kernel
theorem dX12_before_17 : decode cX12_before 17 = .ok (.ireturn, 1) := by decide +kernel
theorem dX12_before_18 : decode cX12_before 18 = .ok (.iload_n 1, 1) := by decide +kernel
theorem dX12_before_19 : decode cX12_before 19 = .ok (.iload_n 2, 1) := by decide +kernel
theorem dX12_before_20 : decode cX12_before 20 = .ok (.if_icmp .ne 6, 3) := by decide +kernel
theorem dX12_before_23 : decode cX12_before 23 = .ok (.bipush (-2), 2) := by decide +kernel
theorem dX12_before_25 : decode cX12_before 25 = .ok (.ireturn, 1) := by decide +kernel
theorem dX12_before_26 : decode cX12_before 26 = .ok (.aload_n 0, 1) := by decide +kernel
theorem dX12_before_27 : decode cX12_before 27 = .ok (.getfield 22, 3) := by decide +kernel
theorem dX12_before_30 : decode cX12_before 30 = .ok (.iload_n 2, 1) := by decide +kernel
theorem dX12_before_31 : decode cX12_before 31 = .ok (.iaload, 1) := by decide +kernel
theorem dX12_before_32 : decode cX12_before 32 = .ok (.iload_n 1, 1) := by decide +kernel
theorem dX12_before_33 : decode cX12_before 33 = .ok (.invokestatic 96, 3) := by decide +kernel
theorem dX12_before_36 : decode cX12_before 36 = .ok (.iload_n 3, 1) := by decide +kernel
theorem dX12_before_37 : decode cX12_before 37 = .ok (.if_icmp .ne 5, 3) := by decide +kernel
theorem dX12_before_40 : decode cX12_before 40 = .ok (.iconst 0, 1) := by decide +kernel
theorem dX12_before_41 : decode cX12_before 41 = .ok (.ireturn, 1) := by decide +kernel
theorem dX12_before_42 : decode cX12_before 42 = .ok (.iload_n 3, 1) := by decide +kernel
theorem dX12_before_43 : decode cX12_before 43 = .ok (.ifCond .eq 18, 3) := by decide +kernel
theorem dX12_before_46 : decode cX12_before 46 = .ok (.aload_n 0, 1) := by decide +kernel
theorem dX12_before_47 : decode cX12_before 47 = .ok (.iload_n 1, 1) := by decide +kernel
theorem dX12_before_48 : decode cX12_before 48 = .ok (.invokevirtual 140, 3) := by decide +kernel
theorem dX12_before_51 : decode cX12_before 51 = .ok (.iload_n 2, 1) := by decide +kernel
theorem dX12_before_52 : decode cX12_before 52 = .ok (.invokestatic 96, 3) := by decide +kernel
theorem dX12_before_55 : decode cX12_before 55 = .ok (.ifCond .eq 6, 3) := by decide +kernel
theorem dX12_before_58 : decode cX12_before 58 = .ok (.bipush (-3), 2) := by decide +kernel
theorem dX12_before_60 : decode cX12_before 60 = .ok (.ireturn, 1) := by decide +kernel
theorem dX12_before_61 : decode cX12_before 61 = .ok (.aload_n 0, 1) := by decide +kernel
theorem dX12_before_62 : decode cX12_before 62 = .ok (.getfield 22, 3) := by decide +kernel
theorem dX12_before_65 : decode cX12_before 65 = .ok (.iload_n 2, 1) := by decide +kernel
theorem dX12_before_66 : decode cX12_before 66 = .ok (.iload_n 3, 1) := by decide +kernel
theorem dX12_before_67 : decode cX12_before 67 = .ok (.ifCond .eq 16, 3) := by decide +kernel
theorem dX12_before_70 : decode cX12_before 70 = .ok (.aload_n 0, 1) := by decide +kernel
theorem dX12_before_71 : decode cX12_before 71 = .ok (.getfield 22, 3) := by decide +kernel
theorem dX12_before_74 : decode cX12_before 74 = .ok (.iload_n 2, 1) := by decide +kernel
theorem dX12_before_75 : decode cX12_before 75 = .ok (.iaload, 1) := by decide +kernel
theorem dX12_before_76 : decode cX12_before 76 = .ok (.iconst 1, 1) := by decide +kernel
theorem dX12_before_77 : decode cX12_before 77 = .ok (.iload_n 1, 1) := by decide +kernel
theorem dX12_before_78 : decode cX12_before 78 = .ok (.ishl, 1) := by decide +kernel
theorem dX12_before_79 : decode cX12_before 79 = .ok (.ior, 1) := by decide +kernel
theorem dX12_before_80 : decode cX12_before 80 = .ok (.goto 15, 3) := by decide +kernel
theorem dX12_before_83 : decode cX12_before 83 = .ok (.aload_n 0, 1) := by decide +kernel
theorem dX12_before_84 : decode cX12_before 84 = .ok (.getfield 22, 3) := by decide +kernel
theorem dX12_before_87 : decode cX12_before 87 = .ok (.iload_n 2, 1) := by decide +kernel
theorem dX12_before_88 : decode cX12_before 88 = .ok (.iaload, 1) := by decide +kernel
theorem dX12_before_89 : decode cX12_before 89 = .ok (.iconst 1, 1) := by decide +kernel
theorem dX12_before_90 : decode cX12_before 90 = .ok (.iload_n 1, 1) := by decide +kernel
theorem dX12_before_91 : decode cX12_before 91 = .ok (.ishl, 1) := by decide +kernel
theorem dX12_before_92 : decode cX12_before 92 = .ok (.iconst (-1), 1) := by decide +kernel
theorem dX12_before_93 : decode cX12_before 93 = .ok (.ixor, 1) := by decide +kernel
theorem dX12_before_94 : decode cX12_before 94 = .ok (.iand, 1) := by decide +kernel
theorem dX12_before_95 : decode cX12_before 95 = .ok (.iastore, 1) := by decide +kernel
theorem dX12_before_96 : decode cX12_before 96 = .ok (.iconst 1, 1) := by decide +kernel
theorem dX12_before_97 : decode cX12_before 97 = .ok (.ireturn, 1) := by decide +kernel
theorem dX12_thing_0 : decode cX12_thing 0 = .ok (.iload_n 1, 1) := by decide +kernel
theorem dX12_thing_1 : decode cX12_thing 1 = .ok (.iconst 0, 1) := by decide +kernel
theorem dX12_thing_2 : decode cX12_thing 2 = .ok (.bipush 9, 2) := by decide +kernel
theorem dX12_thing_4 : decode cX12_thing 4 = .ok (.invokestatic 79, 3) := by decide +kernel
theorem dX12_thing_7 : decode cX12_thing 7 = .ok (.ifCond .ne 5, 3) := by decide +kernel
theorem dX12_thing_10 : decode cX12_thing 10 = .ok (.iconst (-1), 1) := by decide +kernel
theorem dX12_thing_11 : decode cX12_thing 11 = .ok (.ireturn, 1) := by decide +kernel
theorem dX12_thing_12 : decode cX12_thing 12 = .ok (.iload_n 2, 1) := by decide +kernel
theorem dX12_thing_13 : decode cX12_thing 13 = .ok (.iconst 0, 1) := by decide +kernel
theorem dX12_thing_14 : decode cX12_thing 14 = .ok (.iconst 1, 1) := by decide +kernel
theorem dX12_thing_15 : decode cX12_thing 15 = .ok (.invokestatic 79, 3) := by decide +kernel
theorem dX12_thing_18 : decode cX12_thing 18 = .ok (.ifCond .eq 30, 3) := by decide +kernel
theorem dX12_thing_21 : decode cX12_thing 21 = .ok (.iload_n 3, 1) := by decide +kernel
theorem dX12_thing_22 : decode cX12_thing 22 = .ok (.iload_n 2, 1) := by decide +kernel
theorem dX12_thing_23 : decode cX12_thing 23 = .ok (.ifCond .ne 7, 3) := by decide +kernel
theorem dX12_thing_26 : decode cX12_thing 26 = .ok (.iconst 1, 1) := by decide +kernel
theorem dX12_thing_27 : decode cX12_thing 27 = .ok (.goto 4, 3) := by decide +kernel
theorem dX12_thing_30 : decode cX12_thing 30 = .ok (.iconst 0, 1) := by decide +kernel
theorem dX12_thing_31 : decode cX12_thing 31 = .ok (.iload_n 2, 1) := by decide +kernel
theorem dX12_thing_32 : decode cX12_thing 32 = .ok (.ifCond .ne 8, 3) := by decide +kernel
theorem dX12_thing_35 : decode cX12_thing 35 = .ok (.bipush 9, 2) := by decide +kernel
theorem dX12_thing_37 : decode cX12_thing 37 = .ok (.goto 5, 3) := by decide +kernel
theorem dX12_thing_40 : decode cX12_thing 40 = .ok (.bipush 99, 2) := by decide +kernel
theorem dX12_thing_42 : decode cX12_thing 42 = .ok (.invokestatic 79, 3) := by decide +kernel
theorem dX12_thing_45 : decode cX12_thing 45 = .ok (.ifCond .ne 6, 3) := by decide +kernel
theorem dX12_thing_48 : decode cX12_thing 48 = .ok (.bipush (-2), 2) := by decide +kernel
theorem dX12_thing_50 : decode cX12_thing 50 = .ok (.ireturn, 1) := by decide +kernel
theorem dX12_thing_51 : decode cX12_thing 51 = .ok (.iload_n 2, 1) := by decide +kernel
theorem dX12_thing_52 : decode cX12_thing 52 = .ok (.ifCond .ne 12, 3) := by decide +kernel
theorem dX12_thing_55 : decode cX12_thing 55 = .ok (.aload_n 0, 1) := by decide +kernel
theorem dX12_thing_56 : decode cX12_thing 56 = .ok (.getfield 25, 3) := by decide +kernel
theorem dX12_thing_59 : decode cX12_thing 59 = .ok (.iload_n 1, 1) := by decide +kernel
theorem dX12_thing_60 : decode cX12_thing 60 = .ok (.iaload, 1) := by decide +kernel
theorem dX12_thing_61 : decode cX12_thing 61 = .ok (.goto 9, 3) := by decide +kernel
theorem dX12_thing_64 : decode cX12_thing 64 = .ok (.aload_n 0, 1) := by decide +kernel
theorem dX12_thing_65 : decode cX12_thing 65 = .ok (.getfield 28, 3) := by decide +kernel
theorem dX12_thing_68 : decode cX12_thing 68 = .ok (.iload_n 1, 1) := by decide +kernel
theorem dX12_thing_69 : decode cX12_thing 69 = .ok (.iaload, 1) := by decide +kernel
theorem dX12_thing_70 : decode cX12_thing 70 = .ok (.istore 4, 2) := by decide +kernel
theorem dX12_thing_72 : decode cX12_thing 72 = .ok (.iload_n 2, 1) := by decide +kernel
theorem dX12_thing_73 : decode cX12_thing 73 = .ok (.ifCond .ne 13, 3) := by decide +kernel
theorem dX12_thing_76 : decode cX12_thing 76 = .ok (.aload_n 0, 1) := by decide +kernel
theorem dX12_thing_77 : decode cX12_thing 77 = .ok (.getfield 25, 3) := by decide +kernel
theorem dX12_thing_80 : decode cX12_thing 80 = .ok (.iload_n 1, 1) := by decide +kernel
theorem dX12_thing_81 : decode cX12_thing 81 = .ok (.iload_n 3, 1) := by decide +kernel
theorem dX12_thing_82 : decode cX12_thing 82 = .ok (.iastore, 1) := by decide +kernel
theorem dX12_thing_83 : decode cX12_thing 83 = .ok (.goto 10, 3) := by decide +kernel
theorem dX12_thing_86 : decode cX12_thing 86 = .ok (.aload_n 0, 1) := by decide +kernel
theorem dX12_thing_87 : decode cX12_thing 87 = .ok (.getfield 28, 3) := by decide +kernel
theorem dX12_thing_90 : decode cX12_thing 90 = .ok (.iload_n 1, 1) := by decide +kernel
theorem dX12_thing_91 : decode cX12_thing 91 = .ok (.iload_n 3, 1) := by decide +kernel
theorem dX12_thing_92 : decode cX12_thing 92 = .ok (.iastore, 1) := by decide +kernel
theorem dX12_thing_93 : decode cX12_thing 93 = .ok (.iload 4, 2) := by decide +kernel
theorem dX12_thing_95 : decode cX12_thing 95 = .ok (.ireturn, 1) := by decide +kernel
theorem dX12_sizeOf_0 : decode cX12_sizeOf 0 = .ok (.iconst 0, 1) := by decide +kernel
theorem dX12_sizeOf_1 : decode cX12_sizeOf 1 = .ok (.istore_n 2, 1) := by decide +kernel
theorem dX12_sizeOf_2 : decode cX12_sizeOf 2 = .ok (.iconst 0, 1) := by decide +kernel
theorem dX12_sizeOf_3 : decode cX12_sizeOf 3 = .ok (.istore_n 3, 1) := by decide +kernel
theorem dX12_sizeOf_4 : decode cX12_sizeOf 4 = .ok (.iload_n 3, 1) := by decide +kernel
theorem dX12_sizeOf_5 : decode cX12_sizeOf 5 = .ok (.bipush 10, 2) := by decide +kernel
theorem dX12_sizeOf_7 : decode cX12_sizeOf 7 = .ok (.if_icmp .ge 30, 3) := by decide +kernel
theorem dX12_sizeOf_10 : decode cX12_sizeOf 10 = .ok (.iload_n 2, 1) := by decide +kernel
theorem dX12_sizeOf_11 : decode cX12_sizeOf 11 = .ok (.iload_n 1, 1) := by decide +kernel
theorem dX12_sizeOf_12 : decode cX12_sizeOf 12 = .ok (.iload_n 3, 1) := by decide +kernel
theorem dX12_sizeOf_13 : decode cX12_sizeOf 13 = .ok (.invokestatic 96, 3) := by decide +kernel
theorem dX12_sizeOf_16 : decode cX12_sizeOf 16 = .ok (.ifCond .eq 12, 3) := by decide +kernel
theorem dX12_sizeOf_19 : decode cX12_sizeOf 19 = .ok (.aload_n 0, 1) := by decide +kernel
theorem dX12_sizeOf_20 : decode cX12_sizeOf 20 = .ok (.getfield 25, 3) := by decide +kernel
theorem dX12_sizeOf_23 : decode cX12_sizeOf 23 = .ok (.iload_n 3, 1) := by decide +kernel
theorem dX12_sizeOf_24 : decode cX12_sizeOf 24 = .ok (.iaload, 1) := by decide +kernel
theorem dX12_sizeOf_25 : decode cX12_sizeOf 25 = .ok (.goto 4, 3) := by decide +kernel
theorem dX12_sizeOf_28 : decode cX12_sizeOf 28 = .ok (.iconst 0, 1) := by decide +kernel
theorem dX12_sizeOf_29 : decode cX12_sizeOf 29 = .ok (.iadd, 1) := by decide +kernel
theorem dX12_sizeOf_30 : decode cX12_sizeOf 30 = .ok (.istore_n 2, 1) := by decide +kernel
theorem dX12_sizeOf_31 : decode cX12_sizeOf 31 = .ok (.iinc 3 1, 3) := by decide +kernel
theorem dX12_sizeOf_34 : decode cX12_sizeOf 34 = .ok (.goto (-30), 3) := by decide +kernel
theorem dX12_sizeOf_37 : decode cX12_sizeOf 37 = .ok (.iload_n 2, 1) := by decide +kernel
theorem dX12_sizeOf_38 : decode cX12_sizeOf 38 = .ok (.ireturn, 1) := by decide +kernel
theorem dX12_needsOf_0 : decode cX12_needsOf 0 = .ok (.iconst 0, 1) := by decide +kernel
theorem dX12_needsOf_1 : decode cX12_needsOf 1 = .ok (.istore_n 2, 1) := by decide +kernel
theorem dX12_needsOf_2 : decode cX12_needsOf 2 = .ok (.iconst 0, 1) := by decide +kernel
theorem dX12_needsOf_3 : decode cX12_needsOf 3 = .ok (.istore_n 3, 1) := by decide +kernel
theorem dX12_needsOf_4 : decode cX12_needsOf 4 = .ok (.iload_n 3, 1) := by decide +kernel
theorem dX12_needsOf_5 : decode cX12_needsOf 5 = .ok (.aload_n 0, 1) := by decide +kernel
theorem dX12_needsOf_6 : decode cX12_needsOf 6 = .ok (.getfield 83, 3) := by decide +kernel
theorem dX12_needsOf_9 : decode cX12_needsOf 9 = .ok (.if_icmp .ge 30, 3) := by decide +kernel
theorem dX12_needsOf_12 : decode cX12_needsOf 12 = .ok (.iload_n 2, 1) := by decide +kernel
theorem dX12_needsOf_13 : decode cX12_needsOf 13 = .ok (.iload_n 1, 1) := by decide +kernel
theorem dX12_needsOf_14 : decode cX12_needsOf 14 = .ok (.iload_n 3, 1) := by decide +kernel
theorem dX12_needsOf_15 : decode cX12_needsOf 15 = .ok (.invokestatic 96, 3) := by decide +kernel
theorem dX12_needsOf_18 : decode cX12_needsOf 18 = .ok (.ifCond .eq 12, 3) := by decide +kernel
theorem dX12_needsOf_21 : decode cX12_needsOf 21 = .ok (.aload_n 0, 1) := by decide +kernel
theorem dX12_needsOf_22 : decode cX12_needsOf 22 = .ok (.getfield 19, 3) := by decide +kernel
theorem dX12_needsOf_25 : decode cX12_needsOf 25 = .ok (.iload_n 3, 1) := by decide +kernel
theorem dX12_needsOf_26 : decode cX12_needsOf 26 = .ok (.iaload, 1) := by decide +kernel
theorem dX12_needsOf_27 : decode cX12_needsOf 27 = .ok (.goto 4, 3) := by decide +kernel
theorem dX12_needsOf_30 : decode cX12_needsOf 30 = .ok (.iconst 0, 1) := by decide +kernel
theorem dX12_needsOf_31 : decode cX12_needsOf 31 = .ok (.ior, 1) := by decide +kernel
theorem dX12_needsOf_32 : decode cX12_needsOf 32 = .ok (.istore_n 2, 1) := by decide +kernel
theorem dX12_needsOf_33 : decode cX12_needsOf 33 = .ok (.iinc 3 1, 3) := by decide +kernel
theorem dX12_needsOf_36 : decode cX12_needsOf 36 = .ok (.goto (-32), 3) := by decide +kernel
theorem dX12_needsOf_39 : decode cX12_needsOf 39 = .ok (.iload_n 2, 1) := by decide +kernel
theorem dX12_needsOf_40 : decode cX12_needsOf 40 = .ok (.ireturn, 1) := by decide +kernel
theorem dX12_isOrder_0 : decode cX12_isOrder 0 = .ok (.iload_n 1, 1) := by decide +kernel
theorem dX12_isOrder_1 : decode cX12_isOrder 1 = .ok (.ifCond .lt 15, 3) := by decide +kernel
theorem dX12_isOrder_4 : decode cX12_isOrder 4 = .ok (.iload_n 1, 1) := by decide +kernel
theorem dX12_isOrder_5 : decode cX12_isOrder 5 = .ok (.aload_n 0, 1) := by decide +kernel
theorem dX12_isOrder_6 : decode cX12_isOrder 6 = .ok (.getfield 131, 3) := by decide +kernel
theorem dX12_isOrder_9 : decode cX12_isOrder 9 = .ok (.if_icmp .ge 7, 3) := by decide +kernel
theorem dX12_isOrder_12 : decode cX12_isOrder 12 = .ok (.iconst 1, 1) := by decide +kernel
theorem dX12_isOrder_13 : decode cX12_isOrder 13 = .ok (.goto 4, 3) := by decide +kernel
theorem dX12_isOrder_16 : decode cX12_isOrder 16 = .ok (.iconst 0, 1) := by decide +kernel
theorem dX12_isOrder_17 : decode cX12_isOrder 17 = .ok (.ireturn, 1) := by decide +kernel
theorem dX12_lookAt_0 : decode cX12_lookAt 0 = .ok (.iconst 0, 1) := by decide +kernel
theorem dX12_lookAt_1 : decode cX12_lookAt 1 = .ok (.istore_n 2, 1) := by decide +kernel
theorem dX12_lookAt_2 : decode cX12_lookAt 2 = .ok (.iload_n 2, 1) := by decide +kernel
theorem dX12_lookAt_3 : decode cX12_lookAt 3 = .ok (.aload_n 0, 1) := by decide +kernel
theorem dX12_lookAt_4 : decode cX12_lookAt 4 = .ok (.getfield 83, 3) := by decide +kernel
theorem dX12_lookAt_7 : decode cX12_lookAt 7 = .ok (.if_icmp .ge 26, 3) := by decide +kernel
theorem dX12_lookAt_10 : decode cX12_lookAt 10 = .ok (.aload_n 0, 1) := by decide +kernel
theorem dX12_lookAt_11 : decode cX12_lookAt 11 = .ok (.getfield 46, 3) := by decide +kernel
theorem dX12_lookAt_14 : decode cX12_lookAt 14 = .ok (.iload_n 2, 1) := by decide +kernel
theorem dX12_lookAt_15 : decode cX12_lookAt 15 = .ok (.aload_n 0, 1) := by decide +kernel
theorem dX12_lookAt_16 : decode cX12_lookAt 16 = .ok (.getfield 43, 3) := by decide +kernel
theorem dX12_lookAt_19 : decode cX12_lookAt 19 = .ok (.bipush 9, 2) := by decide +kernel
theorem dX12_lookAt_21 : decode cX12_lookAt 21 = .ok (.iload_n 1, 1) := by decide +kernel
theorem dX12_lookAt_22 : decode cX12_lookAt 22 = .ok (.imul, 1) := by decide +kernel
theorem dX12_lookAt_23 : decode cX12_lookAt 23 = .ok (.iload_n 2, 1) := by decide +kernel
theorem dX12_lookAt_24 : decode cX12_lookAt 24 = .ok (.iadd, 1) := by decide +kernel
theorem dX12_lookAt_25 : decode cX12_lookAt 25 = .ok (.iaload, 1) := by decide +kernel
theorem dX12_lookAt_26 : decode cX12_lookAt 26 = .ok (.iastore, 1) := by decide +kernel
theorem dX12_lookAt_27 : decode cX12_lookAt 27 = .ok (.iinc 2 1, 3) := by decide +kernel
theorem dX12_lookAt_30 : decode cX12_lookAt 30 = .ok (.goto (-28), 3) := by decide +kernel
theorem dX12_lookAt_33 : decode cX12_lookAt 33 = .ok (.return_, 1) := by decide +kernel
theorem dX12_isLawful_0 : decode cX12_isLawful 0 = .ok (.iconst 0, 1) := by decide +kernel
theorem dX12_isLawful_1 : decode cX12_isLawful 1 = .ok (.istore_n 2, 1) := by decide +kernel
theorem dX12_isLawful_2 : decode cX12_isLawful 2 = .ok (.iconst 0, 1) := by decide +kernel
theorem dX12_isLawful_3 : decode cX12_isLawful 3 = .ok (.istore_n 3, 1) := by decide +kernel
theorem dX12_isLawful_4 : decode cX12_isLawful 4 = .ok (.iload_n 3, 1) := by decide +kernel
theorem dX12_isLawful_5 : decode cX12_isLawful 5 = .ok (.aload_n 0, 1) := by decide +kernel
theorem dX12_isLawful_6 : decode cX12_isLawful 6 = .ok (.getfield 83, 3) := by decide +kernel
theorem dX12_isLawful_9 : decode cX12_isLawful 9 = .ok (.if_icmp .ge 34, 3) := by decide +kernel
theorem dX12_isLawful_12 : decode cX12_isLawful 12 = .ok (.aload_n 0, 1) := by decide +kernel
theorem dX12_isLawful_13 : decode cX12_isLawful 13 = .ok (.getfield 22, 3) := by decide +kernel
theorem dX12_isLawful_16 : decode cX12_isLawful 16 = .ok (.aload_n 1, 1) := by decide +kernel
theorem dX12_isLawful_17 : decode cX12_isLawful 17 = .ok (.iload_n 3, 1) := by decide +kernel
theorem dX12_isLawful_18 : decode cX12_isLawful 18 = .ok (.iaload, 1) := by decide +kernel
theorem dX12_isLawful_19 : decode cX12_isLawful 19 = .ok (.iaload, 1) := by decide +kernel
theorem dX12_isLawful_20 : decode cX12_isLawful 20 = .ok (.iload_n 2, 1) := by decide +kernel
theorem dX12_isLawful_21 : decode cX12_isLawful 21 = .ok (.iconst (-1), 1) := by decide +kernel
theorem dX12_isLawful_22 : decode cX12_isLawful 22 = .ok (.ixor, 1) := by decide +kernel
theorem dX12_isLawful_23 : decode cX12_isLawful 23 = .ok (.iand, 1) := by decide +kernel
theorem dX12_isLawful_24 : decode cX12_isLawful 24 = .ok (.ifCond .eq 5, 3) := by decide +kernel
theorem dX12_isLawful_27 : decode cX12_isLawful 27 = .ok (.iconst 0, 1) := by decide +kernel
theorem dX12_isLawful_28 : decode cX12_isLawful 28 = .ok (.ireturn, 1) := by decide +kernel
theorem dX12_isLawful_29 : decode cX12_isLawful 29 = .ok (.iload_n 2, 1) := by decide +kernel
theorem dX12_isLawful_30 : decode cX12_isLawful 30 = .ok (.iconst 1, 1) := by decide +kernel
theorem dX12_isLawful_31 : decode cX12_isLawful 31 = .ok (.aload_n 1, 1) := by decide +kernel
theorem dX12_isLawful_32 : decode cX12_isLawful 32 = .ok (.iload_n 3, 1) := by decide +kernel
theorem dX12_isLawful_33 : decode cX12_isLawful 33 = .ok (.iaload, 1) := by decide +kernel
theorem dX12_isLawful_34 : decode cX12_isLawful 34 = .ok (.ishl, 1) := by decide +kernel
theorem dX12_isLawful_35 : decode cX12_isLawful 35 = .ok (.ior, 1) := by decide +kernel
theorem dX12_isLawful_36 : decode cX12_isLawful 36 = .ok (.istore_n 2, 1) := by decide +kernel
theorem dX12_isLawful_37 : decode cX12_isLawful 37 = .ok (.iinc 3 1, 3) := by decide +kernel
theorem dX12_isLawful_40 : decode cX12_isLawful 40 = .ok (.goto (-36), 3) := by decide +kernel
theorem dX12_isLawful_43 : decode cX12_isLawful 43 = .ok (.iconst 1, 1) := by decide +kernel
theorem dX12_isLawful_44 : decode cX12_isLawful 44 = .ok (.ireturn, 1) := by decide +kernel
theorem dX12_openAt_0 : decode cX12_openAt 0 = .ok (.iconst 0, 1) := by decide +kernel
theorem dX12_openAt_1 : decode cX12_openAt 1 = .ok (.istore_n 3, 1) := by decide +kernel
theorem dX12_openAt_2 : decode cX12_openAt 2 = .ok (.iconst 0, 1) := by decide +kernel
theorem dX12_openAt_3 : decode cX12_openAt 3 = .ok (.istore 4, 2) := by decide +kernel
theorem dX12_openAt_5 : decode cX12_openAt 5 = .ok (.iconst 0, 1) := by decide +kernel
theorem dX12_openAt_6 : decode cX12_openAt 6 = .ok (.istore 5, 2) := by decide +kernel
theorem dX12_openAt_8 : decode cX12_openAt 8 = .ok (.iload 5, 2) := by decide +kernel
theorem dX12_openAt_10 : decode cX12_openAt 10 = .ok (.aload_n 0, 1) := by decide +kernel
theorem dX12_openAt_11 : decode cX12_openAt 11 = .ok (.getfield 83, 3) := by decide +kernel
theorem dX12_openAt_14 : decode cX12_openAt 14 = .ok (.if_icmp .ge 55, 3) := by decide +kernel
theorem dX12_openAt_17 : decode cX12_openAt 17 = .ok (.iload_n 3, 1) := by decide +kernel
theorem dX12_openAt_18 : decode cX12_openAt 18 = .ok (.iload 5, 2) := by decide +kernel
theorem dX12_openAt_20 : decode cX12_openAt 20 = .ok (.iload_n 2, 1) := by decide +kernel
theorem dX12_openAt_21 : decode cX12_openAt 21 = .ok (.if_icmp .gt 15, 3) := by decide +kernel
theorem dX12_openAt_24 : decode cX12_openAt 24 = .ok (.aload_n 0, 1) := by decide +kernel
theorem dX12_openAt_25 : decode cX12_openAt 25 = .ok (.getfield 19, 3) := by decide +kernel
theorem dX12_openAt_28 : decode cX12_openAt 28 = .ok (.aload_n 1, 1) := by decide +kernel
theorem dX12_openAt_29 : decode cX12_openAt 29 = .ok (.iload 5, 2) := by decide +kernel
theorem dX12_openAt_31 : decode cX12_openAt 31 = .ok (.iaload, 1) := by decide +kernel
theorem dX12_openAt_32 : decode cX12_openAt 32 = .ok (.iaload, 1) := by decide +kernel
theorem dX12_openAt_33 : decode cX12_openAt 33 = .ok (.goto 4, 3) := by decide +kernel
theorem dX12_openAt_36 : decode cX12_openAt 36 = .ok (.iconst 0, 1) := by decide +kernel
theorem dX12_openAt_37 : decode cX12_openAt 37 = .ok (.ior, 1) := by decide +kernel
theorem dX12_openAt_38 : decode cX12_openAt 38 = .ok (.istore_n 3, 1) := by decide +kernel
theorem dX12_openAt_39 : decode cX12_openAt 39 = .ok (.iload 4, 2) := by decide +kernel
theorem dX12_openAt_41 : decode cX12_openAt 41 = .ok (.iload 5, 2) := by decide +kernel
theorem dX12_openAt_43 : decode cX12_openAt 43 = .ok (.iload_n 2, 1) := by decide +kernel
theorem dX12_openAt_44 : decode cX12_openAt 44 = .ok (.if_icmp .lt 15, 3) := by decide +kernel
theorem dX12_openAt_47 : decode cX12_openAt 47 = .ok (.aload_n 0, 1) := by decide +kernel
theorem dX12_openAt_48 : decode cX12_openAt 48 = .ok (.getfield 19, 3) := by decide +kernel
theorem dX12_openAt_51 : decode cX12_openAt 51 = .ok (.aload_n 1, 1) := by decide +kernel
theorem dX12_openAt_52 : decode cX12_openAt 52 = .ok (.iload 5, 2) := by decide +kernel
theorem dX12_openAt_54 : decode cX12_openAt 54 = .ok (.iaload, 1) := by decide +kernel
theorem dX12_openAt_55 : decode cX12_openAt 55 = .ok (.iaload, 1) := by decide +kernel
theorem dX12_openAt_56 : decode cX12_openAt 56 = .ok (.goto 4, 3) := by decide +kernel
theorem dX12_openAt_59 : decode cX12_openAt 59 = .ok (.iconst 0, 1) := by decide +kernel
theorem dX12_openAt_60 : decode cX12_openAt 60 = .ok (.ior, 1) := by decide +kernel
theorem dX12_openAt_61 : decode cX12_openAt 61 = .ok (.istore 4, 2) := by decide +kernel
theorem dX12_openAt_63 : decode cX12_openAt 63 = .ok (.iinc 5 1, 3) := by decide +kernel
theorem dX12_openAt_66 : decode cX12_openAt 66 = .ok (.goto (-58), 3) := by decide +kernel
theorem dX12_openAt_69 : decode cX12_openAt 69 = .ok (.iload_n 3, 1) := by decide +kernel
theorem dX12_openAt_70 : decode cX12_openAt 70 = .ok (.iload 4, 2) := by decide +kernel
theorem dX12_openAt_72 : decode cX12_openAt 72 = .ok (.iand, 1) := by decide +kernel
theorem dX12_openAt_73 : decode cX12_openAt 73 = .ok (.ireturn, 1) := by decide +kernel
theorem dX12_mostOf_0 : decode cX12_mostOf 0 = .ok (.iconst 0, 1) := by decide +kernel
theorem dX12_mostOf_1 : decode cX12_mostOf 1 = .ok (.istore_n 2, 1) := by decide +kernel
theorem dX12_mostOf_2 : decode cX12_mostOf 2 = .ok (.iconst 0, 1) := by decide +kernel
theorem dX12_mostOf_3 : decode cX12_mostOf 3 = .ok (.istore_n 3, 1) := by decide +kernel
theorem dX12_mostOf_4 : decode cX12_mostOf 4 = .ok (.iload_n 3, 1) := by decide +kernel
theorem dX12_mostOf_5 : decode cX12_mostOf 5 = .ok (.aload_n 0, 1) := by decide +kernel
theorem dX12_mostOf_6 : decode cX12_mostOf 6 = .ok (.getfield 83, 3) := by decide +kernel
theorem dX12_mostOf_9 : decode cX12_mostOf 9 = .ok (.if_icmp .ge 34, 3) := by decide +kernel
theorem dX12_mostOf_12 : decode cX12_mostOf 12 = .ok (.aload_n 0, 1) := by decide +kernel
theorem dX12_mostOf_13 : decode cX12_mostOf 13 = .ok (.aload_n 0, 1) := by decide +kernel
theorem dX12_mostOf_14 : decode cX12_mostOf 14 = .ok (.aload_n 1, 1) := by decide +kernel
theorem dX12_mostOf_15 : decode cX12_mostOf 15 = .ok (.iload_n 3, 1) := by decide +kernel
theorem dX12_mostOf_16 : decode cX12_mostOf 16 = .ok (.invokevirtual 143, 3) := by decide +kernel
theorem dX12_mostOf_19 : decode cX12_mostOf 19 = .ok (.invokevirtual 147, 3) := by decide +kernel
theorem dX12_mostOf_22 : decode cX12_mostOf 22 = .ok (.istore 4, 2) := by decide +kernel
theorem dX12_mostOf_24 : decode cX12_mostOf 24 = .ok (.iload 4, 2) := by decide +kernel
theorem dX12_mostOf_26 : decode cX12_mostOf 26 = .ok (.iload_n 2, 1) := by decide +kernel
theorem dX12_mostOf_27 : decode cX12_mostOf 27 = .ok (.if_icmp .le 8, 3) := by decide +kernel
theorem dX12_mostOf_30 : decode cX12_mostOf 30 = .ok (.iload 4, 2) := by decide +kernel
theorem dX12_mostOf_32 : decode cX12_mostOf 32 = .ok (.goto 4, 3) := by decide +kernel
theorem dX12_mostOf_35 : decode cX12_mostOf 35 = .ok (.iload_n 2, 1) := by decide +kernel
theorem dX12_mostOf_36 : decode cX12_mostOf 36 = .ok (.istore_n 2, 1) := by decide +kernel
theorem dX12_mostOf_37 : decode cX12_mostOf 37 = .ok (.iinc 3 1, 3) := by decide +kernel
theorem dX12_mostOf_40 : decode cX12_mostOf 40 = .ok (.goto (-36), 3) := by decide +kernel
theorem dX12_mostOf_43 : decode cX12_mostOf 43 = .ok (.iload_n 2, 1) := by decide +kernel
theorem dX12_mostOf_44 : decode cX12_mostOf 44 = .ok (.ireturn, 1) := by decide +kernel
abbrev rm_X12_fails : Room := { frames := 0, cells := 0, slots := 0, locals := 0 }
def T_X12_fails (x1 : Int32) (μ : Mem) (post : Int32 → Mem → Prop) : Prop :=
  post ((-10) - x1) (mset μ 0 0 x1)
theorem m_X12_fails {w : Wd} {l : Launch} {D : va_G} {A : Nat → Prop} (x1 : Int32) (μ : Mem) (post : Int32 → Mem → Prop) (h : T_X12_fails x1 μ post) : MetX l D A w shM 22 yX12_fails cX12_fails 2 (some .int) rm_X12_fails [.ref (w.1 0), .int x1] μ (pI post) := by
  refine metX_of (by decide) rfl (lv := [(0, .ref (w.1 0)), (1, .int x1)]) rfl (fun X hX g hR => ?_)
  refine r_aload_n (pc := 0) 0 g dX12_fails_0 rfl ?_
  refine r_iload_n (pc := 1) 1 g dX12_fails_1 rfl ?_
  refine r_puti (pc := 2) (μ := μ) g dX12_fails_2 fp_RX12_73 shM_out sM_0 rfl ?_
  refine r_bipush (pc := 5) g dX12_fails_5 cb_m10 ?_
  refine r_iload_n (pc := 7) 1 g dX12_fails_7 rfl ?_
  refine r_isub (pc := 8) g dX12_fails_8 ?_
  exact r_ireti (pc := 9) g hR dX12_fails_9 h
abbrev rm_X12_lost : Room := { frames := 0, cells := 0, slots := 0, locals := 0 }
def T_X12_lost (x1 : Int32) (μ : Mem) (post : Int64 → Mem → Prop) : Prop :=
  post (-9223372036854775808) (mset μ 0 0 x1)
theorem m_X12_lost {w : Wd} {l : Launch} {D : va_G} {A : Nat → Prop} (x1 : Int32) (μ : Mem) (post : Int64 → Mem → Prop) (h : T_X12_lost x1 μ post) : MetX l D A w shM 22 yX12_lost cX12_lost 2 (some .long) rm_X12_lost [.ref (w.1 0), .int x1] μ (pL post) := by
  refine metX_of (by decide) rfl (lv := [(0, .ref (w.1 0)), (1, .int x1)]) rfl (fun X hX g hR => ?_)
  refine r_aload_n (pc := 0) 0 g dX12_lost_0 rfl ?_
  refine r_iload_n (pc := 1) 1 g dX12_lost_1 rfl ?_
  refine r_puti (pc := 2) (μ := μ) g dX12_lost_2 fp_RX12_73 shM_out sM_0 rfl ?_
  refine r_ldc2_w (pc := 5) g dX12_lost_5 k_1377 ?_
  exact r_lretl (pc := 8) g hR dX12_lost_8 h
abbrev rm_X12_isIn : Room := { frames := 0, cells := 0, slots := 0, locals := 0 }
def T_X12_isIn (x0 : Int32) (x1 : Int32) (x2 : Int32) (μ : Mem) (post : Int32 → Mem → Prop) : Prop :=
  ((x0 < x1 → post 0 μ) ∧ (¬ x0 < x1 → ((x2 < x0 → post 0 μ) ∧ (¬ x2 < x0 → post 1 μ))))
theorem m_X12_isIn {w : Wd} {l : Launch} {D : va_G} {A : Nat → Prop} (x0 : Int32) (x1 : Int32) (x2 : Int32) (μ : Mem) (post : Int32 → Mem → Prop) (h : T_X12_isIn x0 x1 x2 μ post) : MetX l D A w shM 22 yX12_isIn cX12_isIn 3 (some .boolean) rm_X12_isIn [.int x0, .int x1, .int x2] μ (pI post) := by
  refine metX_of (by decide) rfl (lv := [(0, .int x0), (1, .int x1), (2, .int x2)]) rfl (fun X hX g hR => ?_)
  refine r_iload_n (pc := 0) 0 g dX12_isIn_0 rfl ?_
  refine r_iload_n (pc := 1) 1 g dX12_isIn_1 rfl ?_
  refine r_icmp_lt (pc := 2) 14 g dX12_isIn_2 rfl (fun q => ?_) (fun q => ?_)
  · have h := h.1 q
    refine r_iconst (pc := 14) g dX12_isIn_14 ci_0 ?_
    exact r_zreti (pc := 15) g hR dX12_isIn_15 (Or.inl rfl) h
  · have h := h.2 q
    refine r_iload_n (pc := 5) 0 g dX12_isIn_5 rfl ?_
    refine r_iload_n (pc := 6) 2 g dX12_isIn_6 rfl ?_
    refine r_icmp_gt (pc := 7) 14 g dX12_isIn_7 rfl (fun q => ?_) (fun q => ?_)
    · have h := h.1 q
      refine r_iconst (pc := 14) g dX12_isIn_14 ci_0 ?_
      exact r_zreti (pc := 15) g hR dX12_isIn_15 (Or.inl rfl) h
    · have h := h.2 q
      refine r_iconst (pc := 10) g dX12_isIn_10 ci_1 ?_
      refine r_goto (pc := 11) 15 g dX12_isIn_11 rfl ?_
      exact r_zreti (pc := 15) g hR dX12_isIn_15 (Or.inr rfl) h
abbrev rm_X12_has : Room := { frames := 0, cells := 0, slots := 0, locals := 0 }
def T_X12_has (x0 : Int32) (x1 : Int32) (μ : Mem) (post : Int32 → Mem → Prop) : Prop :=
  ((¬ ((x0 >>> (x1 &&& 31)) &&& 1) = 1 → post 0 μ) ∧ (((x0 >>> (x1 &&& 31)) &&& 1) = 1 → post 1 μ))
theorem m_X12_has {w : Wd} {l : Launch} {D : va_G} {A : Nat → Prop} (x0 : Int32) (x1 : Int32) (μ : Mem) (post : Int32 → Mem → Prop) (h : T_X12_has x0 x1 μ post) : MetX l D A w shM 22 yX12_has cX12_has 2 (some .boolean) rm_X12_has [.int x0, .int x1] μ (pI post) := by
  refine metX_of (by decide) rfl (lv := [(0, .int x0), (1, .int x1)]) rfl (fun X hX g hR => ?_)
  refine r_iload_n (pc := 0) 0 g dX12_has_0 rfl ?_
  refine r_iload_n (pc := 1) 1 g dX12_has_1 rfl ?_
  refine r_ishr (pc := 2) g dX12_has_2 ?_
  refine r_iconst (pc := 3) g dX12_has_3 ci_1 ?_
  refine r_iand (pc := 4) g dX12_has_4 ?_
  refine r_iconst (pc := 5) g dX12_has_5 ci_1 ?_
  refine r_icmp_ne (pc := 6) 13 g dX12_has_6 rfl (fun q => ?_) (fun q => ?_)
  · have h := h.1 q
    refine r_iconst (pc := 13) g dX12_has_13 ci_0 ?_
    exact r_zreti (pc := 14) g hR dX12_has_14 (Or.inl rfl) h
  · have h := h.2 q
    refine r_iconst (pc := 9) g dX12_has_9 ci_1 ?_
    refine r_goto (pc := 10) 14 g dX12_has_10 rfl ?_
    exact r_zreti (pc := 14) g hR dX12_has_14 (Or.inr rfl) h
abbrev rm_X12_bitsOf : Room := { frames := 0, cells := 0, slots := 0, locals := 0 }
def B_X12_bitsOf_4 (post : Int32 → Mem → Prop) (P4 : Int32 → Int32 → Int32 → Mem → Prop) (x0 : Int32) (x1 : Int32) (x2 : Int32) (μ : Mem) : Prop :=
  ((10 ≤ x2 → post x1 μ) ∧ (¬ 10 ≤ x2 → P4 x0 (x1 + ((x0 >>> (x2 &&& 31)) &&& 1)) (x2 + 1) μ))
def T_X12_bitsOf_4 (post : Int32 → Mem → Prop) (x0 : Int32) (x1 : Int32) (x2 : Int32) (μ : Mem) : Prop :=
  ∀ P4 : Int32 → Int32 → Int32 → Mem → Prop, (∀ (x0 : Int32) (x1 : Int32) (x2 : Int32) (μ : Mem), B_X12_bitsOf_4 post P4 x0 x1 x2 μ → P4 x0 x1 x2 μ) → P4 x0 x1 x2 μ
theorem bv_X12_bitsOf_4 {X : Cx} {w : Wd} {l : Launch} {D : va_G} {A : Nat → Prop} (g : Gd X w RX12 cX12_bitsOf 3 rm_X12_bitsOf) (hX : atX X l D A) (post : Int32 → Mem → Prop) (hR : Rt X w shM 22 (some .int) (pI post)) (P4 : Int32 → Int32 → Int32 → Mem → Prop) (hP4 : ∀ (x0 : Int32) (x1 : Int32) (x2 : Int32) (μ : Mem), P4 x0 x1 x2 μ → V X 4 [(0, .int x0), (1, .int x1), (2, .int x2)] [] (wls w shM 22 μ)) (x0 : Int32) (x1 : Int32) (x2 : Int32) (μ : Mem) (h : B_X12_bitsOf_4 post P4 x0 x1 x2 μ) : V X 4 [(0, .int x0), (1, .int x1), (2, .int x2)] [] (wls w shM 22 μ) := by
  refine r_iload_n (pc := 4) 2 g dX12_bitsOf_4 rfl ?_
  refine r_bipush (pc := 5) g dX12_bitsOf_5 cb_10 ?_
  refine r_icmp_ge (pc := 7) 24 g dX12_bitsOf_7 rfl (fun q => ?_) (fun q => ?_)
  · have h := h.1 q
    refine r_iload_n (pc := 24) 1 g dX12_bitsOf_24 rfl ?_
    exact r_ireti (pc := 25) g hR dX12_bitsOf_25 h
  · have h := h.2 q
    refine r_iload_n (pc := 10) 1 g dX12_bitsOf_10 rfl ?_
    refine r_iload_n (pc := 11) 0 g dX12_bitsOf_11 rfl ?_
    refine r_iload_n (pc := 12) 2 g dX12_bitsOf_12 rfl ?_
    refine r_ishr (pc := 13) g dX12_bitsOf_13 ?_
    refine r_iconst (pc := 14) g dX12_bitsOf_14 ci_1 ?_
    refine r_iand (pc := 15) g dX12_bitsOf_15 ?_
    refine r_iadd (pc := 16) g dX12_bitsOf_16 ?_
    refine r_istore_n (pc := 17) (lv' := [(1, .int (x1 + ((x0 >>> (x2 &&& 31)) &&& 1))), (0, .int x0), (2, .int x2)]) g dX12_bitsOf_17 rfl rfl ?_
    refine r_iinc (pc := 18) (lv' := [(2, .int (x2 + 1)), (1, .int (x1 + ((x0 >>> (x2 &&& 31)) &&& 1))), (0, .int x0)]) 2 g dX12_bitsOf_18 rfl ci_1 rfl rfl ?_
    refine r_goto (pc := 21) 4 g dX12_bitsOf_21 rfl ?_
    refine r_sub [2, 1, 0] (lv' := [(0, .int x0), (1, .int (x1 + ((x0 >>> (x2 &&& 31)) &&& 1))), (2, .int (x2 + 1))]) rfl ?_
    exact hP4 x0 (x1 + ((x0 >>> (x2 &&& 31)) &&& 1)) (x2 + 1) μ h
theorem v_X12_bitsOf_4 {X : Cx} {w : Wd} {l : Launch} {D : va_G} {A : Nat → Prop} (g : Gd X w RX12 cX12_bitsOf 3 rm_X12_bitsOf) (hX : atX X l D A) (post : Int32 → Mem → Prop) (hR : Rt X w shM 22 (some .int) (pI post)) (x0 : Int32) (x1 : Int32) (x2 : Int32) (μ : Mem) (h : T_X12_bitsOf_4 post x0 x1 x2 μ) : V X 4 [(0, .int x0), (1, .int x1), (2, .int x2)] [] (wls w shM 22 μ) :=
  h (fun x0 x1 x2 μ => V X 4 [(0, .int x0), (1, .int x1), (2, .int x2)] [] (wls w shM 22 μ)) (fun x0 x1 x2 μ h => bv_X12_bitsOf_4 g hX post hR (fun x0 x1 x2 μ => V X 4 [(0, .int x0), (1, .int x1), (2, .int x2)] [] (wls w shM 22 μ)) (fun _ _ _ _ h => h) x0 x1 x2 μ h)
def T_X12_bitsOf (x0 : Int32) (μ : Mem) (post : Int32 → Mem → Prop) : Prop :=
  T_X12_bitsOf_4 post x0 0 0 μ
theorem m_X12_bitsOf {w : Wd} {l : Launch} {D : va_G} {A : Nat → Prop} (x0 : Int32) (μ : Mem) (post : Int32 → Mem → Prop) (h : T_X12_bitsOf x0 μ post) : MetX l D A w shM 22 yX12_bitsOf cX12_bitsOf 3 (some .int) rm_X12_bitsOf [.int x0] μ (pI post) := by
  refine metX_of (by decide) rfl (lv := [(0, .int x0)]) rfl (fun X hX g hR => ?_)
  refine r_iconst (pc := 0) g dX12_bitsOf_0 ci_0 ?_
  refine r_istore_n (pc := 1) (lv' := [(1, .int 0), (0, .int x0)]) g dX12_bitsOf_1 rfl rfl ?_
  refine r_iconst (pc := 2) g dX12_bitsOf_2 ci_0 ?_
  refine r_istore_n (pc := 3) (lv' := [(2, .int 0), (1, .int 0), (0, .int x0)]) g dX12_bitsOf_3 rfl rfl ?_
  refine r_sub [2, 1, 0] (lv' := [(0, .int x0), (1, .int 0), (2, .int 0)]) rfl ?_
  exact v_X12_bitsOf_4 g hX post hR x0 0 0 μ h
abbrev rm_X12_isSheet : Room := { frames := 1, cells := 0, slots := 0, locals := 22 }
def T_X12_isSheet (x0 : Int32) (μ : Mem) (post : Int32 → Mem → Prop) : Prop :=
  T_X12_isIn x0 0 3 μ (fun (u1 : Int32) (μ2 : Mem) => ((u1 = 0 ∨ u1 = 1) ∧ post u1 μ2))
theorem m_X12_isSheet {w : Wd} {l : Launch} {D : va_G} {A : Nat → Prop} (x0 : Int32) (μ : Mem) (post : Int32 → Mem → Prop) (h : T_X12_isSheet x0 μ post) : MetX l D A w shM 22 yX12_isSheet cX12_isSheet 1 (some .boolean) rm_X12_isSheet [.int x0] μ (pI post) := by
  refine metX_of (by decide) rfl (lv := [(0, .int x0)]) rfl (fun X hX g hR => ?_)
  refine r_iload_n (pc := 0) 0 g dX12_isSheet_0 rfl ?_
  refine r_iconst (pc := 1) g dX12_isSheet_1 ci_0 ?_
  refine r_iconst (pc := 2) g dX12_isSheet_2 ci_3 ?_
  refine r_callSi (pc := 3) (st := []) g hX dX12_isSheet_3 (m_X12_isIn x0 0 3 μ _ h) kb_RX12_79 k_1097 rfl rfl rfl rfl (fun u1 μ2 h => ?_)
  exact r_zreti (pc := 6) g hR dX12_isSheet_6 h.1 h.2
abbrev rm_X12_isLane : Room := { frames := 1, cells := 0, slots := 0, locals := 22 }
def T_X12_isLane (x0 : Int32) (μ : Mem) (post : Int32 → Mem → Prop) : Prop :=
  T_X12_isIn x0 0 2 μ (fun (u1 : Int32) (μ2 : Mem) => ((u1 = 0 ∨ u1 = 1) ∧ post u1 μ2))
theorem m_X12_isLane {w : Wd} {l : Launch} {D : va_G} {A : Nat → Prop} (x0 : Int32) (μ : Mem) (post : Int32 → Mem → Prop) (h : T_X12_isLane x0 μ post) : MetX l D A w shM 22 yX12_isLane cX12_isLane 1 (some .boolean) rm_X12_isLane [.int x0] μ (pI post) := by
  refine metX_of (by decide) rfl (lv := [(0, .int x0)]) rfl (fun X hX g hR => ?_)
  refine r_iload_n (pc := 0) 0 g dX12_isLane_0 rfl ?_
  refine r_iconst (pc := 1) g dX12_isLane_1 ci_0 ?_
  refine r_iconst (pc := 2) g dX12_isLane_2 ci_2 ?_
  refine r_callSi (pc := 3) (st := []) g hX dX12_isLane_3 (m_X12_isIn x0 0 2 μ _ h) kb_RX12_79 k_1097 rfl rfl rfl rfl (fun u1 μ2 h => ?_)
  exact r_zreti (pc := 6) g hR dX12_isLane_6 h.1 h.2
abbrev rm_X12_against : Room := { frames := 0, cells := 0, slots := 0, locals := 0 }
def T_X12_against_23 (post : Int32 → Mem → Prop) (x1 : Int32) (x3 : Int32) (x4 : Int32) (μ : Mem) : Prop :=
  vp_in x1 4 ∧ ((¬ (μ 1 x1.toNatClampNeg) = (-9) → ((0 ≤ x4 → ((x3 < 0 → post 3 μ) ∧ (¬ x3 < 0 → vp_in x1 4 ∧ (((μ 2 x1.toNatClampNeg) < x3 → post 3 μ) ∧ (¬ (μ 2 x1.toNatClampNeg) < x3 → vp_in x1 4 ∧ ((x4 ≤ ((μ 2 x1.toNatClampNeg) - x3) → post 0 μ) ∧ (¬ x4 ≤ ((μ 2 x1.toNatClampNeg) - x3) → post 3 μ))))))) ∧ (¬ 0 ≤ x4 → post 4 μ))) ∧ ((μ 1 x1.toNatClampNeg) = (-9) → post 1 μ))
theorem v_X12_against_23 {X : Cx} {w : Wd} {l : Launch} {D : va_G} {A : Nat → Prop} (g : Gd X w RX12 cX12_against 5 rm_X12_against) (hX : atX X l D A) (post : Int32 → Mem → Prop) (hR : Rt X w shM 22 (some .int) (pI post)) (x1 : Int32) (x3 : Int32) (x4 : Int32) (μ : Mem) (h : T_X12_against_23 post x1 x3 x4 μ) : V X 23 [(0, .ref (w.1 0)), (1, .int x1), (3, .int x3), (4, .int x4)] [] (wls w shM 22 μ) := by
  refine r_aload_n (pc := 23) 0 g dX12_against_23 rfl ?_
  refine r_getr (pc := 24) (μ := μ) g dX12_against_24 fa_RX12_9 shM_out sM_0 rfl ?_
  refine r_iload_n (pc := 27) 1 g dX12_against_27 rfl ?_
  obtain ⟨b1, h⟩ := h
  refine r_iaload (pc := 28) (μ := μ) g dX12_against_28 shM_out sM_1 b1 ?_
  refine r_bipush (pc := 29) g dX12_against_29 cb_m9 ?_
  refine r_icmp_ne (pc := 31) 36 g dX12_against_31 rfl (fun q => ?_) (fun q => ?_)
  · have h := h.1 q
    refine r_iload (pc := 36) 3 g dX12_against_36 rfl ?_
    refine r_if_ge (pc := 38) 43 g dX12_against_38 rfl (fun q => ?_) (fun q => ?_)
    · have h := h.1 q
      refine r_iload_n (pc := 43) 2 g dX12_against_43 rfl ?_
      refine r_if_lt (pc := 44) 70 g dX12_against_44 rfl (fun q => ?_) (fun q => ?_)
      · have h := h.1 q
        refine r_iconst (pc := 70) g dX12_against_70 ci_3 ?_
        exact r_ireti (pc := 71) g hR dX12_against_71 h
      · have h := h.2 q
        refine r_iload_n (pc := 47) 2 g dX12_against_47 rfl ?_
        refine r_aload_n (pc := 48) 0 g dX12_against_48 rfl ?_
        refine r_getr (pc := 49) (μ := μ) g dX12_against_49 fa_RX12_13 shM_out sM_0 rfl ?_
        refine r_iload_n (pc := 52) 1 g dX12_against_52 rfl ?_
        obtain ⟨b2, h⟩ := h
        refine r_iaload (pc := 53) (μ := μ) g dX12_against_53 shM_out sM_2 b2 ?_
        refine r_icmp_gt (pc := 54) 70 g dX12_against_54 rfl (fun q => ?_) (fun q => ?_)
        · have h := h.1 q
          refine r_iconst (pc := 70) g dX12_against_70 ci_3 ?_
          exact r_ireti (pc := 71) g hR dX12_against_71 h
        · have h := h.2 q
          refine r_iload (pc := 57) 3 g dX12_against_57 rfl ?_
          refine r_aload_n (pc := 59) 0 g dX12_against_59 rfl ?_
          refine r_getr (pc := 60) (μ := μ) g dX12_against_60 fa_RX12_13 shM_out sM_0 rfl ?_
          refine r_iload_n (pc := 63) 1 g dX12_against_63 rfl ?_
          obtain ⟨b3, h⟩ := h
          refine r_iaload (pc := 64) (μ := μ) g dX12_against_64 shM_out sM_2 b3 ?_
          refine r_iload_n (pc := 65) 2 g dX12_against_65 rfl ?_
          refine r_isub (pc := 66) g dX12_against_66 ?_
          refine r_icmp_le (pc := 67) 72 g dX12_against_67 rfl (fun q => ?_) (fun q => ?_)
          · have h := h.1 q
            refine r_iconst (pc := 72) g dX12_against_72 ci_0 ?_
            exact r_ireti (pc := 73) g hR dX12_against_73 h
          · have h := h.2 q
            refine r_iconst (pc := 70) g dX12_against_70 ci_3 ?_
            exact r_ireti (pc := 71) g hR dX12_against_71 h
    · have h := h.2 q
      refine r_iconst (pc := 41) g dX12_against_41 ci_4 ?_
      exact r_ireti (pc := 42) g hR dX12_against_42 h
  · have h := h.2 q
    refine r_iconst (pc := 34) g dX12_against_34 ci_1 ?_
    exact r_ireti (pc := 35) g hR dX12_against_35 h
def T_X12_against (x1 : Int32) (x2 : Int32) (x3 : Int32) (x4 : Int32) (μ : Mem) (post : Int32 → Mem → Prop) : Prop :=
  vp_in x1 4 ∧ (((μ 1 x1.toNatClampNeg) = (-9) → T_X12_against_23 post x1 x3 x4 μ) ∧ (¬ (μ 1 x1.toNatClampNeg) = (-9) → vp_in x1 4 ∧ (((μ 1 x1.toNatClampNeg) = x2 → T_X12_against_23 post x1 x3 x4 μ) ∧ (¬ (μ 1 x1.toNatClampNeg) = x2 → post 2 μ))))
theorem m_X12_against {w : Wd} {l : Launch} {D : va_G} {A : Nat → Prop} (x1 : Int32) (x2 : Int32) (x3 : Int32) (x4 : Int32) (μ : Mem) (post : Int32 → Mem → Prop) (h : T_X12_against x1 x2 x3 x4 μ post) : MetX l D A w shM 22 yX12_against cX12_against 5 (some .int) rm_X12_against [.ref (w.1 0), .int x1, .int x2, .int x3, .int x4] μ (pI post) := by
  refine metX_of (by decide) rfl (lv := [(0, .ref (w.1 0)), (1, .int x1), (2, .int x2), (3, .int x3), (4, .int x4)]) rfl (fun X hX g hR => ?_)
  refine r_aload_n (pc := 0) 0 g dX12_against_0 rfl ?_
  refine r_getr (pc := 1) (μ := μ) g dX12_against_1 fa_RX12_9 shM_out sM_0 rfl ?_
  refine r_iload_n (pc := 4) 1 g dX12_against_4 rfl ?_
  obtain ⟨b1, h⟩ := h
  refine r_iaload (pc := 5) (μ := μ) g dX12_against_5 shM_out sM_1 b1 ?_
  refine r_bipush (pc := 6) g dX12_against_6 cb_m9 ?_
  refine r_icmp_eq (pc := 8) 23 g dX12_against_8 rfl (fun q => ?_) (fun q => ?_)
  · have h := h.1 q
    refine r_sub [0, 1, 3, 4] (lv' := [(0, .ref (w.1 0)), (1, .int x1), (3, .int x3), (4, .int x4)]) rfl ?_
    exact v_X12_against_23 g hX post hR x1 x3 x4 μ h
  · have h := h.2 q
    refine r_aload_n (pc := 11) 0 g dX12_against_11 rfl ?_
    refine r_getr (pc := 12) (μ := μ) g dX12_against_12 fa_RX12_9 shM_out sM_0 rfl ?_
    refine r_iload_n (pc := 15) 1 g dX12_against_15 rfl ?_
    obtain ⟨b2, h⟩ := h
    refine r_iaload (pc := 16) (μ := μ) g dX12_against_16 shM_out sM_1 b2 ?_
    refine r_iload_n (pc := 17) 2 g dX12_against_17 rfl ?_
    refine r_icmp_eq (pc := 18) 23 g dX12_against_18 rfl (fun q => ?_) (fun q => ?_)
    · have h := h.1 q
      refine r_sub [0, 1, 3, 4] (lv' := [(0, .ref (w.1 0)), (1, .int x1), (3, .int x3), (4, .int x4)]) rfl ?_
      exact v_X12_against_23 g hX post hR x1 x3 x4 μ h
    · have h := h.2 q
      refine r_iconst (pc := 21) g dX12_against_21 ci_2 ?_
      exact r_ireti (pc := 22) g hR dX12_against_22 h
abbrev rm_X12_isWork : Room := { frames := 0, cells := 0, slots := 0, locals := 0 }
def T_X12_isWork (x1 : Int32) (μ : Mem) (post : Int32 → Mem → Prop) : Prop :=
  ((x1 < 0 → post 0 μ) ∧ (¬ x1 < 0 → (((μ 0 5) ≤ x1 → post 0 μ) ∧ (¬ (μ 0 5) ≤ x1 → post 1 μ))))
theorem m_X12_isWork {w : Wd} {l : Launch} {D : va_G} {A : Nat → Prop} (x1 : Int32) (μ : Mem) (post : Int32 → Mem → Prop) (h : T_X12_isWork x1 μ post) : MetX l D A w shM 22 yX12_isWork cX12_isWork 2 (some .boolean) rm_X12_isWork [.ref (w.1 0), .int x1] μ (pI post) := by
  refine metX_of (by decide) rfl (lv := [(0, .ref (w.1 0)), (1, .int x1)]) rfl (fun X hX g hR => ?_)
  refine r_iload_n (pc := 0) 1 g dX12_isWork_0 rfl ?_
  refine r_if_lt (pc := 1) 16 g dX12_isWork_1 rfl (fun q => ?_) (fun q => ?_)
  · have h := h.1 q
    refine r_iconst (pc := 16) g dX12_isWork_16 ci_0 ?_
    exact r_zreti (pc := 17) g hR dX12_isWork_17 (Or.inl rfl) h
  · have h := h.2 q
    refine r_iload_n (pc := 4) 1 g dX12_isWork_4 rfl ?_
    refine r_aload_n (pc := 5) 0 g dX12_isWork_5 rfl ?_
    refine r_geti (pc := 6) (μ := μ) g dX12_isWork_6 fa_RX12_83 shM_out sM_0 rfl ?_
    refine r_icmp_ge (pc := 9) 16 g dX12_isWork_9 rfl (fun q => ?_) (fun q => ?_)
    · have h := h.1 q
      refine r_iconst (pc := 16) g dX12_isWork_16 ci_0 ?_
      exact r_zreti (pc := 17) g hR dX12_isWork_17 (Or.inl rfl) h
    · have h := h.2 q
      refine r_iconst (pc := 12) g dX12_isWork_12 ci_1 ?_
      refine r_goto (pc := 13) 17 g dX12_isWork_13 rfl ?_
      exact r_zreti (pc := 17) g hR dX12_isWork_17 (Or.inr rfl) h
abbrev rm_X12_all : Room := { frames := 0, cells := 0, slots := 0, locals := 0 }
def T_X12_all (μ : Mem) (post : Int32 → Mem → Prop) : Prop :=
  post (((1 : Int32) <<< ((μ 0 5) &&& 31)) - 1) μ
theorem m_X12_all {w : Wd} {l : Launch} {D : va_G} {A : Nat → Prop} (μ : Mem) (post : Int32 → Mem → Prop) (h : T_X12_all μ post) : MetX l D A w shM 22 yX12_all cX12_all 1 (some .int) rm_X12_all [.ref (w.1 0)] μ (pI post) := by
  refine metX_of (by decide) rfl (lv := [(0, .ref (w.1 0))]) rfl (fun X hX g hR => ?_)
  refine r_iconst (pc := 0) g dX12_all_0 ci_1 ?_
  refine r_aload_n (pc := 1) 0 g dX12_all_1 rfl ?_
  refine r_geti (pc := 2) (μ := μ) g dX12_all_2 fa_RX12_83 shM_out sM_0 rfl ?_
  refine r_ishl (pc := 5) g dX12_all_5 ?_
  refine r_iconst (pc := 6) g dX12_all_6 ci_1 ?_
  refine r_isub (pc := 7) g dX12_all_7 ?_
  exact r_ireti (pc := 8) g hR dX12_all_8 h
abbrev rm_X12_codeAt : Room := { frames := 0, cells := 0, slots := 0, locals := 0 }
def T_X12_codeAt (μ : Mem) (post : Int32 → Mem → Prop) : Prop :=
  (((μ 0 11) ≤ (μ 0 10) → post (-9) μ) ∧ (¬ (μ 0 11) ≤ (μ 0 10) → vp_in (μ 0 10) 240 ∧ post (μ 3 (μ 0 10).toNatClampNeg) μ))
theorem m_X12_codeAt {w : Wd} {l : Launch} {D : va_G} {A : Nat → Prop} (μ : Mem) (post : Int32 → Mem → Prop) (h : T_X12_codeAt μ post) : MetX l D A w shM 22 yX12_codeAt cX12_codeAt 1 (some .int) rm_X12_codeAt [.ref (w.1 0)] μ (pI post) := by
  refine metX_of (by decide) rfl (lv := [(0, .ref (w.1 0))]) rfl (fun X hX g hR => ?_)
  refine r_aload_n (pc := 0) 0 g dX12_codeAt_0 rfl ?_
  refine r_geti (pc := 1) (μ := μ) g dX12_codeAt_1 fa_RX12_86 shM_out sM_0 rfl ?_
  refine r_aload_n (pc := 4) 0 g dX12_codeAt_4 rfl ?_
  refine r_geti (pc := 5) (μ := μ) g dX12_codeAt_5 fa_RX12_89 shM_out sM_0 rfl ?_
  refine r_icmp_ge (pc := 8) 23 g dX12_codeAt_8 rfl (fun q => ?_) (fun q => ?_)
  · have h := h.1 q
    refine r_bipush (pc := 23) g dX12_codeAt_23 cb_m9 ?_
    exact r_ireti (pc := 25) g hR dX12_codeAt_25 h
  · have h := h.2 q
    refine r_aload_n (pc := 11) 0 g dX12_codeAt_11 rfl ?_
    refine r_getr (pc := 12) (μ := μ) g dX12_codeAt_12 fa_RX12_16 shM_out sM_0 rfl ?_
    refine r_aload_n (pc := 15) 0 g dX12_codeAt_15 rfl ?_
    refine r_geti (pc := 16) (μ := μ) g dX12_codeAt_16 fa_RX12_86 shM_out sM_0 rfl ?_
    obtain ⟨b1, h⟩ := h
    refine r_iaload (pc := 19) (μ := μ) g dX12_codeAt_19 shM_out sM_3 b1 ?_
    refine r_goto (pc := 20) 25 g dX12_codeAt_20 rfl ?_
    exact r_ireti (pc := 25) g hR dX12_codeAt_25 h
abbrev rm_X12_readsWork : Room := { frames := 1, cells := 0, slots := 0, locals := 22 }
def B_X12_readsWork_55 (post : Int32 → Mem → Prop) (P55 : Int32 → Int32 → Mem → Prop) (x1 : Int32) (x2 : Int32) (μ : Mem) : Prop :=
  T_X12_codeAt μ (fun (u1 : Int32) (μ2 : Mem) => ((¬ u1 = 60 → vp_in (μ2 0 12) 9 ∧ vp_in ((mset μ2 8 (μ2 0 12).toNatClampNeg x1) 0 12) 9 ∧ post 1 (mset (mset (mset μ2 8 (μ2 0 12).toNatClampNeg x1) 9 ((mset μ2 8 (μ2 0 12).toNatClampNeg x1) 0 12).toNatClampNeg x2) 0 12 (((mset (mset μ2 8 (μ2 0 12).toNatClampNeg x1) 9 ((mset μ2 8 (μ2 0 12).toNatClampNeg x1) 0 12).toNatClampNeg x2) 0 12) + 1))) ∧ (u1 = 60 → T_X12_codeAt (mset μ2 0 10 ((μ2 0 10) + 1)) (fun (u5 : Int32) (μ6 : Mem) => T_X12_isIn (u5 - 48) 0 ((μ6 0 12) - 1) μ6 (fun (u7 : Int32) (μ8 : Mem) => ((u7 = 0 → post 0 μ8) ∧ (¬ u7 = 0 → T_X12_has x2 (u5 - 48) μ8 (fun (u9 : Int32) (μ10 : Mem) => ((u9 = 0 → P55 x1 (x2 ||| ((1 : Int32) <<< ((u5 - 48) &&& 31))) (mset μ10 0 10 ((μ10 0 10) + 1))) ∧ (¬ u9 = 0 → post 0 μ10))))))))))
def T_X12_readsWork_55 (post : Int32 → Mem → Prop) (x1 : Int32) (x2 : Int32) (μ : Mem) : Prop :=
  ∀ P55 : Int32 → Int32 → Mem → Prop, (∀ (x1 : Int32) (x2 : Int32) (μ : Mem), B_X12_readsWork_55 post P55 x1 x2 μ → P55 x1 x2 μ) → P55 x1 x2 μ
theorem bv_X12_readsWork_55 {X : Cx} {w : Wd} {l : Launch} {D : va_G} {A : Nat → Prop} (g : Gd X w RX12 cX12_readsWork 4 rm_X12_readsWork) (hX : atX X l D A) (post : Int32 → Mem → Prop) (hR : Rt X w shM 22 (some .boolean) (pI post)) (P55 : Int32 → Int32 → Mem → Prop) (hP55 : ∀ (x1 : Int32) (x2 : Int32) (μ : Mem), P55 x1 x2 μ → V X 55 [(0, .ref (w.1 0)), (1, .int x1), (2, .int x2)] [] (wls w shM 22 μ)) (x1 : Int32) (x2 : Int32) (μ : Mem) (h : B_X12_readsWork_55 post P55 x1 x2 μ) : V X 55 [(0, .ref (w.1 0)), (1, .int x1), (2, .int x2)] [] (wls w shM 22 μ) := by
  refine r_aload_n (pc := 55) 0 g dX12_readsWork_55 rfl ?_
  refine r_callVi (pc := 56) (st := []) g hX dX12_readsWork_56 (m_X12_codeAt μ _ h) kb_RX12_92 kv_X12_codeAt shM_out sM_0 rfl rfl rfl rfl (fun u1 μ2 h => ?_)
  refine r_bipush (pc := 59) g dX12_readsWork_59 cb_60 ?_
  refine r_icmp_ne (pc := 61) 125 g dX12_readsWork_61 rfl (fun q => ?_) (fun q => ?_)
  · have h := h.1 q
    refine r_aload_n (pc := 125) 0 g dX12_readsWork_125 rfl ?_
    refine r_getr (pc := 126) (μ := μ2) g dX12_readsWork_126 fa_RX12_31 shM_out sM_0 rfl ?_
    refine r_aload_n (pc := 129) 0 g dX12_readsWork_129 rfl ?_
    refine r_geti (pc := 130) (μ := μ2) g dX12_readsWork_130 fa_RX12_100 shM_out sM_0 rfl ?_
    refine r_iload_n (pc := 133) 1 g dX12_readsWork_133 rfl ?_
    obtain ⟨b3, h⟩ := h
    refine r_iastore (pc := 134) (μ := μ2) g dX12_readsWork_134 shM_out sM_8 b3 ?_
    refine r_aload_n (pc := 135) 0 g dX12_readsWork_135 rfl ?_
    refine r_getr (pc := 136) (μ := mset μ2 8 (μ2 0 12).toNatClampNeg x1) g dX12_readsWork_136 fa_RX12_34 shM_out sM_0 rfl ?_
    refine r_aload_n (pc := 139) 0 g dX12_readsWork_139 rfl ?_
    refine r_geti (pc := 140) (μ := mset μ2 8 (μ2 0 12).toNatClampNeg x1) g dX12_readsWork_140 fa_RX12_100 shM_out sM_0 rfl ?_
    refine r_iload_n (pc := 143) 2 g dX12_readsWork_143 rfl ?_
    obtain ⟨b4, h⟩ := h
    refine r_iastore (pc := 144) (μ := mset μ2 8 (μ2 0 12).toNatClampNeg x1) g dX12_readsWork_144 shM_out sM_9 b4 ?_
    refine r_aload_n (pc := 145) 0 g dX12_readsWork_145 rfl ?_
    refine r_dup (pc := 146) g dX12_readsWork_146 rfl ?_
    refine r_geti (pc := 147) (μ := mset (mset μ2 8 (μ2 0 12).toNatClampNeg x1) 9 ((mset μ2 8 (μ2 0 12).toNatClampNeg x1) 0 12).toNatClampNeg x2) g dX12_readsWork_147 fa_RX12_100 shM_out sM_0 rfl ?_
    refine r_iconst (pc := 150) g dX12_readsWork_150 ci_1 ?_
    refine r_iadd (pc := 151) g dX12_readsWork_151 ?_
    refine r_puti (pc := 152) (μ := mset (mset μ2 8 (μ2 0 12).toNatClampNeg x1) 9 ((mset μ2 8 (μ2 0 12).toNatClampNeg x1) 0 12).toNatClampNeg x2) g dX12_readsWork_152 fp_RX12_100 shM_out sM_0 rfl ?_
    refine r_iconst (pc := 155) g dX12_readsWork_155 ci_1 ?_
    exact r_zreti (pc := 156) g hR dX12_readsWork_156 (Or.inr rfl) h
  · have h := h.2 q
    refine r_aload_n (pc := 64) 0 g dX12_readsWork_64 rfl ?_
    refine r_dup (pc := 65) g dX12_readsWork_65 rfl ?_
    refine r_geti (pc := 66) (μ := μ2) g dX12_readsWork_66 fa_RX12_86 shM_out sM_0 rfl ?_
    refine r_iconst (pc := 69) g dX12_readsWork_69 ci_1 ?_
    refine r_iadd (pc := 70) g dX12_readsWork_70 ?_
    refine r_puti (pc := 71) (μ := μ2) g dX12_readsWork_71 fp_RX12_86 shM_out sM_0 rfl ?_
    refine r_aload_n (pc := 74) 0 g dX12_readsWork_74 rfl ?_
    refine r_callVi (pc := 75) (st := []) g hX dX12_readsWork_75 (m_X12_codeAt (mset μ2 0 10 ((μ2 0 10) + 1)) _ h) kb_RX12_92 kv_X12_codeAt shM_out sM_0 rfl rfl rfl rfl (fun u5 μ6 h => ?_)
    refine r_bipush (pc := 78) g dX12_readsWork_78 cb_48 ?_
    refine r_isub (pc := 80) g dX12_readsWork_80 ?_
    refine r_istore_n (pc := 81) (lv' := [(3, .int (u5 - 48)), (0, .ref (w.1 0)), (1, .int x1), (2, .int x2)]) g dX12_readsWork_81 rfl rfl ?_
    refine r_iload_n (pc := 82) 0 g dX12_readsWork_82 rfl ?_
    refine r_iconst (pc := 83) g dX12_readsWork_83 ci_0 ?_
    refine r_aload_n (pc := 84) 1 g dX12_readsWork_84 rfl ?_
    refine r_geti (pc := 85) (μ := μ6) g dX12_readsWork_85 fa_RX12_100 shM_out sM_0 rfl ?_
    refine r_iconst (pc := 88) g dX12_readsWork_88 ci_1 ?_
    refine r_isub (pc := 89) g dX12_readsWork_89 ?_
    refine r_callSi (pc := 90) (st := []) g hX dX12_readsWork_90 (m_X12_isIn (u5 - 48) 0 ((μ6 0 12) - 1) μ6 _ h) kb_RX12_79 k_1097 rfl rfl rfl rfl (fun u7 μ8 h => ?_)
    refine r_if_eq (pc := 93) 104 g dX12_readsWork_93 rfl (fun q => ?_) (fun q => ?_)
    · have h := h.1 q
      refine r_iconst (pc := 104) g dX12_readsWork_104 ci_0 ?_
      exact r_zreti (pc := 105) g hR dX12_readsWork_105 (Or.inl rfl) h
    · have h := h.2 q
      refine r_iload_n (pc := 96) 3 g dX12_readsWork_96 rfl ?_
      refine r_iload_n (pc := 97) 0 g dX12_readsWork_97 rfl ?_
      refine r_callSi (pc := 98) (st := []) g hX dX12_readsWork_98 (m_X12_has x2 (u5 - 48) μ8 _ h) kb_RX12_96 k_1123 rfl rfl rfl rfl (fun u9 μ10 h => ?_)
      refine r_if_eq (pc := 101) 106 g dX12_readsWork_101 rfl (fun q => ?_) (fun q => ?_)
      · have h := h.1 q
        refine r_iload_n (pc := 106) 3 g dX12_readsWork_106 rfl ?_
        refine r_iconst (pc := 107) g dX12_readsWork_107 ci_1 ?_
        refine r_iload_n (pc := 108) 0 g dX12_readsWork_108 rfl ?_
        refine r_ishl (pc := 109) g dX12_readsWork_109 ?_
        refine r_ior (pc := 110) g dX12_readsWork_110 ?_
        refine r_istore_n (pc := 111) (lv' := [(2, .int (x2 ||| ((1 : Int32) <<< ((u5 - 48) &&& 31)))), (3, .int (u5 - 48)), (0, .ref (w.1 0)), (1, .int x1)]) g dX12_readsWork_111 rfl rfl ?_
        refine r_aload_n (pc := 112) 2 g dX12_readsWork_112 rfl ?_
        refine r_dup (pc := 113) g dX12_readsWork_113 rfl ?_
        refine r_geti (pc := 114) (μ := μ10) g dX12_readsWork_114 fa_RX12_86 shM_out sM_0 rfl ?_
        refine r_iconst (pc := 117) g dX12_readsWork_117 ci_1 ?_
        refine r_iadd (pc := 118) g dX12_readsWork_118 ?_
        refine r_puti (pc := 119) (μ := μ10) g dX12_readsWork_119 fp_RX12_86 shM_out sM_0 rfl ?_
        refine r_goto (pc := 122) 55 g dX12_readsWork_122 rfl ?_
        refine r_sub [2, 3, 0] (lv' := [(0, .ref (w.1 0)), (1, .int x1), (2, .int (x2 ||| ((1 : Int32) <<< ((u5 - 48) &&& 31))))]) rfl ?_
        exact hP55 x1 (x2 ||| ((1 : Int32) <<< ((u5 - 48) &&& 31))) (mset μ10 0 10 ((μ10 0 10) + 1)) h
      · have h := h.2 q
        refine r_iconst (pc := 104) g dX12_readsWork_104 ci_0 ?_
        exact r_zreti (pc := 105) g hR dX12_readsWork_105 (Or.inl rfl) h
theorem v_X12_readsWork_55 {X : Cx} {w : Wd} {l : Launch} {D : va_G} {A : Nat → Prop} (g : Gd X w RX12 cX12_readsWork 4 rm_X12_readsWork) (hX : atX X l D A) (post : Int32 → Mem → Prop) (hR : Rt X w shM 22 (some .boolean) (pI post)) (x1 : Int32) (x2 : Int32) (μ : Mem) (h : T_X12_readsWork_55 post x1 x2 μ) : V X 55 [(0, .ref (w.1 0)), (1, .int x1), (2, .int x2)] [] (wls w shM 22 μ) :=
  h (fun x1 x2 μ => V X 55 [(0, .ref (w.1 0)), (1, .int x1), (2, .int x2)] [] (wls w shM 22 μ)) (fun x1 x2 μ h => bv_X12_readsWork_55 g hX post hR (fun x1 x2 μ => V X 55 [(0, .ref (w.1 0)), (1, .int x1), (2, .int x2)] [] (wls w shM 22 μ)) (fun _ _ _ h => h) x1 x2 μ h)
def B_X12_readsWork_2 (post : Int32 → Mem → Prop) (P2 : Int32 → Mem → Prop) (x1 : Int32) (μ : Mem) : Prop :=
  T_X12_codeAt μ (fun (u1 : Int32) (μ2 : Mem) => T_X12_isIn u1 97 106 μ2 (fun (u3 : Int32) (μ4 : Mem) => ((u3 = 0 → T_X12_readsWork_55 post x1 0 μ4) ∧ (¬ u3 = 0 → T_X12_codeAt μ4 (fun (u5 : Int32) (μ6 : Mem) => T_X12_has x1 (u5 - 97) μ6 (fun (u7 : Int32) (μ8 : Mem) => ((u7 = 0 → P2 (x1 ||| ((1 : Int32) <<< ((u5 - 97) &&& 31))) (mset μ8 0 10 ((μ8 0 10) + 1))) ∧ (¬ u7 = 0 → post 0 μ8))))))))
def T_X12_readsWork_2 (post : Int32 → Mem → Prop) (x1 : Int32) (μ : Mem) : Prop :=
  ∀ P2 : Int32 → Mem → Prop, (∀ (x1 : Int32) (μ : Mem), B_X12_readsWork_2 post P2 x1 μ → P2 x1 μ) → P2 x1 μ
theorem bv_X12_readsWork_2 {X : Cx} {w : Wd} {l : Launch} {D : va_G} {A : Nat → Prop} (g : Gd X w RX12 cX12_readsWork 4 rm_X12_readsWork) (hX : atX X l D A) (post : Int32 → Mem → Prop) (hR : Rt X w shM 22 (some .boolean) (pI post)) (P2 : Int32 → Mem → Prop) (hP2 : ∀ (x1 : Int32) (μ : Mem), P2 x1 μ → V X 2 [(0, .ref (w.1 0)), (1, .int x1)] [] (wls w shM 22 μ)) (x1 : Int32) (μ : Mem) (h : B_X12_readsWork_2 post P2 x1 μ) : V X 2 [(0, .ref (w.1 0)), (1, .int x1)] [] (wls w shM 22 μ) := by
  refine r_aload_n (pc := 2) 0 g dX12_readsWork_2 rfl ?_
  refine r_callVi (pc := 3) (st := []) g hX dX12_readsWork_3 (m_X12_codeAt μ _ h) kb_RX12_92 kv_X12_codeAt shM_out sM_0 rfl rfl rfl rfl (fun u1 μ2 h => ?_)
  refine r_bipush (pc := 6) g dX12_readsWork_6 cb_97 ?_
  refine r_bipush (pc := 8) g dX12_readsWork_8 cb_106 ?_
  refine r_callSi (pc := 10) (st := []) g hX dX12_readsWork_10 (m_X12_isIn u1 97 106 μ2 _ h) kb_RX12_79 k_1097 rfl rfl rfl rfl (fun u3 μ4 h => ?_)
  refine r_if_eq (pc := 13) 53 g dX12_readsWork_13 rfl (fun q => ?_) (fun q => ?_)
  · have h := h.1 q
    refine r_iconst (pc := 53) g dX12_readsWork_53 ci_0 ?_
    refine r_istore_n (pc := 54) (lv' := [(2, .int 0), (0, .ref (w.1 0)), (1, .int x1)]) g dX12_readsWork_54 rfl rfl ?_
    refine r_sub [1, 2, 0] (lv' := [(0, .ref (w.1 0)), (1, .int x1), (2, .int 0)]) rfl ?_
    exact v_X12_readsWork_55 g hX post hR x1 0 μ4 h
  · have h := h.2 q
    refine r_aload_n (pc := 16) 0 g dX12_readsWork_16 rfl ?_
    refine r_callVi (pc := 17) (st := []) g hX dX12_readsWork_17 (m_X12_codeAt μ4 _ h) kb_RX12_92 kv_X12_codeAt shM_out sM_0 rfl rfl rfl rfl (fun u5 μ6 h => ?_)
    refine r_bipush (pc := 20) g dX12_readsWork_20 cb_97 ?_
    refine r_isub (pc := 22) g dX12_readsWork_22 ?_
    refine r_istore_n (pc := 23) (lv' := [(2, .int (u5 - 97)), (0, .ref (w.1 0)), (1, .int x1)]) g dX12_readsWork_23 rfl rfl ?_
    refine r_iload_n (pc := 24) 2 g dX12_readsWork_24 rfl ?_
    refine r_iload_n (pc := 25) 0 g dX12_readsWork_25 rfl ?_
    refine r_callSi (pc := 26) (st := []) g hX dX12_readsWork_26 (m_X12_has x1 (u5 - 97) μ6 _ h) kb_RX12_96 k_1123 rfl rfl rfl rfl (fun u7 μ8 h => ?_)
    refine r_if_eq (pc := 29) 34 g dX12_readsWork_29 rfl (fun q => ?_) (fun q => ?_)
    · have h := h.1 q
      refine r_iload_n (pc := 34) 2 g dX12_readsWork_34 rfl ?_
      refine r_iconst (pc := 35) g dX12_readsWork_35 ci_1 ?_
      refine r_iload_n (pc := 36) 0 g dX12_readsWork_36 rfl ?_
      refine r_ishl (pc := 37) g dX12_readsWork_37 ?_
      refine r_ior (pc := 38) g dX12_readsWork_38 ?_
      refine r_istore_n (pc := 39) (lv' := [(1, .int (x1 ||| ((1 : Int32) <<< ((u5 - 97) &&& 31)))), (2, .int (u5 - 97)), (0, .ref (w.1 0))]) g dX12_readsWork_39 rfl rfl ?_
      refine r_aload_n (pc := 40) 2 g dX12_readsWork_40 rfl ?_
      refine r_dup (pc := 41) g dX12_readsWork_41 rfl ?_
      refine r_geti (pc := 42) (μ := μ8) g dX12_readsWork_42 fa_RX12_86 shM_out sM_0 rfl ?_
      refine r_iconst (pc := 45) g dX12_readsWork_45 ci_1 ?_
      refine r_iadd (pc := 46) g dX12_readsWork_46 ?_
      refine r_puti (pc := 47) (μ := μ8) g dX12_readsWork_47 fp_RX12_86 shM_out sM_0 rfl ?_
      refine r_goto (pc := 50) 2 g dX12_readsWork_50 rfl ?_
      refine r_sub [2, 0] (lv' := [(0, .ref (w.1 0)), (1, .int (x1 ||| ((1 : Int32) <<< ((u5 - 97) &&& 31))))]) rfl ?_
      exact hP2 (x1 ||| ((1 : Int32) <<< ((u5 - 97) &&& 31))) (mset μ8 0 10 ((μ8 0 10) + 1)) h
    · have h := h.2 q
      refine r_iconst (pc := 32) g dX12_readsWork_32 ci_0 ?_
      exact r_zreti (pc := 33) g hR dX12_readsWork_33 (Or.inl rfl) h
theorem v_X12_readsWork_2 {X : Cx} {w : Wd} {l : Launch} {D : va_G} {A : Nat → Prop} (g : Gd X w RX12 cX12_readsWork 4 rm_X12_readsWork) (hX : atX X l D A) (post : Int32 → Mem → Prop) (hR : Rt X w shM 22 (some .boolean) (pI post)) (x1 : Int32) (μ : Mem) (h : T_X12_readsWork_2 post x1 μ) : V X 2 [(0, .ref (w.1 0)), (1, .int x1)] [] (wls w shM 22 μ) :=
  h (fun x1 μ => V X 2 [(0, .ref (w.1 0)), (1, .int x1)] [] (wls w shM 22 μ)) (fun x1 μ h => bv_X12_readsWork_2 g hX post hR (fun x1 μ => V X 2 [(0, .ref (w.1 0)), (1, .int x1)] [] (wls w shM 22 μ)) (fun _ _ h => h) x1 μ h)
def T_X12_readsWork (μ : Mem) (post : Int32 → Mem → Prop) : Prop :=
  T_X12_readsWork_2 post 0 μ
theorem m_X12_readsWork {w : Wd} {l : Launch} {D : va_G} {A : Nat → Prop} (μ : Mem) (post : Int32 → Mem → Prop) (h : T_X12_readsWork μ post) : MetX l D A w shM 22 yX12_readsWork cX12_readsWork 4 (some .boolean) rm_X12_readsWork [.ref (w.1 0)] μ (pI post) := by
  refine metX_of (by decide) rfl (lv := [(0, .ref (w.1 0))]) rfl (fun X hX g hR => ?_)
  refine r_iconst (pc := 0) g dX12_readsWork_0 ci_0 ?_
  refine r_istore_n (pc := 1) (lv' := [(1, .int 0), (0, .ref (w.1 0))]) g dX12_readsWork_1 rfl rfl ?_
  refine r_sub [1, 0] (lv' := [(0, .ref (w.1 0)), (1, .int 0)]) rfl ?_
  exact v_X12_readsWork_2 g hX post hR 0 μ h
abbrev rm_X12_readsSize : Room := { frames := 1, cells := 0, slots := 0, locals := 22 }
def T_X12_readsSize (μ : Mem) (post : Int32 → Mem → Prop) : Prop :=
  T_X12_codeAt μ (fun (u1 : Int32) (μ2 : Mem) => T_X12_isIn (u1 - 97) 0 9 μ2 (fun (u3 : Int32) (μ4 : Mem) => ((u3 = 0 → post 0 μ4) ∧ (¬ u3 = 0 → T_X12_has (μ4 0 15) (u1 - 97) μ4 (fun (u5 : Int32) (μ6 : Mem) => ((u5 = 0 → T_X12_codeAt (mset μ6 0 10 ((μ6 0 10) + 1)) (fun (u7 : Int32) (μ8 : Mem) => T_X12_isIn (u7 - 48) 1 9 μ8 (fun (u9 : Int32) (μ10 : Mem) => ((¬ u9 = 0 → vp_in (u1 - 97) 10 ∧ post 1 (mset (mset (mset μ10 0 15 ((μ10 0 15) ||| ((1 : Int32) <<< ((u1 - 97) &&& 31)))) 10 (u1 - 97).toNatClampNeg (u7 - 48)) 0 10 (((mset (mset μ10 0 15 ((μ10 0 15) ||| ((1 : Int32) <<< ((u1 - 97) &&& 31)))) 10 (u1 - 97).toNatClampNeg (u7 - 48)) 0 10) + 1))) ∧ (u9 = 0 → post 0 μ10))))) ∧ (¬ u5 = 0 → post 0 μ6)))))))
theorem m_X12_readsSize {w : Wd} {l : Launch} {D : va_G} {A : Nat → Prop} (μ : Mem) (post : Int32 → Mem → Prop) (h : T_X12_readsSize μ post) : MetX l D A w shM 22 yX12_readsSize cX12_readsSize 3 (some .boolean) rm_X12_readsSize [.ref (w.1 0)] μ (pI post) := by
  refine metX_of (by decide) rfl (lv := [(0, .ref (w.1 0))]) rfl (fun X hX g hR => ?_)
  refine r_aload_n (pc := 0) 0 g dX12_readsSize_0 rfl ?_
  refine r_callVi (pc := 1) (st := []) g hX dX12_readsSize_1 (m_X12_codeAt μ _ h) kb_RX12_92 kv_X12_codeAt shM_out sM_0 rfl rfl rfl rfl (fun u1 μ2 h => ?_)
  refine r_bipush (pc := 4) g dX12_readsSize_4 cb_97 ?_
  refine r_isub (pc := 6) g dX12_readsSize_6 ?_
  refine r_istore_n (pc := 7) (lv' := [(1, .int (u1 - 97)), (0, .ref (w.1 0))]) g dX12_readsSize_7 rfl rfl ?_
  refine r_iload_n (pc := 8) 0 g dX12_readsSize_8 rfl ?_
  refine r_iconst (pc := 9) g dX12_readsSize_9 ci_0 ?_
  refine r_bipush (pc := 10) g dX12_readsSize_10 cb_9 ?_
  refine r_callSi (pc := 12) (st := []) g hX dX12_readsSize_12 (m_X12_isIn (u1 - 97) 0 9 μ2 _ h) kb_RX12_79 k_1097 rfl rfl rfl rfl (fun u3 μ4 h => ?_)
  refine r_if_eq (pc := 15) 29 g dX12_readsSize_15 rfl (fun q => ?_) (fun q => ?_)
  · have h := h.1 q
    refine r_iconst (pc := 29) g dX12_readsSize_29 ci_0 ?_
    exact r_zreti (pc := 30) g hR dX12_readsSize_30 (Or.inl rfl) h
  · have h := h.2 q
    refine r_aload_n (pc := 18) 1 g dX12_readsSize_18 rfl ?_
    refine r_geti (pc := 19) (μ := μ4) g dX12_readsSize_19 fa_RX12_103 shM_out sM_0 rfl ?_
    refine r_iload_n (pc := 22) 0 g dX12_readsSize_22 rfl ?_
    refine r_callSi (pc := 23) (st := []) g hX dX12_readsSize_23 (m_X12_has (μ4 0 15) (u1 - 97) μ4 _ h) kb_RX12_96 k_1123 rfl rfl rfl rfl (fun u5 μ6 h => ?_)
    refine r_if_eq (pc := 26) 31 g dX12_readsSize_26 rfl (fun q => ?_) (fun q => ?_)
    · have h := h.1 q
      refine r_aload_n (pc := 31) 1 g dX12_readsSize_31 rfl ?_
      refine r_dup (pc := 32) g dX12_readsSize_32 rfl ?_
      refine r_geti (pc := 33) (μ := μ6) g dX12_readsSize_33 fa_RX12_86 shM_out sM_0 rfl ?_
      refine r_iconst (pc := 36) g dX12_readsSize_36 ci_1 ?_
      refine r_iadd (pc := 37) g dX12_readsSize_37 ?_
      refine r_puti (pc := 38) (μ := μ6) g dX12_readsSize_38 fp_RX12_86 shM_out sM_0 rfl ?_
      refine r_aload_n (pc := 41) 1 g dX12_readsSize_41 rfl ?_
      refine r_callVi (pc := 42) (st := []) g hX dX12_readsSize_42 (m_X12_codeAt (mset μ6 0 10 ((μ6 0 10) + 1)) _ h) kb_RX12_92 kv_X12_codeAt shM_out sM_0 rfl rfl rfl rfl (fun u7 μ8 h => ?_)
      refine r_bipush (pc := 45) g dX12_readsSize_45 cb_48 ?_
      refine r_isub (pc := 47) g dX12_readsSize_47 ?_
      refine r_istore_n (pc := 48) (lv' := [(2, .int (u7 - 48)), (1, .int (u1 - 97)), (0, .ref (w.1 0))]) g dX12_readsSize_48 rfl rfl ?_
      refine r_iload_n (pc := 49) 0 g dX12_readsSize_49 rfl ?_
      refine r_iconst (pc := 50) g dX12_readsSize_50 ci_1 ?_
      refine r_bipush (pc := 51) g dX12_readsSize_51 cb_9 ?_
      refine r_callSi (pc := 53) (st := []) g hX dX12_readsSize_53 (m_X12_isIn (u7 - 48) 1 9 μ8 _ h) kb_RX12_79 k_1097 rfl rfl rfl rfl (fun u9 μ10 h => ?_)
      refine r_if_ne (pc := 56) 61 g dX12_readsSize_56 rfl (fun q => ?_) (fun q => ?_)
      · have h := h.1 q
        refine r_aload_n (pc := 61) 2 g dX12_readsSize_61 rfl ?_
        refine r_dup (pc := 62) g dX12_readsSize_62 rfl ?_
        refine r_geti (pc := 63) (μ := μ10) g dX12_readsSize_63 fa_RX12_103 shM_out sM_0 rfl ?_
        refine r_iconst (pc := 66) g dX12_readsSize_66 ci_1 ?_
        refine r_iload_n (pc := 67) 1 g dX12_readsSize_67 rfl ?_
        refine r_ishl (pc := 68) g dX12_readsSize_68 ?_
        refine r_ior (pc := 69) g dX12_readsSize_69 ?_
        refine r_puti (pc := 70) (μ := μ10) g dX12_readsSize_70 fp_RX12_103 shM_out sM_0 rfl ?_
        refine r_aload_n (pc := 73) 2 g dX12_readsSize_73 rfl ?_
        refine r_getr (pc := 74) (μ := mset μ10 0 15 ((μ10 0 15) ||| ((1 : Int32) <<< ((u1 - 97) &&& 31)))) g dX12_readsSize_74 fa_RX12_37 shM_out sM_0 rfl ?_
        refine r_iload_n (pc := 77) 1 g dX12_readsSize_77 rfl ?_
        refine r_iload_n (pc := 78) 0 g dX12_readsSize_78 rfl ?_
        obtain ⟨b11, h⟩ := h
        refine r_iastore (pc := 79) (μ := mset μ10 0 15 ((μ10 0 15) ||| ((1 : Int32) <<< ((u1 - 97) &&& 31)))) g dX12_readsSize_79 shM_out sM_10 b11 ?_
        refine r_aload_n (pc := 80) 2 g dX12_readsSize_80 rfl ?_
        refine r_dup (pc := 81) g dX12_readsSize_81 rfl ?_
        refine r_geti (pc := 82) (μ := mset (mset μ10 0 15 ((μ10 0 15) ||| ((1 : Int32) <<< ((u1 - 97) &&& 31)))) 10 (u1 - 97).toNatClampNeg (u7 - 48)) g dX12_readsSize_82 fa_RX12_86 shM_out sM_0 rfl ?_
        refine r_iconst (pc := 85) g dX12_readsSize_85 ci_1 ?_
        refine r_iadd (pc := 86) g dX12_readsSize_86 ?_
        refine r_puti (pc := 87) (μ := mset (mset μ10 0 15 ((μ10 0 15) ||| ((1 : Int32) <<< ((u1 - 97) &&& 31)))) 10 (u1 - 97).toNatClampNeg (u7 - 48)) g dX12_readsSize_87 fp_RX12_86 shM_out sM_0 rfl ?_
        refine r_iconst (pc := 90) g dX12_readsSize_90 ci_1 ?_
        exact r_zreti (pc := 91) g hR dX12_readsSize_91 (Or.inr rfl) h
      · have h := h.2 q
        refine r_iconst (pc := 59) g dX12_readsSize_59 ci_0 ?_
        exact r_zreti (pc := 60) g hR dX12_readsSize_60 (Or.inl rfl) h
    · have h := h.2 q
      refine r_iconst (pc := 29) g dX12_readsSize_29 ci_0 ?_
      exact r_zreti (pc := 30) g hR dX12_readsSize_30 (Or.inl rfl) h
abbrev rm_X12_readsAll : Room := { frames := 2, cells := 0, slots := 0, locals := 45 }
def T_X12_readsAll_97 (post : Int32 → Mem → Prop) (P12 : Int32 → Mem → Prop) (x1 : Int32) (μ : Mem) : Prop :=
  ((¬ (μ 0 10) = (μ 0 11) → T_X12_codeAt μ (fun (u1 : Int32) (μ2 : Mem) => ((¬ u1 = 59 → post 0 μ2) ∧ (u1 = 59 → ((¬ (x1 + 1) = 12 → P12 (x1 + 1) (mset μ2 0 10 ((μ2 0 10) + 1))) ∧ ((x1 + 1) = 12 → post 0 μ2)))))) ∧ ((μ 0 10) = (μ 0 11) → post 1 μ))
theorem v_X12_readsAll_97 {X : Cx} {w : Wd} {l : Launch} {D : va_G} {A : Nat → Prop} (g : Gd X w RX12 cX12_readsAll 4 rm_X12_readsAll) (hX : atX X l D A) (post : Int32 → Mem → Prop) (hR : Rt X w shM 22 (some .boolean) (pI post)) (P12 : Int32 → Mem → Prop) (hP12 : ∀ (x1 : Int32) (μ : Mem), P12 x1 μ → V X 12 [(0, .ref (w.1 0)), (1, .int x1)] [] (wls w shM 22 μ)) (x1 : Int32) (μ : Mem) (h : T_X12_readsAll_97 post P12 x1 μ) : V X 97 [(0, .ref (w.1 0)), (1, .int x1)] [] (wls w shM 22 μ) := by
  refine r_iinc (pc := 97) (lv' := [(1, .int (x1 + 1)), (0, .ref (w.1 0))]) 1 g dX12_readsAll_97 rfl ci_1 rfl rfl ?_
  refine r_aload_n (pc := 100) 1 g dX12_readsAll_100 rfl ?_
  refine r_geti (pc := 101) (μ := μ) g dX12_readsAll_101 fa_RX12_86 shM_out sM_0 rfl ?_
  refine r_aload_n (pc := 104) 1 g dX12_readsAll_104 rfl ?_
  refine r_geti (pc := 105) (μ := μ) g dX12_readsAll_105 fa_RX12_89 shM_out sM_0 rfl ?_
  refine r_icmp_ne (pc := 108) 113 g dX12_readsAll_108 rfl (fun q => ?_) (fun q => ?_)
  · have h := h.1 q
    refine r_aload_n (pc := 113) 1 g dX12_readsAll_113 rfl ?_
    refine r_callVi (pc := 114) (st := []) g hX dX12_readsAll_114 (m_X12_codeAt μ _ h) kb_RX12_92 kv_X12_codeAt shM_out sM_0 rfl rfl rfl rfl (fun u1 μ2 h => ?_)
    refine r_bipush (pc := 117) g dX12_readsAll_117 cb_59 ?_
    refine r_icmp_ne (pc := 119) 128 g dX12_readsAll_119 rfl (fun q => ?_) (fun q => ?_)
    · have h := h.1 q
      refine r_iconst (pc := 128) g dX12_readsAll_128 ci_0 ?_
      exact r_zreti (pc := 129) g hR dX12_readsAll_129 (Or.inl rfl) h
    · have h := h.2 q
      refine r_iload_n (pc := 122) 0 g dX12_readsAll_122 rfl ?_
      refine r_bipush (pc := 123) g dX12_readsAll_123 cb_12 ?_
      refine r_icmp_ne (pc := 125) 130 g dX12_readsAll_125 rfl (fun q => ?_) (fun q => ?_)
      · have h := h.1 q
        refine r_aload_n (pc := 130) 1 g dX12_readsAll_130 rfl ?_
        refine r_dup (pc := 131) g dX12_readsAll_131 rfl ?_
        refine r_geti (pc := 132) (μ := μ2) g dX12_readsAll_132 fa_RX12_86 shM_out sM_0 rfl ?_
        refine r_iconst (pc := 135) g dX12_readsAll_135 ci_1 ?_
        refine r_iadd (pc := 136) g dX12_readsAll_136 ?_
        refine r_puti (pc := 137) (μ := μ2) g dX12_readsAll_137 fp_RX12_86 shM_out sM_0 rfl ?_
        refine r_goto (pc := 140) 12 g dX12_readsAll_140 rfl ?_
        refine r_sub [1, 0] (lv' := [(0, .ref (w.1 0)), (1, .int (x1 + 1))]) rfl ?_
        exact hP12 (x1 + 1) (mset μ2 0 10 ((μ2 0 10) + 1)) h
      · have h := h.2 q
        refine r_iconst (pc := 128) g dX12_readsAll_128 ci_0 ?_
        exact r_zreti (pc := 129) g hR dX12_readsAll_129 (Or.inl rfl) h
  · have h := h.2 q
    refine r_iconst (pc := 111) g dX12_readsAll_111 ci_1 ?_
    exact r_zreti (pc := 112) g hR dX12_readsAll_112 (Or.inr rfl) h
def T_X12_readsAll_64 (post : Int32 → Mem → Prop) (P12 : Int32 → Mem → Prop) (x1 : Int32) (x3 : Int32) (μ : Mem) : Prop :=
  ((x3 = 0 → T_X12_readsSize (mset μ 0 10 ((μ 0 10) + 1)) (fun (u1 : Int32) (μ2 : Mem) => ((¬ u1 = 0 → T_X12_readsAll_97 post P12 x1 μ2) ∧ (u1 = 0 → post 0 μ2)))) ∧ (¬ x3 = 0 → T_X12_readsWork (mset μ 0 10 ((μ 0 10) + 1)) (fun (u3 : Int32) (μ4 : Mem) => ((¬ u3 = 0 → T_X12_readsAll_97 post P12 x1 μ4) ∧ (u3 = 0 → post 0 μ4)))))
theorem v_X12_readsAll_64 {X : Cx} {w : Wd} {l : Launch} {D : va_G} {A : Nat → Prop} (g : Gd X w RX12 cX12_readsAll 4 rm_X12_readsAll) (hX : atX X l D A) (post : Int32 → Mem → Prop) (hR : Rt X w shM 22 (some .boolean) (pI post)) (P12 : Int32 → Mem → Prop) (hP12 : ∀ (x1 : Int32) (μ : Mem), P12 x1 μ → V X 12 [(0, .ref (w.1 0)), (1, .int x1)] [] (wls w shM 22 μ)) (x1 : Int32) (x3 : Int32) (μ : Mem) (h : T_X12_readsAll_64 post P12 x1 x3 μ) : V X 64 [(0, .ref (w.1 0)), (1, .int x1), (3, .int x3)] [] (wls w shM 22 μ) := by
  refine r_aload_n (pc := 64) 0 g dX12_readsAll_64 rfl ?_
  refine r_dup (pc := 65) g dX12_readsAll_65 rfl ?_
  refine r_geti (pc := 66) (μ := μ) g dX12_readsAll_66 fa_RX12_86 shM_out sM_0 rfl ?_
  refine r_iconst (pc := 69) g dX12_readsAll_69 ci_1 ?_
  refine r_iadd (pc := 70) g dX12_readsAll_70 ?_
  refine r_puti (pc := 71) (μ := μ) g dX12_readsAll_71 fp_RX12_86 shM_out sM_0 rfl ?_
  refine r_iload_n (pc := 74) 2 g dX12_readsAll_74 rfl ?_
  refine r_if_eq (pc := 75) 88 g dX12_readsAll_75 rfl (fun q => ?_) (fun q => ?_)
  · have h := h.1 q
    refine r_aload_n (pc := 88) 0 g dX12_readsAll_88 rfl ?_
    refine r_callVi (pc := 89) (st := []) g hX dX12_readsAll_89 (m_X12_readsSize (mset μ 0 10 ((μ 0 10) + 1)) _ h) kb_RX12_110 kv_X12_readsSize shM_out sM_0 rfl rfl rfl rfl (fun u1 μ2 h => ?_)
    refine r_if_ne (pc := 92) 97 g dX12_readsAll_92 rfl (fun q => ?_) (fun q => ?_)
    · have h := h.1 q
      refine r_sub [0, 1] (lv' := [(0, .ref (w.1 0)), (1, .int x1)]) rfl ?_
      exact v_X12_readsAll_97 g hX post hR P12 hP12 x1 μ2 h
    · have h := h.2 q
      refine r_iconst (pc := 95) g dX12_readsAll_95 ci_0 ?_
      exact r_zreti (pc := 96) g hR dX12_readsAll_96 (Or.inl rfl) h
  · have h := h.2 q
    refine r_aload_n (pc := 78) 0 g dX12_readsAll_78 rfl ?_
    refine r_callVi (pc := 79) (st := []) g hX dX12_readsAll_79 (m_X12_readsWork (mset μ 0 10 ((μ 0 10) + 1)) _ h) kb_RX12_106 kv_X12_readsWork shM_out sM_0 rfl rfl rfl rfl (fun u3 μ4 h => ?_)
    refine r_if_ne (pc := 82) 97 g dX12_readsAll_82 rfl (fun q => ?_) (fun q => ?_)
    · have h := h.1 q
      refine r_sub [0, 1] (lv' := [(0, .ref (w.1 0)), (1, .int x1)]) rfl ?_
      exact v_X12_readsAll_97 g hX post hR P12 hP12 x1 μ4 h
    · have h := h.2 q
      refine r_goto (pc := 85) 95 g dX12_readsAll_85 rfl ?_
      refine r_iconst (pc := 95) g dX12_readsAll_95 ci_0 ?_
      exact r_zreti (pc := 96) g hR dX12_readsAll_96 (Or.inl rfl) h
def T_X12_readsAll_44 (post : Int32 → Mem → Prop) (P12 : Int32 → Mem → Prop) (x1 : Int32) (x2 : Int32) (s0 : Int32) (μ : Mem) : Prop :=
  ((¬ s0 = 0 → T_X12_readsAll_64 post P12 x1 s0 μ) ∧ (s0 = 0 → ((¬ x2 = 115 → post 0 μ) ∧ (x2 = 115 → ((¬ (μ 0 12) = 0 → T_X12_readsAll_64 post P12 x1 s0 μ) ∧ ((μ 0 12) = 0 → post 0 μ))))))
theorem v_X12_readsAll_44 {X : Cx} {w : Wd} {l : Launch} {D : va_G} {A : Nat → Prop} (g : Gd X w RX12 cX12_readsAll 4 rm_X12_readsAll) (hX : atX X l D A) (post : Int32 → Mem → Prop) (hR : Rt X w shM 22 (some .boolean) (pI post)) (P12 : Int32 → Mem → Prop) (hP12 : ∀ (x1 : Int32) (μ : Mem), P12 x1 μ → V X 12 [(0, .ref (w.1 0)), (1, .int x1)] [] (wls w shM 22 μ)) (x1 : Int32) (x2 : Int32) (s0 : Int32) (μ : Mem) (h : T_X12_readsAll_44 post P12 x1 x2 s0 μ) : V X 44 [(0, .ref (w.1 0)), (1, .int x1), (2, .int x2)] [.int s0] (wls w shM 22 μ) := by
  refine r_istore_n (pc := 44) (lv' := [(3, .int s0), (0, .ref (w.1 0)), (1, .int x1), (2, .int x2)]) g dX12_readsAll_44 rfl rfl ?_
  refine r_iload_n (pc := 45) 0 g dX12_readsAll_45 rfl ?_
  refine r_if_ne (pc := 46) 64 g dX12_readsAll_46 rfl (fun q => ?_) (fun q => ?_)
  · have h := h.1 q
    refine r_sub [1, 2, 0] (lv' := [(0, .ref (w.1 0)), (1, .int x1), (3, .int s0)]) rfl ?_
    exact v_X12_readsAll_64 g hX post hR P12 hP12 x1 s0 μ h
  · have h := h.2 q
    refine r_iload_n (pc := 49) 3 g dX12_readsAll_49 rfl ?_
    refine r_bipush (pc := 50) g dX12_readsAll_50 cb_115 ?_
    refine r_icmp_ne (pc := 52) 62 g dX12_readsAll_52 rfl (fun q => ?_) (fun q => ?_)
    · have h := h.1 q
      refine r_iconst (pc := 62) g dX12_readsAll_62 ci_0 ?_
      exact r_zreti (pc := 63) g hR dX12_readsAll_63 (Or.inl rfl) h
    · have h := h.2 q
      refine r_aload_n (pc := 55) 1 g dX12_readsAll_55 rfl ?_
      refine r_geti (pc := 56) (μ := μ) g dX12_readsAll_56 fa_RX12_100 shM_out sM_0 rfl ?_
      refine r_if_ne (pc := 59) 64 g dX12_readsAll_59 rfl (fun q => ?_) (fun q => ?_)
      · have h := h.1 q
        refine r_sub [1, 2, 0] (lv' := [(0, .ref (w.1 0)), (1, .int x1), (3, .int s0)]) rfl ?_
        exact v_X12_readsAll_64 g hX post hR P12 hP12 x1 s0 μ h
      · have h := h.2 q
        refine r_iconst (pc := 62) g dX12_readsAll_62 ci_0 ?_
        exact r_zreti (pc := 63) g hR dX12_readsAll_63 (Or.inl rfl) h
def T_X12_readsAll_43 (post : Int32 → Mem → Prop) (P12 : Int32 → Mem → Prop) (x1 : Int32) (x2 : Int32) (μ : Mem) : Prop :=
  T_X12_readsAll_44 post P12 x1 x2 0 μ
theorem v_X12_readsAll_43 {X : Cx} {w : Wd} {l : Launch} {D : va_G} {A : Nat → Prop} (g : Gd X w RX12 cX12_readsAll 4 rm_X12_readsAll) (hX : atX X l D A) (post : Int32 → Mem → Prop) (hR : Rt X w shM 22 (some .boolean) (pI post)) (P12 : Int32 → Mem → Prop) (hP12 : ∀ (x1 : Int32) (μ : Mem), P12 x1 μ → V X 12 [(0, .ref (w.1 0)), (1, .int x1)] [] (wls w shM 22 μ)) (x1 : Int32) (x2 : Int32) (μ : Mem) (h : T_X12_readsAll_43 post P12 x1 x2 μ) : V X 43 [(0, .ref (w.1 0)), (1, .int x1), (2, .int x2)] [] (wls w shM 22 μ) := by
  refine r_iconst (pc := 43) g dX12_readsAll_43 ci_0 ?_
  refine r_sub [0, 1, 2] (lv' := [(0, .ref (w.1 0)), (1, .int x1), (2, .int x2)]) rfl ?_
  exact v_X12_readsAll_44 g hX post hR P12 hP12 x1 x2 0 μ h
def B_X12_readsAll_12 (post : Int32 → Mem → Prop) (P12 : Int32 → Mem → Prop) (x1 : Int32) (μ : Mem) : Prop :=
  T_X12_codeAt μ (fun (u1 : Int32) (μ2 : Mem) => ((¬ u1 = 119 → T_X12_readsAll_43 post P12 x1 u1 μ2) ∧ (u1 = 119 → ((¬ (μ2 0 15) = 0 → T_X12_readsAll_43 post P12 x1 u1 μ2) ∧ ((μ2 0 15) = 0 → ((9 ≤ (μ2 0 12) → T_X12_readsAll_43 post P12 x1 u1 μ2) ∧ (¬ 9 ≤ (μ2 0 12) → T_X12_readsAll_44 post P12 x1 u1 1 μ2)))))))
def T_X12_readsAll_12 (post : Int32 → Mem → Prop) (x1 : Int32) (μ : Mem) : Prop :=
  ∀ P12 : Int32 → Mem → Prop, (∀ (x1 : Int32) (μ : Mem), B_X12_readsAll_12 post P12 x1 μ → P12 x1 μ) → P12 x1 μ
theorem bv_X12_readsAll_12 {X : Cx} {w : Wd} {l : Launch} {D : va_G} {A : Nat → Prop} (g : Gd X w RX12 cX12_readsAll 4 rm_X12_readsAll) (hX : atX X l D A) (post : Int32 → Mem → Prop) (hR : Rt X w shM 22 (some .boolean) (pI post)) (P12 : Int32 → Mem → Prop) (hP12 : ∀ (x1 : Int32) (μ : Mem), P12 x1 μ → V X 12 [(0, .ref (w.1 0)), (1, .int x1)] [] (wls w shM 22 μ)) (x1 : Int32) (μ : Mem) (h : B_X12_readsAll_12 post P12 x1 μ) : V X 12 [(0, .ref (w.1 0)), (1, .int x1)] [] (wls w shM 22 μ) := by
  refine r_aload_n (pc := 12) 0 g dX12_readsAll_12 rfl ?_
  refine r_callVi (pc := 13) (st := []) g hX dX12_readsAll_13 (m_X12_codeAt μ _ h) kb_RX12_92 kv_X12_codeAt shM_out sM_0 rfl rfl rfl rfl (fun u1 μ2 h => ?_)
  refine r_istore_n (pc := 16) (lv' := [(2, .int u1), (0, .ref (w.1 0)), (1, .int x1)]) g dX12_readsAll_16 rfl rfl ?_
  refine r_iload_n (pc := 17) 0 g dX12_readsAll_17 rfl ?_
  refine r_bipush (pc := 18) g dX12_readsAll_18 cb_119 ?_
  refine r_icmp_ne (pc := 20) 43 g dX12_readsAll_20 rfl (fun q => ?_) (fun q => ?_)
  · have h := h.1 q
    refine r_sub [1, 2, 0] (lv' := [(0, .ref (w.1 0)), (1, .int x1), (2, .int u1)]) rfl ?_
    exact v_X12_readsAll_43 g hX post hR P12 hP12 x1 u1 μ2 h
  · have h := h.2 q
    refine r_aload_n (pc := 23) 1 g dX12_readsAll_23 rfl ?_
    refine r_geti (pc := 24) (μ := μ2) g dX12_readsAll_24 fa_RX12_103 shM_out sM_0 rfl ?_
    refine r_if_ne (pc := 27) 43 g dX12_readsAll_27 rfl (fun q => ?_) (fun q => ?_)
    · have h := h.1 q
      refine r_sub [1, 2, 0] (lv' := [(0, .ref (w.1 0)), (1, .int x1), (2, .int u1)]) rfl ?_
      exact v_X12_readsAll_43 g hX post hR P12 hP12 x1 u1 μ2 h
    · have h := h.2 q
      refine r_aload_n (pc := 30) 1 g dX12_readsAll_30 rfl ?_
      refine r_geti (pc := 31) (μ := μ2) g dX12_readsAll_31 fa_RX12_100 shM_out sM_0 rfl ?_
      refine r_bipush (pc := 34) g dX12_readsAll_34 cb_9 ?_
      refine r_icmp_ge (pc := 36) 43 g dX12_readsAll_36 rfl (fun q => ?_) (fun q => ?_)
      · have h := h.1 q
        refine r_sub [1, 2, 0] (lv' := [(0, .ref (w.1 0)), (1, .int x1), (2, .int u1)]) rfl ?_
        exact v_X12_readsAll_43 g hX post hR P12 hP12 x1 u1 μ2 h
      · have h := h.2 q
        refine r_iconst (pc := 39) g dX12_readsAll_39 ci_1 ?_
        refine r_goto (pc := 40) 44 g dX12_readsAll_40 rfl ?_
        refine r_sub [1, 2, 0] (lv' := [(0, .ref (w.1 0)), (1, .int x1), (2, .int u1)]) rfl ?_
        exact v_X12_readsAll_44 g hX post hR P12 hP12 x1 u1 1 μ2 h
theorem v_X12_readsAll_12 {X : Cx} {w : Wd} {l : Launch} {D : va_G} {A : Nat → Prop} (g : Gd X w RX12 cX12_readsAll 4 rm_X12_readsAll) (hX : atX X l D A) (post : Int32 → Mem → Prop) (hR : Rt X w shM 22 (some .boolean) (pI post)) (x1 : Int32) (μ : Mem) (h : T_X12_readsAll_12 post x1 μ) : V X 12 [(0, .ref (w.1 0)), (1, .int x1)] [] (wls w shM 22 μ) :=
  h (fun x1 μ => V X 12 [(0, .ref (w.1 0)), (1, .int x1)] [] (wls w shM 22 μ)) (fun x1 μ h => bv_X12_readsAll_12 g hX post hR (fun x1 μ => V X 12 [(0, .ref (w.1 0)), (1, .int x1)] [] (wls w shM 22 μ)) (fun _ _ h => h) x1 μ h)
def T_X12_readsAll (μ : Mem) (post : Int32 → Mem → Prop) : Prop :=
  T_X12_readsAll_12 post 0 (mset (mset μ 0 12 0) 0 15 0)
theorem m_X12_readsAll {w : Wd} {l : Launch} {D : va_G} {A : Nat → Prop} (μ : Mem) (post : Int32 → Mem → Prop) (h : T_X12_readsAll μ post) : MetX l D A w shM 22 yX12_readsAll cX12_readsAll 4 (some .boolean) rm_X12_readsAll [.ref (w.1 0)] μ (pI post) := by
  refine metX_of (by decide) rfl (lv := [(0, .ref (w.1 0))]) rfl (fun X hX g hR => ?_)
  refine r_aload_n (pc := 0) 0 g dX12_readsAll_0 rfl ?_
  refine r_iconst (pc := 1) g dX12_readsAll_1 ci_0 ?_
  refine r_puti (pc := 2) (μ := μ) g dX12_readsAll_2 fp_RX12_100 shM_out sM_0 rfl ?_
  refine r_aload_n (pc := 5) 0 g dX12_readsAll_5 rfl ?_
  refine r_iconst (pc := 6) g dX12_readsAll_6 ci_0 ?_
  refine r_puti (pc := 7) (μ := mset μ 0 12 0) g dX12_readsAll_7 fp_RX12_103 shM_out sM_0 rfl ?_
  refine r_iconst (pc := 10) g dX12_readsAll_10 ci_0 ?_
  refine r_istore_n (pc := 11) (lv' := [(1, .int 0), (0, .ref (w.1 0))]) g dX12_readsAll_11 rfl rfl ?_
  refine r_sub [1, 0] (lv' := [(0, .ref (w.1 0)), (1, .int 0)]) rfl ?_
  exact v_X12_readsAll_12 g hX post hR 0 (mset (mset μ 0 12 0) 0 15 0) h
abbrev rm_X12_shop : Room := { frames := 3, cells := 0, slots := 0, locals := 68 }
def T_X12_shop_181 (post : Int32 → Mem → Prop) (P145 : Int32 → Mem → Prop) (x7 : Int32) (s0 : Int32) (s1 : Int32) (μ : Mem) : Prop :=
  vp_in s1 10 ∧ P145 (x7 + 1) (mset μ 6 s1.toNatClampNeg s0)
theorem v_X12_shop_181 {X : Cx} {w : Wd} {l : Launch} {D : va_G} {A : Nat → Prop} (g : Gd X w RX12 cX12_shop 8 rm_X12_shop) (hX : atX X l D A) (post : Int32 → Mem → Prop) (hR : Rt X w shM 22 (some .int) (pI post)) (P145 : Int32 → Mem → Prop) (hP145 : ∀ (x7 : Int32) (μ : Mem), P145 x7 μ → V X 145 [(0, .ref (w.1 0)), (7, .int x7)] [] (wls w shM 22 μ)) (x7 : Int32) (s0 : Int32) (s1 : Int32) (μ : Mem) (h : T_X12_shop_181 post P145 x7 s0 s1 μ) : V X 181 [(0, .ref (w.1 0)), (7, .int x7)] [.int s0, .int s1, .ref (w.1 6)] (wls w shM 22 μ) := by
  obtain ⟨b1, h⟩ := h
  refine r_iastore (pc := 181) (μ := μ) g dX12_shop_181 shM_out sM_6 b1 ?_
  refine r_iinc (pc := 182) (lv' := [(7, .int (x7 + 1)), (0, .ref (w.1 0))]) 1 g dX12_shop_182 rfl ci_1 rfl rfl ?_
  refine r_goto (pc := 185) 145 g dX12_shop_185 rfl ?_
  refine r_sub [1, 0] (lv' := [(0, .ref (w.1 0)), (7, .int (x7 + 1))]) rfl ?_
  exact hP145 (x7 + 1) (mset μ 6 s1.toNatClampNeg s0) h
def B_X12_shop_145 (post : Int32 → Mem → Prop) (P145 : Int32 → Mem → Prop) (x7 : Int32) (μ : Mem) : Prop :=
  ((10 ≤ x7 → post ((mset μ 0 17 0) 0 5) (mset μ 0 17 0)) ∧ (¬ 10 ≤ x7 → T_X12_has (μ 0 15) x7 μ (fun (u1 : Int32) (μ2 : Mem) => ((u1 = 0 → T_X12_shop_181 post P145 x7 1 x7 μ2) ∧ (¬ u1 = 0 → vp_in x7 10 ∧ T_X12_shop_181 post P145 x7 (μ2 10 x7.toNatClampNeg) x7 μ2)))))
def T_X12_shop_145 (post : Int32 → Mem → Prop) (x7 : Int32) (μ : Mem) : Prop :=
  ∀ P145 : Int32 → Mem → Prop, (∀ (x7 : Int32) (μ : Mem), B_X12_shop_145 post P145 x7 μ → P145 x7 μ) → P145 x7 μ
theorem bv_X12_shop_145 {X : Cx} {w : Wd} {l : Launch} {D : va_G} {A : Nat → Prop} (g : Gd X w RX12 cX12_shop 8 rm_X12_shop) (hX : atX X l D A) (post : Int32 → Mem → Prop) (hR : Rt X w shM 22 (some .int) (pI post)) (P145 : Int32 → Mem → Prop) (hP145 : ∀ (x7 : Int32) (μ : Mem), P145 x7 μ → V X 145 [(0, .ref (w.1 0)), (7, .int x7)] [] (wls w shM 22 μ)) (x7 : Int32) (μ : Mem) (h : B_X12_shop_145 post P145 x7 μ) : V X 145 [(0, .ref (w.1 0)), (7, .int x7)] [] (wls w shM 22 μ) := by
  refine r_iload (pc := 145) 1 g dX12_shop_145 rfl ?_
  refine r_bipush (pc := 147) g dX12_shop_147 cb_10 ?_
  refine r_icmp_ge (pc := 149) 188 g dX12_shop_149 rfl (fun q => ?_) (fun q => ?_)
  · have h := h.1 q
    refine r_aload_n (pc := 188) 0 g dX12_shop_188 rfl ?_
    refine r_iconst (pc := 189) g dX12_shop_189 ci_0 ?_
    refine r_puti (pc := 190) (μ := μ) g dX12_shop_190 fp_RX12_131 shM_out sM_0 rfl ?_
    refine r_aload_n (pc := 193) 0 g dX12_shop_193 rfl ?_
    refine r_geti (pc := 194) (μ := mset μ 0 17 0) g dX12_shop_194 fa_RX12_83 shM_out sM_0 rfl ?_
    exact r_ireti (pc := 197) g hR dX12_shop_197 h
  · have h := h.2 q
    refine r_aload_n (pc := 152) 0 g dX12_shop_152 rfl ?_
    refine r_getr (pc := 153) (μ := μ) g dX12_shop_153 fa_RX12_25 shM_out sM_0 rfl ?_
    refine r_iload (pc := 156) 1 g dX12_shop_156 rfl ?_
    refine r_aload_n (pc := 158) 0 g dX12_shop_158 rfl ?_
    refine r_geti (pc := 159) (μ := μ) g dX12_shop_159 fa_RX12_103 shM_out sM_0 rfl ?_
    refine r_iload (pc := 162) 1 g dX12_shop_162 rfl ?_
    refine r_callSi (pc := 164) (st := [.int x7, .ref (w.1 6)]) g hX dX12_shop_164 (m_X12_has (μ 0 15) x7 μ _ h) kb_RX12_96 k_1123 rfl rfl rfl rfl (fun u1 μ2 h => ?_)
    refine r_if_eq (pc := 167) 180 g dX12_shop_167 rfl (fun q => ?_) (fun q => ?_)
    · have h := h.1 q
      refine r_iconst (pc := 180) g dX12_shop_180 ci_1 ?_
      refine r_sub [0, 1] (lv' := [(0, .ref (w.1 0)), (7, .int x7)]) rfl ?_
      exact v_X12_shop_181 g hX post hR P145 hP145 x7 1 x7 μ2 h
    · have h := h.2 q
      refine r_aload_n (pc := 170) 0 g dX12_shop_170 rfl ?_
      refine r_getr (pc := 171) (μ := μ2) g dX12_shop_171 fa_RX12_37 shM_out sM_0 rfl ?_
      refine r_iload (pc := 174) 1 g dX12_shop_174 rfl ?_
      obtain ⟨b3, h⟩ := h
      refine r_iaload (pc := 176) (μ := μ2) g dX12_shop_176 shM_out sM_10 b3 ?_
      refine r_goto (pc := 177) 181 g dX12_shop_177 rfl ?_
      refine r_sub [0, 1] (lv' := [(0, .ref (w.1 0)), (7, .int x7)]) rfl ?_
      exact v_X12_shop_181 g hX post hR P145 hP145 x7 (μ2 10 x7.toNatClampNeg) x7 μ2 h
theorem v_X12_shop_145 {X : Cx} {w : Wd} {l : Launch} {D : va_G} {A : Nat → Prop} (g : Gd X w RX12 cX12_shop 8 rm_X12_shop) (hX : atX X l D A) (post : Int32 → Mem → Prop) (hR : Rt X w shM 22 (some .int) (pI post)) (x7 : Int32) (μ : Mem) (h : T_X12_shop_145 post x7 μ) : V X 145 [(0, .ref (w.1 0)), (7, .int x7)] [] (wls w shM 22 μ) :=
  h (fun x7 μ => V X 145 [(0, .ref (w.1 0)), (7, .int x7)] [] (wls w shM 22 μ)) (fun x7 μ h => bv_X12_shop_145 g hX post hR (fun x7 μ => V X 145 [(0, .ref (w.1 0)), (7, .int x7)] [] (wls w shM 22 μ)) (fun _ _ h => h) x7 μ h)
def B_X12_shop_99 (post : Int32 → Mem → Prop) (P99 : Int32 → Mem → Prop) (x7 : Int32) (μ : Mem) : Prop :=
  (((μ 0 5) ≤ x7 → T_X12_shop_145 post 0 μ) ∧ (¬ (μ 0 5) ≤ x7 → vp_in x7 9 ∧ vp_in x7 9 ∧ vp_in x7 9 ∧ vp_in x7 9 ∧ P99 (x7 + 1) (mset (mset μ 4 x7.toNatClampNeg (μ 8 x7.toNatClampNeg)) 5 x7.toNatClampNeg ((mset μ 4 x7.toNatClampNeg (μ 8 x7.toNatClampNeg)) 9 x7.toNatClampNeg))))
def T_X12_shop_99 (post : Int32 → Mem → Prop) (x7 : Int32) (μ : Mem) : Prop :=
  ∀ P99 : Int32 → Mem → Prop, (∀ (x7 : Int32) (μ : Mem), B_X12_shop_99 post P99 x7 μ → P99 x7 μ) → P99 x7 μ
theorem bv_X12_shop_99 {X : Cx} {w : Wd} {l : Launch} {D : va_G} {A : Nat → Prop} (g : Gd X w RX12 cX12_shop 8 rm_X12_shop) (hX : atX X l D A) (post : Int32 → Mem → Prop) (hR : Rt X w shM 22 (some .int) (pI post)) (P99 : Int32 → Mem → Prop) (hP99 : ∀ (x7 : Int32) (μ : Mem), P99 x7 μ → V X 99 [(0, .ref (w.1 0)), (7, .int x7)] [] (wls w shM 22 μ)) (x7 : Int32) (μ : Mem) (h : B_X12_shop_99 post P99 x7 μ) : V X 99 [(0, .ref (w.1 0)), (7, .int x7)] [] (wls w shM 22 μ) := by
  refine r_iload (pc := 99) 1 g dX12_shop_99 rfl ?_
  refine r_aload_n (pc := 101) 0 g dX12_shop_101 rfl ?_
  refine r_geti (pc := 102) (μ := μ) g dX12_shop_102 fa_RX12_83 shM_out sM_0 rfl ?_
  refine r_icmp_ge (pc := 105) 142 g dX12_shop_105 rfl (fun q => ?_) (fun q => ?_)
  · have h := h.1 q
    refine r_iconst (pc := 142) g dX12_shop_142 ci_0 ?_
    refine r_istore (pc := 143) (lv' := [(7, .int 0), (0, .ref (w.1 0))]) g dX12_shop_143 rfl rfl ?_
    refine r_sub [1, 0] (lv' := [(0, .ref (w.1 0)), (7, .int 0)]) rfl ?_
    exact v_X12_shop_145 g hX post hR 0 μ h
  · have h := h.2 q
    refine r_aload_n (pc := 108) 0 g dX12_shop_108 rfl ?_
    refine r_getr (pc := 109) (μ := μ) g dX12_shop_109 fa_RX12_19 shM_out sM_0 rfl ?_
    refine r_iload (pc := 112) 1 g dX12_shop_112 rfl ?_
    refine r_aload_n (pc := 114) 0 g dX12_shop_114 rfl ?_
    refine r_getr (pc := 115) (μ := μ) g dX12_shop_115 fa_RX12_31 shM_out sM_0 rfl ?_
    refine r_iload (pc := 118) 1 g dX12_shop_118 rfl ?_
    obtain ⟨b1, h⟩ := h
    refine r_iaload (pc := 120) (μ := μ) g dX12_shop_120 shM_out sM_8 b1 ?_
    obtain ⟨b2, h⟩ := h
    refine r_iastore (pc := 121) (μ := μ) g dX12_shop_121 shM_out sM_4 b2 ?_
    refine r_aload_n (pc := 122) 0 g dX12_shop_122 rfl ?_
    refine r_getr (pc := 123) (μ := mset μ 4 x7.toNatClampNeg (μ 8 x7.toNatClampNeg)) g dX12_shop_123 fa_RX12_22 shM_out sM_0 rfl ?_
    refine r_iload (pc := 126) 1 g dX12_shop_126 rfl ?_
    refine r_aload_n (pc := 128) 0 g dX12_shop_128 rfl ?_
    refine r_getr (pc := 129) (μ := mset μ 4 x7.toNatClampNeg (μ 8 x7.toNatClampNeg)) g dX12_shop_129 fa_RX12_34 shM_out sM_0 rfl ?_
    refine r_iload (pc := 132) 1 g dX12_shop_132 rfl ?_
    obtain ⟨b3, h⟩ := h
    refine r_iaload (pc := 134) (μ := mset μ 4 x7.toNatClampNeg (μ 8 x7.toNatClampNeg)) g dX12_shop_134 shM_out sM_9 b3 ?_
    obtain ⟨b4, h⟩ := h
    refine r_iastore (pc := 135) (μ := mset μ 4 x7.toNatClampNeg (μ 8 x7.toNatClampNeg)) g dX12_shop_135 shM_out sM_5 b4 ?_
    refine r_iinc (pc := 136) (lv' := [(7, .int (x7 + 1)), (0, .ref (w.1 0))]) 1 g dX12_shop_136 rfl ci_1 rfl rfl ?_
    refine r_goto (pc := 139) 99 g dX12_shop_139 rfl ?_
    refine r_sub [1, 0] (lv' := [(0, .ref (w.1 0)), (7, .int (x7 + 1))]) rfl ?_
    exact hP99 (x7 + 1) (mset (mset μ 4 x7.toNatClampNeg (μ 8 x7.toNatClampNeg)) 5 x7.toNatClampNeg ((mset μ 4 x7.toNatClampNeg (μ 8 x7.toNatClampNeg)) 9 x7.toNatClampNeg)) h
theorem v_X12_shop_99 {X : Cx} {w : Wd} {l : Launch} {D : va_G} {A : Nat → Prop} (g : Gd X w RX12 cX12_shop 8 rm_X12_shop) (hX : atX X l D A) (post : Int32 → Mem → Prop) (hR : Rt X w shM 22 (some .int) (pI post)) (x7 : Int32) (μ : Mem) (h : T_X12_shop_99 post x7 μ) : V X 99 [(0, .ref (w.1 0)), (7, .int x7)] [] (wls w shM 22 μ) :=
  h (fun x7 μ => V X 99 [(0, .ref (w.1 0)), (7, .int x7)] [] (wls w shM 22 μ)) (fun x7 μ h => bv_X12_shop_99 g hX post hR (fun x7 μ => V X 99 [(0, .ref (w.1 0)), (7, .int x7)] [] (wls w shM 22 μ)) (fun _ _ h => h) x7 μ h)
def T_X12_shop (x1 : Int32) (x2 : Int32) (x3 : Int32) (x4 : Int32) (μ : Mem) (post : Int32 → Mem → Prop) : Prop :=
  T_X12_isSheet x1 (mset μ 0 0 0) (fun (u1 : Int32) (μ2 : Mem) => ((¬ u1 = 0 → T_X12_isLane x2 μ2 (fun (u3 : Int32) (μ4 : Mem) => ((¬ u3 = 0 → T_X12_against x1 x2 x3 x4 μ4 (fun (u5 : Int32) (μ6 : Mem) => ((u5 = 0 → T_X12_readsAll (mset (mset μ6 0 10 ((60 * x1) + x3)) 0 11 (((60 * x1) + x3) + x4)) (fun (u7 : Int32) (μ8 : Mem) => ((¬ u7 = 0 → T_X12_shop_99 post 0 (mset μ8 0 5 (μ8 0 12))) ∧ (u7 = 0 → post ((-100) - ((μ8 0 10) - ((60 * x1) + x3))) μ8)))) ∧ (¬ u5 = 0 → T_X12_fails u5 μ6 (fun (u9 : Int32) (μ10 : Mem) => post u9 μ10))))) ∧ (u3 = 0 → post (-2) μ4)))) ∧ (u1 = 0 → post (-1) μ2)))
theorem m_X12_shop {w : Wd} {l : Launch} {D : va_G} {A : Nat → Prop} (x1 : Int32) (x2 : Int32) (x3 : Int32) (x4 : Int32) (μ : Mem) (post : Int32 → Mem → Prop) (h : T_X12_shop x1 x2 x3 x4 μ post) : MetX l D A w shM 22 yX12_shop cX12_shop 8 (some .int) rm_X12_shop [.ref (w.1 0), .int x1, .int x2, .int x3, .int x4] μ (pI post) := by
  refine metX_of (by decide) rfl (lv := [(0, .ref (w.1 0)), (1, .int x1), (2, .int x2), (3, .int x3), (4, .int x4)]) rfl (fun X hX g hR => ?_)
  refine r_aload_n (pc := 0) 0 g dX12_shop_0 rfl ?_
  refine r_iconst (pc := 1) g dX12_shop_1 ci_0 ?_
  refine r_puti (pc := 2) (μ := μ) g dX12_shop_2 fp_RX12_73 shM_out sM_0 rfl ?_
  refine r_iload_n (pc := 5) 1 g dX12_shop_5 rfl ?_
  refine r_callSi (pc := 6) (st := []) g hX dX12_shop_6 (m_X12_isSheet x1 (mset μ 0 0 0) _ h) kb_RX12_113 k_1094 rfl rfl rfl rfl (fun u1 μ2 h => ?_)
  refine r_if_ne (pc := 9) 14 g dX12_shop_9 rfl (fun q => ?_) (fun q => ?_)
  · have h := h.1 q
    refine r_iload_n (pc := 14) 2 g dX12_shop_14 rfl ?_
    refine r_callSi (pc := 15) (st := []) g hX dX12_shop_15 (m_X12_isLane x2 μ2 _ h) kb_RX12_117 k_1100 rfl rfl rfl rfl (fun u3 μ4 h => ?_)
    refine r_if_ne (pc := 18) 24 g dX12_shop_18 rfl (fun q => ?_) (fun q => ?_)
    · have h := h.1 q
      refine r_aload_n (pc := 24) 0 g dX12_shop_24 rfl ?_
      refine r_iload_n (pc := 25) 1 g dX12_shop_25 rfl ?_
      refine r_iload_n (pc := 26) 2 g dX12_shop_26 rfl ?_
      refine r_iload_n (pc := 27) 3 g dX12_shop_27 rfl ?_
      refine r_iload (pc := 28) 4 g dX12_shop_28 rfl ?_
      refine r_callVi (pc := 30) (st := []) g hX dX12_shop_30 (m_X12_against x1 x2 x3 x4 μ4 _ h) kb_RX12_120 kv_X12_against shM_out sM_0 rfl rfl rfl rfl (fun u5 μ6 h => ?_)
      refine r_istore (pc := 33) (lv' := [(5, .int u5), (0, .ref (w.1 0)), (1, .int x1), (2, .int x2), (3, .int x3), (4, .int x4)]) g dX12_shop_33 rfl rfl ?_
      refine r_iload (pc := 35) 0 g dX12_shop_35 rfl ?_
      refine r_if_eq (pc := 37) 47 g dX12_shop_37 rfl (fun q => ?_) (fun q => ?_)
      · have h := h.1 q
        refine r_bipush (pc := 47) g dX12_shop_47 cb_60 ?_
        refine r_iload_n (pc := 49) 2 g dX12_shop_49 rfl ?_
        refine r_imul (pc := 50) g dX12_shop_50 ?_
        refine r_iload_n (pc := 51) 4 g dX12_shop_51 rfl ?_
        refine r_iadd (pc := 52) g dX12_shop_52 ?_
        refine r_istore (pc := 53) (lv' := [(6, .int ((60 * x1) + x3)), (5, .int u5), (0, .ref (w.1 0)), (1, .int x1), (2, .int x2), (3, .int x3), (4, .int x4)]) g dX12_shop_53 rfl rfl ?_
        refine r_aload_n (pc := 55) 2 g dX12_shop_55 rfl ?_
        refine r_iload (pc := 56) 0 g dX12_shop_56 rfl ?_
        refine r_puti (pc := 58) (μ := μ6) g dX12_shop_58 fp_RX12_86 shM_out sM_0 rfl ?_
        refine r_aload_n (pc := 61) 2 g dX12_shop_61 rfl ?_
        refine r_iload (pc := 62) 0 g dX12_shop_62 rfl ?_
        refine r_iload (pc := 64) 6 g dX12_shop_64 rfl ?_
        refine r_iadd (pc := 66) g dX12_shop_66 ?_
        refine r_puti (pc := 67) (μ := mset μ6 0 10 ((60 * x1) + x3)) g dX12_shop_67 fp_RX12_89 shM_out sM_0 rfl ?_
        refine r_aload_n (pc := 70) 2 g dX12_shop_70 rfl ?_
        refine r_callVi (pc := 71) (st := []) g hX dX12_shop_71 (m_X12_readsAll (mset (mset μ6 0 10 ((60 * x1) + x3)) 0 11 (((60 * x1) + x3) + x4)) _ h) kb_RX12_128 kv_X12_readsAll shM_out sM_0 rfl rfl rfl rfl (fun u7 μ8 h => ?_)
        refine r_if_ne (pc := 74) 88 g dX12_shop_74 rfl (fun q => ?_) (fun q => ?_)
        · have h := h.1 q
          refine r_aload_n (pc := 88) 2 g dX12_shop_88 rfl ?_
          refine r_aload_n (pc := 89) 2 g dX12_shop_89 rfl ?_
          refine r_geti (pc := 90) (μ := μ8) g dX12_shop_90 fa_RX12_100 shM_out sM_0 rfl ?_
          refine r_puti (pc := 93) (μ := μ8) g dX12_shop_93 fp_RX12_83 shM_out sM_0 rfl ?_
          refine r_iconst (pc := 96) g dX12_shop_96 ci_0 ?_
          refine r_istore (pc := 97) (lv' := [(7, .int 0), (6, .int ((60 * x1) + x3)), (5, .int u5), (0, .ref (w.1 0)), (1, .int x1), (2, .int x2), (3, .int x3), (4, .int x4)]) g dX12_shop_97 rfl rfl ?_
          refine r_sub [3, 0] (lv' := [(0, .ref (w.1 0)), (7, .int 0)]) rfl ?_
          exact v_X12_shop_99 g hX post hR 0 (mset μ8 0 5 (μ8 0 12)) h
        · have h := h.2 q
          refine r_bipush (pc := 77) g dX12_shop_77 cb_m100 ?_
          refine r_aload_n (pc := 79) 2 g dX12_shop_79 rfl ?_
          refine r_geti (pc := 80) (μ := μ8) g dX12_shop_80 fa_RX12_86 shM_out sM_0 rfl ?_
          refine r_iload (pc := 83) 0 g dX12_shop_83 rfl ?_
          refine r_isub (pc := 85) g dX12_shop_85 ?_
          refine r_isub (pc := 86) g dX12_shop_86 ?_
          exact r_ireti (pc := 87) g hR dX12_shop_87 h
      · have h := h.2 q
        refine r_aload_n (pc := 40) 1 g dX12_shop_40 rfl ?_
        refine r_iload (pc := 41) 0 g dX12_shop_41 rfl ?_
        refine r_callVi (pc := 43) (st := []) g hX dX12_shop_43 (m_X12_fails u5 μ6 _ h) kb_RX12_124 kv_X12_fails shM_out sM_0 rfl rfl rfl rfl (fun u9 μ10 h => ?_)
        exact r_ireti (pc := 46) g hR dX12_shop_46 h
    · have h := h.2 q
      refine r_bipush (pc := 21) g dX12_shop_21 cb_m2 ?_
      exact r_ireti (pc := 23) g hR dX12_shop_23 h
  · have h := h.2 q
    refine r_iconst (pc := 12) g dX12_shop_12 ci_m1 ?_
    exact r_ireti (pc := 13) g hR dX12_shop_13 h
abbrev rm_X12_work : Room := { frames := 1, cells := 0, slots := 0, locals := 22 }
def T_X12_work_23 (post : Int32 → Mem → Prop) (μ : Mem) : Prop :=
  post (-2) μ
theorem v_X12_work_23 {X : Cx} {w : Wd} {l : Launch} {D : va_G} {A : Nat → Prop} (g : Gd X w RX12 cX12_work 3 rm_X12_work) (hX : atX X l D A) (post : Int32 → Mem → Prop) (hR : Rt X w shM 22 (some .int) (pI post)) (μ : Mem) (h : T_X12_work_23 post μ) : V X 23 [] [] (wls w shM 22 μ) := by
  refine r_bipush (pc := 23) g dX12_work_23 cb_m2 ?_
  exact r_ireti (pc := 25) g hR dX12_work_25 h
def T_X12_work (x1 : Int32) (x2 : Int32) (μ : Mem) (post : Int32 → Mem → Prop) : Prop :=
  T_X12_isIn x1 0 1023 μ (fun (u1 : Int32) (μ2 : Mem) => ((u1 = 0 → T_X12_work_23 post μ2) ∧ (¬ u1 = 0 → T_X12_all μ2 (fun (u3 : Int32) (μ4 : Mem) => T_X12_isIn x2 0 u3 μ4 (fun (u5 : Int32) (μ6 : Mem) => ((¬ u5 = 0 → ((¬ (μ6 0 5) = 9 → vp_in (μ6 0 5) 9 ∧ vp_in ((mset μ6 4 (μ6 0 5).toNatClampNeg x1) 0 5) 9 ∧ post (((mset (mset (mset (mset μ6 4 (μ6 0 5).toNatClampNeg x1) 5 ((mset μ6 4 (μ6 0 5).toNatClampNeg x1) 0 5).toNatClampNeg x2) 0 5 (((mset (mset μ6 4 (μ6 0 5).toNatClampNeg x1) 5 ((mset μ6 4 (μ6 0 5).toNatClampNeg x1) 0 5).toNatClampNeg x2) 0 5) + 1)) 0 17 0) 0 5) - 1) (mset (mset (mset (mset μ6 4 (μ6 0 5).toNatClampNeg x1) 5 ((mset μ6 4 (μ6 0 5).toNatClampNeg x1) 0 5).toNatClampNeg x2) 0 5 (((mset (mset μ6 4 (μ6 0 5).toNatClampNeg x1) 5 ((mset μ6 4 (μ6 0 5).toNatClampNeg x1) 0 5).toNatClampNeg x2) 0 5) + 1)) 0 17 0)) ∧ ((μ6 0 5) = 9 → post (-4) μ6))) ∧ (u5 = 0 → T_X12_work_23 post μ6)))))))
theorem m_X12_work {w : Wd} {l : Launch} {D : va_G} {A : Nat → Prop} (x1 : Int32) (x2 : Int32) (μ : Mem) (post : Int32 → Mem → Prop) (h : T_X12_work x1 x2 μ post) : MetX l D A w shM 22 yX12_work cX12_work 3 (some .int) rm_X12_work [.ref (w.1 0), .int x1, .int x2] μ (pI post) := by
  refine metX_of (by decide) rfl (lv := [(0, .ref (w.1 0)), (1, .int x1), (2, .int x2)]) rfl (fun X hX g hR => ?_)
  refine r_iload_n (pc := 0) 1 g dX12_work_0 rfl ?_
  refine r_iconst (pc := 1) g dX12_work_1 ci_0 ?_
  refine r_sipush (pc := 2) g dX12_work_2 cs_1023 ?_
  refine r_callSi (pc := 5) (st := []) g hX dX12_work_5 (m_X12_isIn x1 0 1023 μ _ h) kb_RX12_79 k_1097 rfl rfl rfl rfl (fun u1 μ2 h => ?_)
  refine r_if_eq (pc := 8) 23 g dX12_work_8 rfl (fun q => ?_) (fun q => ?_)
  · have h := h.1 q
    refine r_sub [] (lv' := []) rfl ?_
    exact v_X12_work_23 g hX post hR μ2 h
  · have h := h.2 q
    refine r_iload_n (pc := 11) 2 g dX12_work_11 rfl ?_
    refine r_iconst (pc := 12) g dX12_work_12 ci_0 ?_
    refine r_aload_n (pc := 13) 0 g dX12_work_13 rfl ?_
    refine r_callVi (pc := 14) (st := [.int 0, .int x2]) g hX dX12_work_14 (m_X12_all μ2 _ h) kb_RX12_134 kv_X12_all shM_out sM_0 rfl rfl rfl rfl (fun u3 μ4 h => ?_)
    refine r_callSi (pc := 17) (st := []) g hX dX12_work_17 (m_X12_isIn x2 0 u3 μ4 _ h) kb_RX12_79 k_1097 rfl rfl rfl rfl (fun u5 μ6 h => ?_)
    refine r_if_ne (pc := 20) 26 g dX12_work_20 rfl (fun q => ?_) (fun q => ?_)
    · have h := h.1 q
      refine r_aload_n (pc := 26) 0 g dX12_work_26 rfl ?_
      refine r_geti (pc := 27) (μ := μ6) g dX12_work_27 fa_RX12_83 shM_out sM_0 rfl ?_
      refine r_bipush (pc := 30) g dX12_work_30 cb_9 ?_
      refine r_icmp_ne (pc := 32) 38 g dX12_work_32 rfl (fun q => ?_) (fun q => ?_)
      · have h := h.1 q
        refine r_aload_n (pc := 38) 0 g dX12_work_38 rfl ?_
        refine r_getr (pc := 39) (μ := μ6) g dX12_work_39 fa_RX12_19 shM_out sM_0 rfl ?_
        refine r_aload_n (pc := 42) 0 g dX12_work_42 rfl ?_
        refine r_geti (pc := 43) (μ := μ6) g dX12_work_43 fa_RX12_83 shM_out sM_0 rfl ?_
        refine r_iload_n (pc := 46) 1 g dX12_work_46 rfl ?_
        obtain ⟨b7, h⟩ := h
        refine r_iastore (pc := 47) (μ := μ6) g dX12_work_47 shM_out sM_4 b7 ?_
        refine r_aload_n (pc := 48) 0 g dX12_work_48 rfl ?_
        refine r_getr (pc := 49) (μ := mset μ6 4 (μ6 0 5).toNatClampNeg x1) g dX12_work_49 fa_RX12_22 shM_out sM_0 rfl ?_
        refine r_aload_n (pc := 52) 0 g dX12_work_52 rfl ?_
        refine r_geti (pc := 53) (μ := mset μ6 4 (μ6 0 5).toNatClampNeg x1) g dX12_work_53 fa_RX12_83 shM_out sM_0 rfl ?_
        refine r_iload_n (pc := 56) 2 g dX12_work_56 rfl ?_
        obtain ⟨b8, h⟩ := h
        refine r_iastore (pc := 57) (μ := mset μ6 4 (μ6 0 5).toNatClampNeg x1) g dX12_work_57 shM_out sM_5 b8 ?_
        refine r_aload_n (pc := 58) 0 g dX12_work_58 rfl ?_
        refine r_dup (pc := 59) g dX12_work_59 rfl ?_
        refine r_geti (pc := 60) (μ := mset (mset μ6 4 (μ6 0 5).toNatClampNeg x1) 5 ((mset μ6 4 (μ6 0 5).toNatClampNeg x1) 0 5).toNatClampNeg x2) g dX12_work_60 fa_RX12_83 shM_out sM_0 rfl ?_
        refine r_iconst (pc := 63) g dX12_work_63 ci_1 ?_
        refine r_iadd (pc := 64) g dX12_work_64 ?_
        refine r_puti (pc := 65) (μ := mset (mset μ6 4 (μ6 0 5).toNatClampNeg x1) 5 ((mset μ6 4 (μ6 0 5).toNatClampNeg x1) 0 5).toNatClampNeg x2) g dX12_work_65 fp_RX12_83 shM_out sM_0 rfl ?_
        refine r_aload_n (pc := 68) 0 g dX12_work_68 rfl ?_
        refine r_iconst (pc := 69) g dX12_work_69 ci_0 ?_
        refine r_puti (pc := 70) (μ := mset (mset (mset μ6 4 (μ6 0 5).toNatClampNeg x1) 5 ((mset μ6 4 (μ6 0 5).toNatClampNeg x1) 0 5).toNatClampNeg x2) 0 5 (((mset (mset μ6 4 (μ6 0 5).toNatClampNeg x1) 5 ((mset μ6 4 (μ6 0 5).toNatClampNeg x1) 0 5).toNatClampNeg x2) 0 5) + 1)) g dX12_work_70 fp_RX12_131 shM_out sM_0 rfl ?_
        refine r_aload_n (pc := 73) 0 g dX12_work_73 rfl ?_
        refine r_geti (pc := 74) (μ := mset (mset (mset (mset μ6 4 (μ6 0 5).toNatClampNeg x1) 5 ((mset μ6 4 (μ6 0 5).toNatClampNeg x1) 0 5).toNatClampNeg x2) 0 5 (((mset (mset μ6 4 (μ6 0 5).toNatClampNeg x1) 5 ((mset μ6 4 (μ6 0 5).toNatClampNeg x1) 0 5).toNatClampNeg x2) 0 5) + 1)) 0 17 0) g dX12_work_74 fa_RX12_83 shM_out sM_0 rfl ?_
        refine r_iconst (pc := 77) g dX12_work_77 ci_1 ?_
        refine r_isub (pc := 78) g dX12_work_78 ?_
        exact r_ireti (pc := 79) g hR dX12_work_79 h
      · have h := h.2 q
        refine r_bipush (pc := 35) g dX12_work_35 cb_m4 ?_
        exact r_ireti (pc := 37) g hR dX12_work_37 h
    · have h := h.2 q
      refine r_sub [] (lv' := []) rfl ?_
      exact v_X12_work_23 g hX post hR μ6 h
abbrev rm_X12_ofWork : Room := { frames := 1, cells := 0, slots := 0, locals := 21 }
def T_X12_ofWork (x1 : Int32) (x2 : Int32) (μ : Mem) (post : Int32 → Mem → Prop) : Prop :=
  T_X12_isWork x1 μ (fun (u1 : Int32) (μ2 : Mem) => ((¬ u1 = 0 → ((¬ x2 = 0 → ((¬ x2 = 1 → post (-2) μ2) ∧ (x2 = 1 → vp_in x1 9 ∧ post (μ2 5 x1.toNatClampNeg) μ2))) ∧ (x2 = 0 → vp_in x1 9 ∧ post (μ2 4 x1.toNatClampNeg) μ2))) ∧ (u1 = 0 → post (-1) μ2)))
theorem m_X12_ofWork {w : Wd} {l : Launch} {D : va_G} {A : Nat → Prop} (x1 : Int32) (x2 : Int32) (μ : Mem) (post : Int32 → Mem → Prop) (h : T_X12_ofWork x1 x2 μ post) : MetX l D A w shM 22 yX12_ofWork cX12_ofWork 3 (some .int) rm_X12_ofWork [.ref (w.1 0), .int x1, .int x2] μ (pI post) := by
  refine metX_of (by decide) rfl (lv := [(0, .ref (w.1 0)), (1, .int x1), (2, .int x2)]) rfl (fun X hX g hR => ?_)
  refine r_aload_n (pc := 0) 0 g dX12_ofWork_0 rfl ?_
  refine r_iload_n (pc := 1) 1 g dX12_ofWork_1 rfl ?_
  refine r_callVi (pc := 2) (st := []) g hX dX12_ofWork_2 (m_X12_isWork x1 μ _ h) kb_RX12_137 kv_X12_isWork shM_out sM_0 rfl rfl rfl rfl (fun u1 μ2 h => ?_)
  refine r_if_ne (pc := 5) 10 g dX12_ofWork_5 rfl (fun q => ?_) (fun q => ?_)
  · have h := h.1 q
    refine r_iload_n (pc := 10) 2 g dX12_ofWork_10 rfl ?_
    refine r_if_ne (pc := 11) 23 g dX12_ofWork_11 rfl (fun q => ?_) (fun q => ?_)
    · have h := h.1 q
      refine r_iload_n (pc := 23) 2 g dX12_ofWork_23 rfl ?_
      refine r_iconst (pc := 24) g dX12_ofWork_24 ci_1 ?_
      refine r_icmp_ne (pc := 25) 37 g dX12_ofWork_25 rfl (fun q => ?_) (fun q => ?_)
      · have h := h.1 q
        refine r_bipush (pc := 37) g dX12_ofWork_37 cb_m2 ?_
        exact r_ireti (pc := 39) g hR dX12_ofWork_39 h
      · have h := h.2 q
        refine r_aload_n (pc := 28) 0 g dX12_ofWork_28 rfl ?_
        refine r_getr (pc := 29) (μ := μ2) g dX12_ofWork_29 fa_RX12_22 shM_out sM_0 rfl ?_
        refine r_iload_n (pc := 32) 1 g dX12_ofWork_32 rfl ?_
        obtain ⟨b3, h⟩ := h
        refine r_iaload (pc := 33) (μ := μ2) g dX12_ofWork_33 shM_out sM_5 b3 ?_
        refine r_goto (pc := 34) 39 g dX12_ofWork_34 rfl ?_
        exact r_ireti (pc := 39) g hR dX12_ofWork_39 h
    · have h := h.2 q
      refine r_aload_n (pc := 14) 0 g dX12_ofWork_14 rfl ?_
      refine r_getr (pc := 15) (μ := μ2) g dX12_ofWork_15 fa_RX12_19 shM_out sM_0 rfl ?_
      refine r_iload_n (pc := 18) 1 g dX12_ofWork_18 rfl ?_
      obtain ⟨b4, h⟩ := h
      refine r_iaload (pc := 19) (μ := μ2) g dX12_ofWork_19 shM_out sM_4 b4 ?_
      refine r_goto (pc := 20) 39 g dX12_ofWork_20 rfl ?_
      exact r_ireti (pc := 39) g hR dX12_ofWork_39 h
  · have h := h.2 q
    refine r_iconst (pc := 8) g dX12_ofWork_8 ci_m1 ?_
    exact r_ireti (pc := 9) g hR dX12_ofWork_9 h
abbrev rm_X12_aheadOf : Room := { frames := 1, cells := 0, slots := 0, locals := 21 }
def T_X12_aheadOf_49 (post : Int32 → Mem → Prop) (P9 : Int32 → Int32 → Mem → Prop) (P19 : Int32 → Int32 → Int32 → Mem → Prop) (x4 : Int32) (x5 : Int32) (s0 : Int32) (s1 : Int32) (μ : Mem) : Prop :=
  P19 (s1 ||| s0) x4 (x5 + 1) μ
theorem v_X12_aheadOf_49 {X : Cx} {w : Wd} {l : Launch} {D : va_G} {A : Nat → Prop} (g : Gd X w RX12 cX12_aheadOf 6 rm_X12_aheadOf) (hX : atX X l D A) (post : Int32 → Mem → Prop) (hR : Rt X w shM 22 (some .int) (pI post)) (P9 : Int32 → Int32 → Mem → Prop) (hP9 : ∀ (x2 : Int32) (x3 : Int32) (μ : Mem), P9 x2 x3 μ → V X 9 [(0, .ref (w.1 0)), (2, .int x2), (3, .int x3)] [] (wls w shM 22 μ)) (P19 : Int32 → Int32 → Int32 → Mem → Prop) (hP19 : ∀ (x2 : Int32) (x4 : Int32) (x5 : Int32) (μ : Mem), P19 x2 x4 x5 μ → V X 19 [(0, .ref (w.1 0)), (2, .int x2), (4, .int x4), (5, .int x5)] [] (wls w shM 22 μ)) (x4 : Int32) (x5 : Int32) (s0 : Int32) (s1 : Int32) (μ : Mem) (h : T_X12_aheadOf_49 post P9 P19 x4 x5 s0 s1 μ) : V X 49 [(0, .ref (w.1 0)), (4, .int x4), (5, .int x5)] [.int s0, .int s1] (wls w shM 22 μ) := by
  refine r_ior (pc := 49) g dX12_aheadOf_49 ?_
  refine r_istore_n (pc := 50) (lv' := [(2, .int (s1 ||| s0)), (0, .ref (w.1 0)), (4, .int x4), (5, .int x5)]) g dX12_aheadOf_50 rfl rfl ?_
  refine r_iinc (pc := 51) (lv' := [(5, .int (x5 + 1)), (2, .int (s1 ||| s0)), (0, .ref (w.1 0)), (4, .int x4)]) 3 g dX12_aheadOf_51 rfl ci_1 rfl rfl ?_
  refine r_goto (pc := 54) 19 g dX12_aheadOf_54 rfl ?_
  refine r_sub [2, 1, 3, 0] (lv' := [(0, .ref (w.1 0)), (2, .int (s1 ||| s0)), (4, .int x4), (5, .int (x5 + 1))]) rfl ?_
  exact hP19 (s1 ||| s0) x4 (x5 + 1) μ h
def T_X12_aheadOf_68 (post : Int32 → Mem → Prop) (P9 : Int32 → Int32 → Mem → Prop) (x2 : Int32) (s0 : Int32) (μ : Mem) : Prop :=
  P9 x2 s0 μ
theorem v_X12_aheadOf_68 {X : Cx} {w : Wd} {l : Launch} {D : va_G} {A : Nat → Prop} (g : Gd X w RX12 cX12_aheadOf 6 rm_X12_aheadOf) (hX : atX X l D A) (post : Int32 → Mem → Prop) (hR : Rt X w shM 22 (some .int) (pI post)) (P9 : Int32 → Int32 → Mem → Prop) (hP9 : ∀ (x2 : Int32) (x3 : Int32) (μ : Mem), P9 x2 x3 μ → V X 9 [(0, .ref (w.1 0)), (2, .int x2), (3, .int x3)] [] (wls w shM 22 μ)) (x2 : Int32) (s0 : Int32) (μ : Mem) (h : T_X12_aheadOf_68 post P9 x2 s0 μ) : V X 68 [(0, .ref (w.1 0)), (2, .int x2)] [.int s0] (wls w shM 22 μ) := by
  refine r_istore_n (pc := 68) (lv' := [(3, .int s0), (0, .ref (w.1 0)), (2, .int x2)]) g dX12_aheadOf_68 rfl rfl ?_
  refine r_goto (pc := 69) 9 g dX12_aheadOf_69 rfl ?_
  refine r_sub [1, 2, 0] (lv' := [(0, .ref (w.1 0)), (2, .int x2), (3, .int s0)]) rfl ?_
  exact hP9 x2 s0 μ h
def B_X12_aheadOf_19 (post : Int32 → Mem → Prop) (P9 : Int32 → Int32 → Mem → Prop) (P19 : Int32 → Int32 → Int32 → Mem → Prop) (x2 : Int32) (x4 : Int32) (x5 : Int32) (μ : Mem) : Prop :=
  (((μ 0 5) ≤ x5 → ((x2 = x4 → T_X12_aheadOf_68 post P9 x2 0 μ) ∧ (¬ x2 = x4 → T_X12_aheadOf_68 post P9 x2 1 μ))) ∧ (¬ (μ 0 5) ≤ x5 → T_X12_has x2 x5 μ (fun (u1 : Int32) (μ2 : Mem) => ((u1 = 0 → T_X12_aheadOf_49 post P9 P19 x4 x5 0 x2 μ2) ∧ (¬ u1 = 0 → vp_in x5 9 ∧ T_X12_aheadOf_49 post P9 P19 x4 x5 (μ2 5 x5.toNatClampNeg) x2 μ2)))))
def T_X12_aheadOf_19 (post : Int32 → Mem → Prop) (P9 : Int32 → Int32 → Mem → Prop) (x2 : Int32) (x4 : Int32) (x5 : Int32) (μ : Mem) : Prop :=
  ∀ P19 : Int32 → Int32 → Int32 → Mem → Prop, (∀ (x2 : Int32) (x4 : Int32) (x5 : Int32) (μ : Mem), B_X12_aheadOf_19 post P9 P19 x2 x4 x5 μ → P19 x2 x4 x5 μ) → P19 x2 x4 x5 μ
theorem bv_X12_aheadOf_19 {X : Cx} {w : Wd} {l : Launch} {D : va_G} {A : Nat → Prop} (g : Gd X w RX12 cX12_aheadOf 6 rm_X12_aheadOf) (hX : atX X l D A) (post : Int32 → Mem → Prop) (hR : Rt X w shM 22 (some .int) (pI post)) (P9 : Int32 → Int32 → Mem → Prop) (hP9 : ∀ (x2 : Int32) (x3 : Int32) (μ : Mem), P9 x2 x3 μ → V X 9 [(0, .ref (w.1 0)), (2, .int x2), (3, .int x3)] [] (wls w shM 22 μ)) (P19 : Int32 → Int32 → Int32 → Mem → Prop) (hP19 : ∀ (x2 : Int32) (x4 : Int32) (x5 : Int32) (μ : Mem), P19 x2 x4 x5 μ → V X 19 [(0, .ref (w.1 0)), (2, .int x2), (4, .int x4), (5, .int x5)] [] (wls w shM 22 μ)) (x2 : Int32) (x4 : Int32) (x5 : Int32) (μ : Mem) (h : B_X12_aheadOf_19 post P9 P19 x2 x4 x5 μ) : V X 19 [(0, .ref (w.1 0)), (2, .int x2), (4, .int x4), (5, .int x5)] [] (wls w shM 22 μ) := by
  refine r_iload (pc := 19) 3 g dX12_aheadOf_19 rfl ?_
  refine r_aload_n (pc := 21) 0 g dX12_aheadOf_21 rfl ?_
  refine r_geti (pc := 22) (μ := μ) g dX12_aheadOf_22 fa_RX12_83 shM_out sM_0 rfl ?_
  refine r_icmp_ge (pc := 25) 57 g dX12_aheadOf_25 rfl (fun q => ?_) (fun q => ?_)
  · have h := h.1 q
    refine r_iload_n (pc := 57) 1 g dX12_aheadOf_57 rfl ?_
    refine r_iload (pc := 58) 2 g dX12_aheadOf_58 rfl ?_
    refine r_icmp_eq (pc := 60) 67 g dX12_aheadOf_60 rfl (fun q => ?_) (fun q => ?_)
    · have h := h.1 q
      refine r_iconst (pc := 67) g dX12_aheadOf_67 ci_0 ?_
      refine r_sub [0, 1] (lv' := [(0, .ref (w.1 0)), (2, .int x2)]) rfl ?_
      exact v_X12_aheadOf_68 g hX post hR P9 hP9 x2 0 μ h
    · have h := h.2 q
      refine r_iconst (pc := 63) g dX12_aheadOf_63 ci_1 ?_
      refine r_goto (pc := 64) 68 g dX12_aheadOf_64 rfl ?_
      refine r_sub [0, 1] (lv' := [(0, .ref (w.1 0)), (2, .int x2)]) rfl ?_
      exact v_X12_aheadOf_68 g hX post hR P9 hP9 x2 1 μ h
  · have h := h.2 q
    refine r_iload_n (pc := 28) 1 g dX12_aheadOf_28 rfl ?_
    refine r_iload_n (pc := 29) 1 g dX12_aheadOf_29 rfl ?_
    refine r_iload (pc := 30) 3 g dX12_aheadOf_30 rfl ?_
    refine r_callSi (pc := 32) (st := [.int x2]) g hX dX12_aheadOf_32 (m_X12_has x2 x5 μ _ h) kb_RX12_96 k_1123 rfl rfl rfl rfl (fun u1 μ2 h => ?_)
    refine r_if_eq (pc := 35) 48 g dX12_aheadOf_35 rfl (fun q => ?_) (fun q => ?_)
    · have h := h.1 q
      refine r_iconst (pc := 48) g dX12_aheadOf_48 ci_0 ?_
      refine r_sub [0, 2, 3] (lv' := [(0, .ref (w.1 0)), (4, .int x4), (5, .int x5)]) rfl ?_
      exact v_X12_aheadOf_49 g hX post hR P9 hP9 P19 hP19 x4 x5 0 x2 μ2 h
    · have h := h.2 q
      refine r_aload_n (pc := 38) 0 g dX12_aheadOf_38 rfl ?_
      refine r_getr (pc := 39) (μ := μ2) g dX12_aheadOf_39 fa_RX12_22 shM_out sM_0 rfl ?_
      refine r_iload (pc := 42) 3 g dX12_aheadOf_42 rfl ?_
      obtain ⟨b3, h⟩ := h
      refine r_iaload (pc := 44) (μ := μ2) g dX12_aheadOf_44 shM_out sM_5 b3 ?_
      refine r_goto (pc := 45) 49 g dX12_aheadOf_45 rfl ?_
      refine r_sub [0, 2, 3] (lv' := [(0, .ref (w.1 0)), (4, .int x4), (5, .int x5)]) rfl ?_
      exact v_X12_aheadOf_49 g hX post hR P9 hP9 P19 hP19 x4 x5 (μ2 5 x5.toNatClampNeg) x2 μ2 h
theorem v_X12_aheadOf_19 {X : Cx} {w : Wd} {l : Launch} {D : va_G} {A : Nat → Prop} (g : Gd X w RX12 cX12_aheadOf 6 rm_X12_aheadOf) (hX : atX X l D A) (post : Int32 → Mem → Prop) (hR : Rt X w shM 22 (some .int) (pI post)) (P9 : Int32 → Int32 → Mem → Prop) (hP9 : ∀ (x2 : Int32) (x3 : Int32) (μ : Mem), P9 x2 x3 μ → V X 9 [(0, .ref (w.1 0)), (2, .int x2), (3, .int x3)] [] (wls w shM 22 μ)) (x2 : Int32) (x4 : Int32) (x5 : Int32) (μ : Mem) (h : T_X12_aheadOf_19 post P9 x2 x4 x5 μ) : V X 19 [(0, .ref (w.1 0)), (2, .int x2), (4, .int x4), (5, .int x5)] [] (wls w shM 22 μ) :=
  h (fun x2 x4 x5 μ => V X 19 [(0, .ref (w.1 0)), (2, .int x2), (4, .int x4), (5, .int x5)] [] (wls w shM 22 μ)) (fun x2 x4 x5 μ h => bv_X12_aheadOf_19 g hX post hR P9 hP9 (fun x2 x4 x5 μ => V X 19 [(0, .ref (w.1 0)), (2, .int x2), (4, .int x4), (5, .int x5)] [] (wls w shM 22 μ)) (fun _ _ _ _ h => h) x2 x4 x5 μ h)
def B_X12_aheadOf_9 (post : Int32 → Mem → Prop) (P9 : Int32 → Int32 → Mem → Prop) (x2 : Int32) (x3 : Int32) (μ : Mem) : Prop :=
  ((x3 = 0 → post x2 μ) ∧ (¬ x3 = 0 → T_X12_aheadOf_19 post P9 x2 x2 0 μ))
def T_X12_aheadOf_9 (post : Int32 → Mem → Prop) (x2 : Int32) (x3 : Int32) (μ : Mem) : Prop :=
  ∀ P9 : Int32 → Int32 → Mem → Prop, (∀ (x2 : Int32) (x3 : Int32) (μ : Mem), B_X12_aheadOf_9 post P9 x2 x3 μ → P9 x2 x3 μ) → P9 x2 x3 μ
theorem bv_X12_aheadOf_9 {X : Cx} {w : Wd} {l : Launch} {D : va_G} {A : Nat → Prop} (g : Gd X w RX12 cX12_aheadOf 6 rm_X12_aheadOf) (hX : atX X l D A) (post : Int32 → Mem → Prop) (hR : Rt X w shM 22 (some .int) (pI post)) (P9 : Int32 → Int32 → Mem → Prop) (hP9 : ∀ (x2 : Int32) (x3 : Int32) (μ : Mem), P9 x2 x3 μ → V X 9 [(0, .ref (w.1 0)), (2, .int x2), (3, .int x3)] [] (wls w shM 22 μ)) (x2 : Int32) (x3 : Int32) (μ : Mem) (h : B_X12_aheadOf_9 post P9 x2 x3 μ) : V X 9 [(0, .ref (w.1 0)), (2, .int x2), (3, .int x3)] [] (wls w shM 22 μ) := by
  refine r_iload_n (pc := 9) 2 g dX12_aheadOf_9 rfl ?_
  refine r_if_eq (pc := 10) 72 g dX12_aheadOf_10 rfl (fun q => ?_) (fun q => ?_)
  · have h := h.1 q
    refine r_iload_n (pc := 72) 1 g dX12_aheadOf_72 rfl ?_
    exact r_ireti (pc := 73) g hR dX12_aheadOf_73 h
  · have h := h.2 q
    refine r_iload_n (pc := 13) 1 g dX12_aheadOf_13 rfl ?_
    refine r_istore (pc := 14) (lv' := [(4, .int x2), (0, .ref (w.1 0)), (2, .int x2), (3, .int x3)]) g dX12_aheadOf_14 rfl rfl ?_
    refine r_iconst (pc := 16) g dX12_aheadOf_16 ci_0 ?_
    refine r_istore (pc := 17) (lv' := [(5, .int 0), (4, .int x2), (0, .ref (w.1 0)), (2, .int x2), (3, .int x3)]) g dX12_aheadOf_17 rfl rfl ?_
    refine r_sub [2, 3, 1, 0] (lv' := [(0, .ref (w.1 0)), (2, .int x2), (4, .int x2), (5, .int 0)]) rfl ?_
    exact v_X12_aheadOf_19 g hX post hR P9 hP9 x2 x2 0 μ h
theorem v_X12_aheadOf_9 {X : Cx} {w : Wd} {l : Launch} {D : va_G} {A : Nat → Prop} (g : Gd X w RX12 cX12_aheadOf 6 rm_X12_aheadOf) (hX : atX X l D A) (post : Int32 → Mem → Prop) (hR : Rt X w shM 22 (some .int) (pI post)) (x2 : Int32) (x3 : Int32) (μ : Mem) (h : T_X12_aheadOf_9 post x2 x3 μ) : V X 9 [(0, .ref (w.1 0)), (2, .int x2), (3, .int x3)] [] (wls w shM 22 μ) :=
  h (fun x2 x3 μ => V X 9 [(0, .ref (w.1 0)), (2, .int x2), (3, .int x3)] [] (wls w shM 22 μ)) (fun x2 x3 μ h => bv_X12_aheadOf_9 g hX post hR (fun x2 x3 μ => V X 9 [(0, .ref (w.1 0)), (2, .int x2), (3, .int x3)] [] (wls w shM 22 μ)) (fun _ _ _ h => h) x2 x3 μ h)
def T_X12_aheadOf (x1 : Int32) (μ : Mem) (post : Int32 → Mem → Prop) : Prop :=
  vp_in x1 9 ∧ T_X12_aheadOf_9 post (μ 5 x1.toNatClampNeg) 1 μ
theorem m_X12_aheadOf {w : Wd} {l : Launch} {D : va_G} {A : Nat → Prop} (x1 : Int32) (μ : Mem) (post : Int32 → Mem → Prop) (h : T_X12_aheadOf x1 μ post) : MetX l D A w shM 22 yX12_aheadOf cX12_aheadOf 6 (some .int) rm_X12_aheadOf [.ref (w.1 0), .int x1] μ (pI post) := by
  refine metX_of (by decide) rfl (lv := [(0, .ref (w.1 0)), (1, .int x1)]) rfl (fun X hX g hR => ?_)
  refine r_aload_n (pc := 0) 0 g dX12_aheadOf_0 rfl ?_
  refine r_getr (pc := 1) (μ := μ) g dX12_aheadOf_1 fa_RX12_22 shM_out sM_0 rfl ?_
  refine r_iload_n (pc := 4) 1 g dX12_aheadOf_4 rfl ?_
  obtain ⟨b1, h⟩ := h
  refine r_iaload (pc := 5) (μ := μ) g dX12_aheadOf_5 shM_out sM_5 b1 ?_
  refine r_istore_n (pc := 6) (lv' := [(2, .int (μ 5 x1.toNatClampNeg)), (0, .ref (w.1 0)), (1, .int x1)]) g dX12_aheadOf_6 rfl rfl ?_
  refine r_iconst (pc := 7) g dX12_aheadOf_7 ci_1 ?_
  refine r_istore_n (pc := 8) (lv' := [(3, .int 1), (2, .int (μ 5 x1.toNatClampNeg)), (0, .ref (w.1 0)), (1, .int x1)]) g dX12_aheadOf_8 rfl rfl ?_
  refine r_sub [2, 1, 0] (lv' := [(0, .ref (w.1 0)), (2, .int (μ 5 x1.toNatClampNeg)), (3, .int 1)]) rfl ?_
  exact v_X12_aheadOf_9 g hX post hR (μ 5 x1.toNatClampNeg) 1 μ h
abbrev rm_X12_before : Room := { frames := 2, cells := 0, slots := 0, locals := 46 }
def T_X12_before_95 (post : Int32 → Mem → Prop) (s0 : Int32) (s1 : Int32) (μ : Mem) : Prop :=
  vp_in s1 9 ∧ post 1 (mset μ 5 s1.toNatClampNeg s0)
theorem v_X12_before_95 {X : Cx} {w : Wd} {l : Launch} {D : va_G} {A : Nat → Prop} (g : Gd X w RX12 cX12_before 4 rm_X12_before) (hX : atX X l D A) (post : Int32 → Mem → Prop) (hR : Rt X w shM 22 (some .int) (pI post)) (s0 : Int32) (s1 : Int32) (μ : Mem) (h : T_X12_before_95 post s0 s1 μ) : V X 95 [] [.int s0, .int s1, .ref (w.1 5)] (wls w shM 22 μ) := by
  obtain ⟨b1, h⟩ := h
  refine r_iastore (pc := 95) (μ := μ) g dX12_before_95 shM_out sM_5 b1 ?_
  refine r_iconst (pc := 96) g dX12_before_96 ci_1 ?_
  exact r_ireti (pc := 97) g hR dX12_before_97 h
def T_X12_before_61 (post : Int32 → Mem → Prop) (x1 : Int32) (x2 : Int32) (x3 : Int32) (μ : Mem) : Prop :=
  ((x3 = 0 → vp_in x2 9 ∧ T_X12_before_95 post ((μ 5 x2.toNatClampNeg) &&& (((1 : Int32) <<< (x1 &&& 31)) ^^^ (-1))) x2 μ) ∧ (¬ x3 = 0 → vp_in x2 9 ∧ T_X12_before_95 post ((μ 5 x2.toNatClampNeg) ||| ((1 : Int32) <<< (x1 &&& 31))) x2 μ))
theorem v_X12_before_61 {X : Cx} {w : Wd} {l : Launch} {D : va_G} {A : Nat → Prop} (g : Gd X w RX12 cX12_before 4 rm_X12_before) (hX : atX X l D A) (post : Int32 → Mem → Prop) (hR : Rt X w shM 22 (some .int) (pI post)) (x1 : Int32) (x2 : Int32) (x3 : Int32) (μ : Mem) (h : T_X12_before_61 post x1 x2 x3 μ) : V X 61 [(0, .ref (w.1 0)), (1, .int x1), (2, .int x2), (3, .int x3)] [] (wls w shM 22 μ) := by
  refine r_aload_n (pc := 61) 0 g dX12_before_61 rfl ?_
  refine r_getr (pc := 62) (μ := μ) g dX12_before_62 fa_RX12_22 shM_out sM_0 rfl ?_
  refine r_iload_n (pc := 65) 2 g dX12_before_65 rfl ?_
  refine r_iload_n (pc := 66) 3 g dX12_before_66 rfl ?_
  refine r_if_eq (pc := 67) 83 g dX12_before_67 rfl (fun q => ?_) (fun q => ?_)
  · have h := h.1 q
    refine r_aload_n (pc := 83) 0 g dX12_before_83 rfl ?_
    refine r_getr (pc := 84) (μ := μ) g dX12_before_84 fa_RX12_22 shM_out sM_0 rfl ?_
    refine r_iload_n (pc := 87) 2 g dX12_before_87 rfl ?_
    obtain ⟨b1, h⟩ := h
    refine r_iaload (pc := 88) (μ := μ) g dX12_before_88 shM_out sM_5 b1 ?_
    refine r_iconst (pc := 89) g dX12_before_89 ci_1 ?_
    refine r_iload_n (pc := 90) 1 g dX12_before_90 rfl ?_
    refine r_ishl (pc := 91) g dX12_before_91 ?_
    refine r_iconst (pc := 92) g dX12_before_92 ci_m1 ?_
    refine r_ixor (pc := 93) g dX12_before_93 ?_
    refine r_iand (pc := 94) g dX12_before_94 ?_
    refine r_sub [] (lv' := []) rfl ?_
    exact v_X12_before_95 g hX post hR ((μ 5 x2.toNatClampNeg) &&& (((1 : Int32) <<< (x1 &&& 31)) ^^^ (-1))) x2 μ h
  · have h := h.2 q
    refine r_aload_n (pc := 70) 0 g dX12_before_70 rfl ?_
    refine r_getr (pc := 71) (μ := μ) g dX12_before_71 fa_RX12_22 shM_out sM_0 rfl ?_
    refine r_iload_n (pc := 74) 2 g dX12_before_74 rfl ?_
    obtain ⟨b2, h⟩ := h
    refine r_iaload (pc := 75) (μ := μ) g dX12_before_75 shM_out sM_5 b2 ?_
    refine r_iconst (pc := 76) g dX12_before_76 ci_1 ?_
    refine r_iload_n (pc := 77) 1 g dX12_before_77 rfl ?_
    refine r_ishl (pc := 78) g dX12_before_78 ?_
    refine r_ior (pc := 79) g dX12_before_79 ?_
    refine r_goto (pc := 80) 95 g dX12_before_80 rfl ?_
    refine r_sub [] (lv' := []) rfl ?_
    exact v_X12_before_95 g hX post hR ((μ 5 x2.toNatClampNeg) ||| ((1 : Int32) <<< (x1 &&& 31))) x2 μ h
def T_X12_before (x1 : Int32) (x2 : Int32) (x3 : Int32) (μ : Mem) (post : Int32 → Mem → Prop) : Prop :=
  T_X12_isWork x1 μ (fun (u1 : Int32) (μ2 : Mem) => ((u1 = 0 → post (-1) μ2) ∧ (¬ u1 = 0 → T_X12_isWork x2 μ2 (fun (u3 : Int32) (μ4 : Mem) => ((¬ u3 = 0 → ((¬ x1 = x2 → vp_in x2 9 ∧ T_X12_has (μ4 5 x2.toNatClampNeg) x1 μ4 (fun (u6 : Int32) (μ7 : Mem) => ((¬ u6 = x3 → ((x3 = 0 → T_X12_before_61 post x1 x2 x3 μ7) ∧ (¬ x3 = 0 → T_X12_aheadOf x1 μ7 (fun (u8 : Int32) (μ9 : Mem) => T_X12_has u8 x2 μ9 (fun (u10 : Int32) (μ11 : Mem) => ((u10 = 0 → T_X12_before_61 post x1 x2 x3 μ11) ∧ (¬ u10 = 0 → post (-3) μ11))))))) ∧ (u6 = x3 → post 0 μ7)))) ∧ (x1 = x2 → post (-2) μ4))) ∧ (u3 = 0 → post (-1) μ4))))))
theorem m_X12_before {w : Wd} {l : Launch} {D : va_G} {A : Nat → Prop} (x1 : Int32) (x2 : Int32) (x3 : Int32) (μ : Mem) (post : Int32 → Mem → Prop) (h : T_X12_before x1 x2 x3 μ post) : MetX l D A w shM 22 yX12_before cX12_before 4 (some .int) rm_X12_before [.ref (w.1 0), .int x1, .int x2, .int x3] μ (pI post) := by
  refine metX_of (by decide) rfl (lv := [(0, .ref (w.1 0)), (1, .int x1), (2, .int x2), (3, .int x3)]) rfl (fun X hX g hR => ?_)
  refine r_aload_n (pc := 0) 0 g dX12_before_0 rfl ?_
  refine r_iload_n (pc := 1) 1 g dX12_before_1 rfl ?_
  refine r_callVi (pc := 2) (st := []) g hX dX12_before_2 (m_X12_isWork x1 μ _ h) kb_RX12_137 kv_X12_isWork shM_out sM_0 rfl rfl rfl rfl (fun u1 μ2 h => ?_)
  refine r_if_eq (pc := 5) 16 g dX12_before_5 rfl (fun q => ?_) (fun q => ?_)
  · have h := h.1 q
    refine r_iconst (pc := 16) g dX12_before_16 ci_m1 ?_
    exact r_ireti (pc := 17) g hR dX12_before_17 h
  · have h := h.2 q
    refine r_aload_n (pc := 8) 0 g dX12_before_8 rfl ?_
    refine r_iload_n (pc := 9) 2 g dX12_before_9 rfl ?_
    refine r_callVi (pc := 10) (st := []) g hX dX12_before_10 (m_X12_isWork x2 μ2 _ h) kb_RX12_137 kv_X12_isWork shM_out sM_0 rfl rfl rfl rfl (fun u3 μ4 h => ?_)
    refine r_if_ne (pc := 13) 18 g dX12_before_13 rfl (fun q => ?_) (fun q => ?_)
    · have h := h.1 q
      refine r_iload_n (pc := 18) 1 g dX12_before_18 rfl ?_
      refine r_iload_n (pc := 19) 2 g dX12_before_19 rfl ?_
      refine r_icmp_ne (pc := 20) 26 g dX12_before_20 rfl (fun q => ?_) (fun q => ?_)
      · have h := h.1 q
        refine r_aload_n (pc := 26) 0 g dX12_before_26 rfl ?_
        refine r_getr (pc := 27) (μ := μ4) g dX12_before_27 fa_RX12_22 shM_out sM_0 rfl ?_
        refine r_iload_n (pc := 30) 2 g dX12_before_30 rfl ?_
        obtain ⟨b5, h⟩ := h
        refine r_iaload (pc := 31) (μ := μ4) g dX12_before_31 shM_out sM_5 b5 ?_
        refine r_iload_n (pc := 32) 1 g dX12_before_32 rfl ?_
        refine r_callSi (pc := 33) (st := []) g hX dX12_before_33 (m_X12_has (μ4 5 x2.toNatClampNeg) x1 μ4 _ h) kb_RX12_96 k_1123 rfl rfl rfl rfl (fun u6 μ7 h => ?_)
        refine r_iload_n (pc := 36) 3 g dX12_before_36 rfl ?_
        refine r_icmp_ne (pc := 37) 42 g dX12_before_37 rfl (fun q => ?_) (fun q => ?_)
        · have h := h.1 q
          refine r_iload_n (pc := 42) 3 g dX12_before_42 rfl ?_
          refine r_if_eq (pc := 43) 61 g dX12_before_43 rfl (fun q => ?_) (fun q => ?_)
          · have h := h.1 q
            refine r_sub [0, 1, 2, 3] (lv' := [(0, .ref (w.1 0)), (1, .int x1), (2, .int x2), (3, .int x3)]) rfl ?_
            exact v_X12_before_61 g hX post hR x1 x2 x3 μ7 h
          · have h := h.2 q
            refine r_aload_n (pc := 46) 0 g dX12_before_46 rfl ?_
            refine r_iload_n (pc := 47) 1 g dX12_before_47 rfl ?_
            refine r_callVi (pc := 48) (st := []) g hX dX12_before_48 (m_X12_aheadOf x1 μ7 _ h) kb_RX12_140 kv_X12_aheadOf shM_out sM_0 rfl rfl rfl rfl (fun u8 μ9 h => ?_)
            refine r_iload_n (pc := 51) 2 g dX12_before_51 rfl ?_
            refine r_callSi (pc := 52) (st := []) g hX dX12_before_52 (m_X12_has u8 x2 μ9 _ h) kb_RX12_96 k_1123 rfl rfl rfl rfl (fun u10 μ11 h => ?_)
            refine r_if_eq (pc := 55) 61 g dX12_before_55 rfl (fun q => ?_) (fun q => ?_)
            · have h := h.1 q
              refine r_sub [0, 1, 2, 3] (lv' := [(0, .ref (w.1 0)), (1, .int x1), (2, .int x2), (3, .int x3)]) rfl ?_
              exact v_X12_before_61 g hX post hR x1 x2 x3 μ11 h
            · have h := h.2 q
              refine r_bipush (pc := 58) g dX12_before_58 cb_m3 ?_
              exact r_ireti (pc := 60) g hR dX12_before_60 h
        · have h := h.2 q
          refine r_iconst (pc := 40) g dX12_before_40 ci_0 ?_
          exact r_ireti (pc := 41) g hR dX12_before_41 h
      · have h := h.2 q
        refine r_bipush (pc := 23) g dX12_before_23 cb_m2 ?_
        exact r_ireti (pc := 25) g hR dX12_before_25 h
    · have h := h.2 q
      refine r_iconst (pc := 16) g dX12_before_16 ci_m1 ?_
      exact r_ireti (pc := 17) g hR dX12_before_17 h
abbrev rm_X12_thing : Room := { frames := 1, cells := 0, slots := 0, locals := 22 }
def T_X12_thing_48 (post : Int32 → Mem → Prop) (μ : Mem) : Prop :=
  post (-2) μ
theorem v_X12_thing_48 {X : Cx} {w : Wd} {l : Launch} {D : va_G} {A : Nat → Prop} (g : Gd X w RX12 cX12_thing 5 rm_X12_thing) (hX : atX X l D A) (post : Int32 → Mem → Prop) (hR : Rt X w shM 22 (some .int) (pI post)) (μ : Mem) (h : T_X12_thing_48 post μ) : V X 48 [] [] (wls w shM 22 μ) := by
  refine r_bipush (pc := 48) g dX12_thing_48 cb_m2 ?_
  exact r_ireti (pc := 50) g hR dX12_thing_50 h
def T_X12_thing_93 (post : Int32 → Mem → Prop) (x4 : Int32) (μ : Mem) : Prop :=
  post x4 μ
theorem v_X12_thing_93 {X : Cx} {w : Wd} {l : Launch} {D : va_G} {A : Nat → Prop} (g : Gd X w RX12 cX12_thing 5 rm_X12_thing) (hX : atX X l D A) (post : Int32 → Mem → Prop) (hR : Rt X w shM 22 (some .int) (pI post)) (x4 : Int32) (μ : Mem) (h : T_X12_thing_93 post x4 μ) : V X 93 [(4, .int x4)] [] (wls w shM 22 μ) := by
  refine r_iload (pc := 93) 0 g dX12_thing_93 rfl ?_
  exact r_ireti (pc := 95) g hR dX12_thing_95 h
def T_X12_thing_70 (post : Int32 → Mem → Prop) (x1 : Int32) (x2 : Int32) (x3 : Int32) (s0 : Int32) (μ : Mem) : Prop :=
  ((¬ x2 = 0 → vp_in x1 10 ∧ T_X12_thing_93 post s0 (mset μ 7 x1.toNatClampNeg x3)) ∧ (x2 = 0 → vp_in x1 10 ∧ T_X12_thing_93 post s0 (mset μ 6 x1.toNatClampNeg x3)))
theorem v_X12_thing_70 {X : Cx} {w : Wd} {l : Launch} {D : va_G} {A : Nat → Prop} (g : Gd X w RX12 cX12_thing 5 rm_X12_thing) (hX : atX X l D A) (post : Int32 → Mem → Prop) (hR : Rt X w shM 22 (some .int) (pI post)) (x1 : Int32) (x2 : Int32) (x3 : Int32) (s0 : Int32) (μ : Mem) (h : T_X12_thing_70 post x1 x2 x3 s0 μ) : V X 70 [(0, .ref (w.1 0)), (1, .int x1), (2, .int x2), (3, .int x3)] [.int s0] (wls w shM 22 μ) := by
  refine r_istore (pc := 70) (lv' := [(4, .int s0), (0, .ref (w.1 0)), (1, .int x1), (2, .int x2), (3, .int x3)]) g dX12_thing_70 rfl rfl ?_
  refine r_iload_n (pc := 72) 3 g dX12_thing_72 rfl ?_
  refine r_if_ne (pc := 73) 86 g dX12_thing_73 rfl (fun q => ?_) (fun q => ?_)
  · have h := h.1 q
    refine r_aload_n (pc := 86) 1 g dX12_thing_86 rfl ?_
    refine r_getr (pc := 87) (μ := μ) g dX12_thing_87 fa_RX12_28 shM_out sM_0 rfl ?_
    refine r_iload_n (pc := 90) 2 g dX12_thing_90 rfl ?_
    refine r_iload_n (pc := 91) 4 g dX12_thing_91 rfl ?_
    obtain ⟨b1, h⟩ := h
    refine r_iastore (pc := 92) (μ := μ) g dX12_thing_92 shM_out sM_7 b1 ?_
    refine r_sub [0] (lv' := [(4, .int s0)]) rfl ?_
    exact v_X12_thing_93 g hX post hR s0 (mset μ 7 x1.toNatClampNeg x3) h
  · have h := h.2 q
    refine r_aload_n (pc := 76) 1 g dX12_thing_76 rfl ?_
    refine r_getr (pc := 77) (μ := μ) g dX12_thing_77 fa_RX12_25 shM_out sM_0 rfl ?_
    refine r_iload_n (pc := 80) 2 g dX12_thing_80 rfl ?_
    refine r_iload_n (pc := 81) 4 g dX12_thing_81 rfl ?_
    obtain ⟨b2, h⟩ := h
    refine r_iastore (pc := 82) (μ := μ) g dX12_thing_82 shM_out sM_6 b2 ?_
    refine r_goto (pc := 83) 93 g dX12_thing_83 rfl ?_
    refine r_sub [0] (lv' := [(4, .int s0)]) rfl ?_
    exact v_X12_thing_93 g hX post hR s0 (mset μ 6 x1.toNatClampNeg x3) h
def T_X12_thing_42 (post : Int32 → Mem → Prop) (x1 : Int32) (x2 : Int32) (x3 : Int32) (s0 : Int32) (s1 : Int32) (s2 : Int32) (μ : Mem) : Prop :=
  T_X12_isIn s2 s1 s0 μ (fun (u1 : Int32) (μ2 : Mem) => ((¬ u1 = 0 → ((¬ x2 = 0 → vp_in x1 10 ∧ T_X12_thing_70 post x1 x2 x3 (μ2 7 x1.toNatClampNeg) μ2) ∧ (x2 = 0 → vp_in x1 10 ∧ T_X12_thing_70 post x1 x2 x3 (μ2 6 x1.toNatClampNeg) μ2))) ∧ (u1 = 0 → T_X12_thing_48 post μ2)))
theorem v_X12_thing_42 {X : Cx} {w : Wd} {l : Launch} {D : va_G} {A : Nat → Prop} (g : Gd X w RX12 cX12_thing 5 rm_X12_thing) (hX : atX X l D A) (post : Int32 → Mem → Prop) (hR : Rt X w shM 22 (some .int) (pI post)) (x1 : Int32) (x2 : Int32) (x3 : Int32) (s0 : Int32) (s1 : Int32) (s2 : Int32) (μ : Mem) (h : T_X12_thing_42 post x1 x2 x3 s0 s1 s2 μ) : V X 42 [(0, .ref (w.1 0)), (1, .int x1), (2, .int x2), (3, .int x3)] [.int s0, .int s1, .int s2] (wls w shM 22 μ) := by
  refine r_callSi (pc := 42) (st := []) g hX dX12_thing_42 (m_X12_isIn s2 s1 s0 μ _ h) kb_RX12_79 k_1097 rfl rfl rfl rfl (fun u1 μ2 h => ?_)
  refine r_if_ne (pc := 45) 51 g dX12_thing_45 rfl (fun q => ?_) (fun q => ?_)
  · have h := h.1 q
    refine r_iload_n (pc := 51) 2 g dX12_thing_51 rfl ?_
    refine r_if_ne (pc := 52) 64 g dX12_thing_52 rfl (fun q => ?_) (fun q => ?_)
    · have h := h.1 q
      refine r_aload_n (pc := 64) 0 g dX12_thing_64 rfl ?_
      refine r_getr (pc := 65) (μ := μ2) g dX12_thing_65 fa_RX12_28 shM_out sM_0 rfl ?_
      refine r_iload_n (pc := 68) 1 g dX12_thing_68 rfl ?_
      obtain ⟨b3, h⟩ := h
      refine r_iaload (pc := 69) (μ := μ2) g dX12_thing_69 shM_out sM_7 b3 ?_
      refine r_sub [0, 1, 2, 3] (lv' := [(0, .ref (w.1 0)), (1, .int x1), (2, .int x2), (3, .int x3)]) rfl ?_
      exact v_X12_thing_70 g hX post hR x1 x2 x3 (μ2 7 x1.toNatClampNeg) μ2 h
    · have h := h.2 q
      refine r_aload_n (pc := 55) 0 g dX12_thing_55 rfl ?_
      refine r_getr (pc := 56) (μ := μ2) g dX12_thing_56 fa_RX12_25 shM_out sM_0 rfl ?_
      refine r_iload_n (pc := 59) 1 g dX12_thing_59 rfl ?_
      obtain ⟨b4, h⟩ := h
      refine r_iaload (pc := 60) (μ := μ2) g dX12_thing_60 shM_out sM_6 b4 ?_
      refine r_goto (pc := 61) 70 g dX12_thing_61 rfl ?_
      refine r_sub [0, 1, 2, 3] (lv' := [(0, .ref (w.1 0)), (1, .int x1), (2, .int x2), (3, .int x3)]) rfl ?_
      exact v_X12_thing_70 g hX post hR x1 x2 x3 (μ2 6 x1.toNatClampNeg) μ2 h
  · have h := h.2 q
    refine r_sub [] (lv' := []) rfl ?_
    exact v_X12_thing_48 g hX post hR μ2 h
def T_X12_thing_31 (post : Int32 → Mem → Prop) (x1 : Int32) (x2 : Int32) (x3 : Int32) (s0 : Int32) (s1 : Int32) (μ : Mem) : Prop :=
  ((¬ x2 = 0 → T_X12_thing_42 post x1 x2 x3 99 s0 s1 μ) ∧ (x2 = 0 → T_X12_thing_42 post x1 x2 x3 9 s0 s1 μ))
theorem v_X12_thing_31 {X : Cx} {w : Wd} {l : Launch} {D : va_G} {A : Nat → Prop} (g : Gd X w RX12 cX12_thing 5 rm_X12_thing) (hX : atX X l D A) (post : Int32 → Mem → Prop) (hR : Rt X w shM 22 (some .int) (pI post)) (x1 : Int32) (x2 : Int32) (x3 : Int32) (s0 : Int32) (s1 : Int32) (μ : Mem) (h : T_X12_thing_31 post x1 x2 x3 s0 s1 μ) : V X 31 [(0, .ref (w.1 0)), (1, .int x1), (2, .int x2), (3, .int x3)] [.int s0, .int s1] (wls w shM 22 μ) := by
  refine r_iload_n (pc := 31) 2 g dX12_thing_31 rfl ?_
  refine r_if_ne (pc := 32) 40 g dX12_thing_32 rfl (fun q => ?_) (fun q => ?_)
  · have h := h.1 q
    refine r_bipush (pc := 40) g dX12_thing_40 cb_99 ?_
    refine r_sub [0, 1, 2, 3] (lv' := [(0, .ref (w.1 0)), (1, .int x1), (2, .int x2), (3, .int x3)]) rfl ?_
    exact v_X12_thing_42 g hX post hR x1 x2 x3 99 s0 s1 μ h
  · have h := h.2 q
    refine r_bipush (pc := 35) g dX12_thing_35 cb_9 ?_
    refine r_goto (pc := 37) 42 g dX12_thing_37 rfl ?_
    refine r_sub [0, 1, 2, 3] (lv' := [(0, .ref (w.1 0)), (1, .int x1), (2, .int x2), (3, .int x3)]) rfl ?_
    exact v_X12_thing_42 g hX post hR x1 x2 x3 9 s0 s1 μ h
def T_X12_thing (x1 : Int32) (x2 : Int32) (x3 : Int32) (μ : Mem) (post : Int32 → Mem → Prop) : Prop :=
  T_X12_isIn x1 0 9 μ (fun (u1 : Int32) (μ2 : Mem) => ((¬ u1 = 0 → T_X12_isIn x2 0 1 μ2 (fun (u3 : Int32) (μ4 : Mem) => ((u3 = 0 → T_X12_thing_48 post μ4) ∧ (¬ u3 = 0 → ((¬ x2 = 0 → T_X12_thing_31 post x1 x2 x3 0 x3 μ4) ∧ (x2 = 0 → T_X12_thing_31 post x1 x2 x3 1 x3 μ4)))))) ∧ (u1 = 0 → post (-1) μ2)))
theorem m_X12_thing {w : Wd} {l : Launch} {D : va_G} {A : Nat → Prop} (x1 : Int32) (x2 : Int32) (x3 : Int32) (μ : Mem) (post : Int32 → Mem → Prop) (h : T_X12_thing x1 x2 x3 μ post) : MetX l D A w shM 22 yX12_thing cX12_thing 5 (some .int) rm_X12_thing [.ref (w.1 0), .int x1, .int x2, .int x3] μ (pI post) := by
  refine metX_of (by decide) rfl (lv := [(0, .ref (w.1 0)), (1, .int x1), (2, .int x2), (3, .int x3)]) rfl (fun X hX g hR => ?_)
  refine r_iload_n (pc := 0) 1 g dX12_thing_0 rfl ?_
  refine r_iconst (pc := 1) g dX12_thing_1 ci_0 ?_
  refine r_bipush (pc := 2) g dX12_thing_2 cb_9 ?_
  refine r_callSi (pc := 4) (st := []) g hX dX12_thing_4 (m_X12_isIn x1 0 9 μ _ h) kb_RX12_79 k_1097 rfl rfl rfl rfl (fun u1 μ2 h => ?_)
  refine r_if_ne (pc := 7) 12 g dX12_thing_7 rfl (fun q => ?_) (fun q => ?_)
  · have h := h.1 q
    refine r_iload_n (pc := 12) 2 g dX12_thing_12 rfl ?_
    refine r_iconst (pc := 13) g dX12_thing_13 ci_0 ?_
    refine r_iconst (pc := 14) g dX12_thing_14 ci_1 ?_
    refine r_callSi (pc := 15) (st := []) g hX dX12_thing_15 (m_X12_isIn x2 0 1 μ2 _ h) kb_RX12_79 k_1097 rfl rfl rfl rfl (fun u3 μ4 h => ?_)
    refine r_if_eq (pc := 18) 48 g dX12_thing_18 rfl (fun q => ?_) (fun q => ?_)
    · have h := h.1 q
      refine r_sub [] (lv' := []) rfl ?_
      exact v_X12_thing_48 g hX post hR μ4 h
    · have h := h.2 q
      refine r_iload_n (pc := 21) 3 g dX12_thing_21 rfl ?_
      refine r_iload_n (pc := 22) 2 g dX12_thing_22 rfl ?_
      refine r_if_ne (pc := 23) 30 g dX12_thing_23 rfl (fun q => ?_) (fun q => ?_)
      · have h := h.1 q
        refine r_iconst (pc := 30) g dX12_thing_30 ci_0 ?_
        refine r_sub [0, 1, 2, 3] (lv' := [(0, .ref (w.1 0)), (1, .int x1), (2, .int x2), (3, .int x3)]) rfl ?_
        exact v_X12_thing_31 g hX post hR x1 x2 x3 0 x3 μ4 h
      · have h := h.2 q
        refine r_iconst (pc := 26) g dX12_thing_26 ci_1 ?_
        refine r_goto (pc := 27) 31 g dX12_thing_27 rfl ?_
        refine r_sub [0, 1, 2, 3] (lv' := [(0, .ref (w.1 0)), (1, .int x1), (2, .int x2), (3, .int x3)]) rfl ?_
        exact v_X12_thing_31 g hX post hR x1 x2 x3 1 x3 μ4 h
  · have h := h.2 q
    refine r_iconst (pc := 10) g dX12_thing_10 ci_m1 ?_
    exact r_ireti (pc := 11) g hR dX12_thing_11 h
abbrev rm_X12_sizeOf : Room := { frames := 1, cells := 0, slots := 0, locals := 21 }
def T_X12_sizeOf_29 (post : Int32 → Mem → Prop) (P4 : Int32 → Int32 → Int32 → Mem → Prop) (x1 : Int32) (x3 : Int32) (s0 : Int32) (s1 : Int32) (μ : Mem) : Prop :=
  P4 x1 (s1 + s0) (x3 + 1) μ
theorem v_X12_sizeOf_29 {X : Cx} {w : Wd} {l : Launch} {D : va_G} {A : Nat → Prop} (g : Gd X w RX12 cX12_sizeOf 4 rm_X12_sizeOf) (hX : atX X l D A) (post : Int32 → Mem → Prop) (hR : Rt X w shM 22 (some .int) (pI post)) (P4 : Int32 → Int32 → Int32 → Mem → Prop) (hP4 : ∀ (x1 : Int32) (x2 : Int32) (x3 : Int32) (μ : Mem), P4 x1 x2 x3 μ → V X 4 [(0, .ref (w.1 0)), (1, .int x1), (2, .int x2), (3, .int x3)] [] (wls w shM 22 μ)) (x1 : Int32) (x3 : Int32) (s0 : Int32) (s1 : Int32) (μ : Mem) (h : T_X12_sizeOf_29 post P4 x1 x3 s0 s1 μ) : V X 29 [(0, .ref (w.1 0)), (1, .int x1), (3, .int x3)] [.int s0, .int s1] (wls w shM 22 μ) := by
  refine r_iadd (pc := 29) g dX12_sizeOf_29 ?_
  refine r_istore_n (pc := 30) (lv' := [(2, .int (s1 + s0)), (0, .ref (w.1 0)), (1, .int x1), (3, .int x3)]) g dX12_sizeOf_30 rfl rfl ?_
  refine r_iinc (pc := 31) (lv' := [(3, .int (x3 + 1)), (2, .int (s1 + s0)), (0, .ref (w.1 0)), (1, .int x1)]) 3 g dX12_sizeOf_31 rfl ci_1 rfl rfl ?_
  refine r_goto (pc := 34) 4 g dX12_sizeOf_34 rfl ?_
  refine r_sub [2, 3, 1, 0] (lv' := [(0, .ref (w.1 0)), (1, .int x1), (2, .int (s1 + s0)), (3, .int (x3 + 1))]) rfl ?_
  exact hP4 x1 (s1 + s0) (x3 + 1) μ h
def B_X12_sizeOf_4 (post : Int32 → Mem → Prop) (P4 : Int32 → Int32 → Int32 → Mem → Prop) (x1 : Int32) (x2 : Int32) (x3 : Int32) (μ : Mem) : Prop :=
  ((10 ≤ x3 → post x2 μ) ∧ (¬ 10 ≤ x3 → T_X12_has x1 x3 μ (fun (u1 : Int32) (μ2 : Mem) => ((u1 = 0 → T_X12_sizeOf_29 post P4 x1 x3 0 x2 μ2) ∧ (¬ u1 = 0 → vp_in x3 10 ∧ T_X12_sizeOf_29 post P4 x1 x3 (μ2 6 x3.toNatClampNeg) x2 μ2)))))
def T_X12_sizeOf_4 (post : Int32 → Mem → Prop) (x1 : Int32) (x2 : Int32) (x3 : Int32) (μ : Mem) : Prop :=
  ∀ P4 : Int32 → Int32 → Int32 → Mem → Prop, (∀ (x1 : Int32) (x2 : Int32) (x3 : Int32) (μ : Mem), B_X12_sizeOf_4 post P4 x1 x2 x3 μ → P4 x1 x2 x3 μ) → P4 x1 x2 x3 μ
theorem bv_X12_sizeOf_4 {X : Cx} {w : Wd} {l : Launch} {D : va_G} {A : Nat → Prop} (g : Gd X w RX12 cX12_sizeOf 4 rm_X12_sizeOf) (hX : atX X l D A) (post : Int32 → Mem → Prop) (hR : Rt X w shM 22 (some .int) (pI post)) (P4 : Int32 → Int32 → Int32 → Mem → Prop) (hP4 : ∀ (x1 : Int32) (x2 : Int32) (x3 : Int32) (μ : Mem), P4 x1 x2 x3 μ → V X 4 [(0, .ref (w.1 0)), (1, .int x1), (2, .int x2), (3, .int x3)] [] (wls w shM 22 μ)) (x1 : Int32) (x2 : Int32) (x3 : Int32) (μ : Mem) (h : B_X12_sizeOf_4 post P4 x1 x2 x3 μ) : V X 4 [(0, .ref (w.1 0)), (1, .int x1), (2, .int x2), (3, .int x3)] [] (wls w shM 22 μ) := by
  refine r_iload_n (pc := 4) 3 g dX12_sizeOf_4 rfl ?_
  refine r_bipush (pc := 5) g dX12_sizeOf_5 cb_10 ?_
  refine r_icmp_ge (pc := 7) 37 g dX12_sizeOf_7 rfl (fun q => ?_) (fun q => ?_)
  · have h := h.1 q
    refine r_iload_n (pc := 37) 2 g dX12_sizeOf_37 rfl ?_
    exact r_ireti (pc := 38) g hR dX12_sizeOf_38 h
  · have h := h.2 q
    refine r_iload_n (pc := 10) 2 g dX12_sizeOf_10 rfl ?_
    refine r_iload_n (pc := 11) 1 g dX12_sizeOf_11 rfl ?_
    refine r_iload_n (pc := 12) 3 g dX12_sizeOf_12 rfl ?_
    refine r_callSi (pc := 13) (st := [.int x2]) g hX dX12_sizeOf_13 (m_X12_has x1 x3 μ _ h) kb_RX12_96 k_1123 rfl rfl rfl rfl (fun u1 μ2 h => ?_)
    refine r_if_eq (pc := 16) 28 g dX12_sizeOf_16 rfl (fun q => ?_) (fun q => ?_)
    · have h := h.1 q
      refine r_iconst (pc := 28) g dX12_sizeOf_28 ci_0 ?_
      refine r_sub [0, 1, 3] (lv' := [(0, .ref (w.1 0)), (1, .int x1), (3, .int x3)]) rfl ?_
      exact v_X12_sizeOf_29 g hX post hR P4 hP4 x1 x3 0 x2 μ2 h
    · have h := h.2 q
      refine r_aload_n (pc := 19) 0 g dX12_sizeOf_19 rfl ?_
      refine r_getr (pc := 20) (μ := μ2) g dX12_sizeOf_20 fa_RX12_25 shM_out sM_0 rfl ?_
      refine r_iload_n (pc := 23) 3 g dX12_sizeOf_23 rfl ?_
      obtain ⟨b3, h⟩ := h
      refine r_iaload (pc := 24) (μ := μ2) g dX12_sizeOf_24 shM_out sM_6 b3 ?_
      refine r_goto (pc := 25) 29 g dX12_sizeOf_25 rfl ?_
      refine r_sub [0, 1, 3] (lv' := [(0, .ref (w.1 0)), (1, .int x1), (3, .int x3)]) rfl ?_
      exact v_X12_sizeOf_29 g hX post hR P4 hP4 x1 x3 (μ2 6 x3.toNatClampNeg) x2 μ2 h
theorem v_X12_sizeOf_4 {X : Cx} {w : Wd} {l : Launch} {D : va_G} {A : Nat → Prop} (g : Gd X w RX12 cX12_sizeOf 4 rm_X12_sizeOf) (hX : atX X l D A) (post : Int32 → Mem → Prop) (hR : Rt X w shM 22 (some .int) (pI post)) (x1 : Int32) (x2 : Int32) (x3 : Int32) (μ : Mem) (h : T_X12_sizeOf_4 post x1 x2 x3 μ) : V X 4 [(0, .ref (w.1 0)), (1, .int x1), (2, .int x2), (3, .int x3)] [] (wls w shM 22 μ) :=
  h (fun x1 x2 x3 μ => V X 4 [(0, .ref (w.1 0)), (1, .int x1), (2, .int x2), (3, .int x3)] [] (wls w shM 22 μ)) (fun x1 x2 x3 μ h => bv_X12_sizeOf_4 g hX post hR (fun x1 x2 x3 μ => V X 4 [(0, .ref (w.1 0)), (1, .int x1), (2, .int x2), (3, .int x3)] [] (wls w shM 22 μ)) (fun _ _ _ _ h => h) x1 x2 x3 μ h)
def T_X12_sizeOf (x1 : Int32) (μ : Mem) (post : Int32 → Mem → Prop) : Prop :=
  T_X12_sizeOf_4 post x1 0 0 μ
theorem m_X12_sizeOf {w : Wd} {l : Launch} {D : va_G} {A : Nat → Prop} (x1 : Int32) (μ : Mem) (post : Int32 → Mem → Prop) (h : T_X12_sizeOf x1 μ post) : MetX l D A w shM 22 yX12_sizeOf cX12_sizeOf 4 (some .int) rm_X12_sizeOf [.ref (w.1 0), .int x1] μ (pI post) := by
  refine metX_of (by decide) rfl (lv := [(0, .ref (w.1 0)), (1, .int x1)]) rfl (fun X hX g hR => ?_)
  refine r_iconst (pc := 0) g dX12_sizeOf_0 ci_0 ?_
  refine r_istore_n (pc := 1) (lv' := [(2, .int 0), (0, .ref (w.1 0)), (1, .int x1)]) g dX12_sizeOf_1 rfl rfl ?_
  refine r_iconst (pc := 2) g dX12_sizeOf_2 ci_0 ?_
  refine r_istore_n (pc := 3) (lv' := [(3, .int 0), (2, .int 0), (0, .ref (w.1 0)), (1, .int x1)]) g dX12_sizeOf_3 rfl rfl ?_
  refine r_sub [2, 3, 1, 0] (lv' := [(0, .ref (w.1 0)), (1, .int x1), (2, .int 0), (3, .int 0)]) rfl ?_
  exact v_X12_sizeOf_4 g hX post hR x1 0 0 μ h
abbrev rm_X12_needsOf : Room := { frames := 1, cells := 0, slots := 0, locals := 21 }
def T_X12_needsOf_31 (post : Int32 → Mem → Prop) (P4 : Int32 → Int32 → Int32 → Mem → Prop) (x1 : Int32) (x3 : Int32) (s0 : Int32) (s1 : Int32) (μ : Mem) : Prop :=
  P4 x1 (s1 ||| s0) (x3 + 1) μ
theorem v_X12_needsOf_31 {X : Cx} {w : Wd} {l : Launch} {D : va_G} {A : Nat → Prop} (g : Gd X w RX12 cX12_needsOf 4 rm_X12_needsOf) (hX : atX X l D A) (post : Int32 → Mem → Prop) (hR : Rt X w shM 22 (some .int) (pI post)) (P4 : Int32 → Int32 → Int32 → Mem → Prop) (hP4 : ∀ (x1 : Int32) (x2 : Int32) (x3 : Int32) (μ : Mem), P4 x1 x2 x3 μ → V X 4 [(0, .ref (w.1 0)), (1, .int x1), (2, .int x2), (3, .int x3)] [] (wls w shM 22 μ)) (x1 : Int32) (x3 : Int32) (s0 : Int32) (s1 : Int32) (μ : Mem) (h : T_X12_needsOf_31 post P4 x1 x3 s0 s1 μ) : V X 31 [(0, .ref (w.1 0)), (1, .int x1), (3, .int x3)] [.int s0, .int s1] (wls w shM 22 μ) := by
  refine r_ior (pc := 31) g dX12_needsOf_31 ?_
  refine r_istore_n (pc := 32) (lv' := [(2, .int (s1 ||| s0)), (0, .ref (w.1 0)), (1, .int x1), (3, .int x3)]) g dX12_needsOf_32 rfl rfl ?_
  refine r_iinc (pc := 33) (lv' := [(3, .int (x3 + 1)), (2, .int (s1 ||| s0)), (0, .ref (w.1 0)), (1, .int x1)]) 3 g dX12_needsOf_33 rfl ci_1 rfl rfl ?_
  refine r_goto (pc := 36) 4 g dX12_needsOf_36 rfl ?_
  refine r_sub [2, 3, 1, 0] (lv' := [(0, .ref (w.1 0)), (1, .int x1), (2, .int (s1 ||| s0)), (3, .int (x3 + 1))]) rfl ?_
  exact hP4 x1 (s1 ||| s0) (x3 + 1) μ h
def B_X12_needsOf_4 (post : Int32 → Mem → Prop) (P4 : Int32 → Int32 → Int32 → Mem → Prop) (x1 : Int32) (x2 : Int32) (x3 : Int32) (μ : Mem) : Prop :=
  (((μ 0 5) ≤ x3 → post x2 μ) ∧ (¬ (μ 0 5) ≤ x3 → T_X12_has x1 x3 μ (fun (u1 : Int32) (μ2 : Mem) => ((u1 = 0 → T_X12_needsOf_31 post P4 x1 x3 0 x2 μ2) ∧ (¬ u1 = 0 → vp_in x3 9 ∧ T_X12_needsOf_31 post P4 x1 x3 (μ2 4 x3.toNatClampNeg) x2 μ2)))))
def T_X12_needsOf_4 (post : Int32 → Mem → Prop) (x1 : Int32) (x2 : Int32) (x3 : Int32) (μ : Mem) : Prop :=
  ∀ P4 : Int32 → Int32 → Int32 → Mem → Prop, (∀ (x1 : Int32) (x2 : Int32) (x3 : Int32) (μ : Mem), B_X12_needsOf_4 post P4 x1 x2 x3 μ → P4 x1 x2 x3 μ) → P4 x1 x2 x3 μ
theorem bv_X12_needsOf_4 {X : Cx} {w : Wd} {l : Launch} {D : va_G} {A : Nat → Prop} (g : Gd X w RX12 cX12_needsOf 4 rm_X12_needsOf) (hX : atX X l D A) (post : Int32 → Mem → Prop) (hR : Rt X w shM 22 (some .int) (pI post)) (P4 : Int32 → Int32 → Int32 → Mem → Prop) (hP4 : ∀ (x1 : Int32) (x2 : Int32) (x3 : Int32) (μ : Mem), P4 x1 x2 x3 μ → V X 4 [(0, .ref (w.1 0)), (1, .int x1), (2, .int x2), (3, .int x3)] [] (wls w shM 22 μ)) (x1 : Int32) (x2 : Int32) (x3 : Int32) (μ : Mem) (h : B_X12_needsOf_4 post P4 x1 x2 x3 μ) : V X 4 [(0, .ref (w.1 0)), (1, .int x1), (2, .int x2), (3, .int x3)] [] (wls w shM 22 μ) := by
  refine r_iload_n (pc := 4) 3 g dX12_needsOf_4 rfl ?_
  refine r_aload_n (pc := 5) 0 g dX12_needsOf_5 rfl ?_
  refine r_geti (pc := 6) (μ := μ) g dX12_needsOf_6 fa_RX12_83 shM_out sM_0 rfl ?_
  refine r_icmp_ge (pc := 9) 39 g dX12_needsOf_9 rfl (fun q => ?_) (fun q => ?_)
  · have h := h.1 q
    refine r_iload_n (pc := 39) 2 g dX12_needsOf_39 rfl ?_
    exact r_ireti (pc := 40) g hR dX12_needsOf_40 h
  · have h := h.2 q
    refine r_iload_n (pc := 12) 2 g dX12_needsOf_12 rfl ?_
    refine r_iload_n (pc := 13) 1 g dX12_needsOf_13 rfl ?_
    refine r_iload_n (pc := 14) 3 g dX12_needsOf_14 rfl ?_
    refine r_callSi (pc := 15) (st := [.int x2]) g hX dX12_needsOf_15 (m_X12_has x1 x3 μ _ h) kb_RX12_96 k_1123 rfl rfl rfl rfl (fun u1 μ2 h => ?_)
    refine r_if_eq (pc := 18) 30 g dX12_needsOf_18 rfl (fun q => ?_) (fun q => ?_)
    · have h := h.1 q
      refine r_iconst (pc := 30) g dX12_needsOf_30 ci_0 ?_
      refine r_sub [0, 1, 3] (lv' := [(0, .ref (w.1 0)), (1, .int x1), (3, .int x3)]) rfl ?_
      exact v_X12_needsOf_31 g hX post hR P4 hP4 x1 x3 0 x2 μ2 h
    · have h := h.2 q
      refine r_aload_n (pc := 21) 0 g dX12_needsOf_21 rfl ?_
      refine r_getr (pc := 22) (μ := μ2) g dX12_needsOf_22 fa_RX12_19 shM_out sM_0 rfl ?_
      refine r_iload_n (pc := 25) 3 g dX12_needsOf_25 rfl ?_
      obtain ⟨b3, h⟩ := h
      refine r_iaload (pc := 26) (μ := μ2) g dX12_needsOf_26 shM_out sM_4 b3 ?_
      refine r_goto (pc := 27) 31 g dX12_needsOf_27 rfl ?_
      refine r_sub [0, 1, 3] (lv' := [(0, .ref (w.1 0)), (1, .int x1), (3, .int x3)]) rfl ?_
      exact v_X12_needsOf_31 g hX post hR P4 hP4 x1 x3 (μ2 4 x3.toNatClampNeg) x2 μ2 h
theorem v_X12_needsOf_4 {X : Cx} {w : Wd} {l : Launch} {D : va_G} {A : Nat → Prop} (g : Gd X w RX12 cX12_needsOf 4 rm_X12_needsOf) (hX : atX X l D A) (post : Int32 → Mem → Prop) (hR : Rt X w shM 22 (some .int) (pI post)) (x1 : Int32) (x2 : Int32) (x3 : Int32) (μ : Mem) (h : T_X12_needsOf_4 post x1 x2 x3 μ) : V X 4 [(0, .ref (w.1 0)), (1, .int x1), (2, .int x2), (3, .int x3)] [] (wls w shM 22 μ) :=
  h (fun x1 x2 x3 μ => V X 4 [(0, .ref (w.1 0)), (1, .int x1), (2, .int x2), (3, .int x3)] [] (wls w shM 22 μ)) (fun x1 x2 x3 μ h => bv_X12_needsOf_4 g hX post hR (fun x1 x2 x3 μ => V X 4 [(0, .ref (w.1 0)), (1, .int x1), (2, .int x2), (3, .int x3)] [] (wls w shM 22 μ)) (fun _ _ _ _ h => h) x1 x2 x3 μ h)
def T_X12_needsOf (x1 : Int32) (μ : Mem) (post : Int32 → Mem → Prop) : Prop :=
  T_X12_needsOf_4 post x1 0 0 μ
theorem m_X12_needsOf {w : Wd} {l : Launch} {D : va_G} {A : Nat → Prop} (x1 : Int32) (μ : Mem) (post : Int32 → Mem → Prop) (h : T_X12_needsOf x1 μ post) : MetX l D A w shM 22 yX12_needsOf cX12_needsOf 4 (some .int) rm_X12_needsOf [.ref (w.1 0), .int x1] μ (pI post) := by
  refine metX_of (by decide) rfl (lv := [(0, .ref (w.1 0)), (1, .int x1)]) rfl (fun X hX g hR => ?_)
  refine r_iconst (pc := 0) g dX12_needsOf_0 ci_0 ?_
  refine r_istore_n (pc := 1) (lv' := [(2, .int 0), (0, .ref (w.1 0)), (1, .int x1)]) g dX12_needsOf_1 rfl rfl ?_
  refine r_iconst (pc := 2) g dX12_needsOf_2 ci_0 ?_
  refine r_istore_n (pc := 3) (lv' := [(3, .int 0), (2, .int 0), (0, .ref (w.1 0)), (1, .int x1)]) g dX12_needsOf_3 rfl rfl ?_
  refine r_sub [2, 3, 1, 0] (lv' := [(0, .ref (w.1 0)), (1, .int x1), (2, .int 0), (3, .int 0)]) rfl ?_
  exact v_X12_needsOf_4 g hX post hR x1 0 0 μ h
abbrev rm_X12_isOrder : Room := { frames := 0, cells := 0, slots := 0, locals := 0 }
def T_X12_isOrder (x1 : Int32) (μ : Mem) (post : Int32 → Mem → Prop) : Prop :=
  ((x1 < 0 → post 0 μ) ∧ (¬ x1 < 0 → (((μ 0 17) ≤ x1 → post 0 μ) ∧ (¬ (μ 0 17) ≤ x1 → post 1 μ))))
theorem m_X12_isOrder {w : Wd} {l : Launch} {D : va_G} {A : Nat → Prop} (x1 : Int32) (μ : Mem) (post : Int32 → Mem → Prop) (h : T_X12_isOrder x1 μ post) : MetX l D A w shM 22 yX12_isOrder cX12_isOrder 2 (some .boolean) rm_X12_isOrder [.ref (w.1 0), .int x1] μ (pI post) := by
  refine metX_of (by decide) rfl (lv := [(0, .ref (w.1 0)), (1, .int x1)]) rfl (fun X hX g hR => ?_)
  refine r_iload_n (pc := 0) 1 g dX12_isOrder_0 rfl ?_
  refine r_if_lt (pc := 1) 16 g dX12_isOrder_1 rfl (fun q => ?_) (fun q => ?_)
  · have h := h.1 q
    refine r_iconst (pc := 16) g dX12_isOrder_16 ci_0 ?_
    exact r_zreti (pc := 17) g hR dX12_isOrder_17 (Or.inl rfl) h
  · have h := h.2 q
    refine r_iload_n (pc := 4) 1 g dX12_isOrder_4 rfl ?_
    refine r_aload_n (pc := 5) 0 g dX12_isOrder_5 rfl ?_
    refine r_geti (pc := 6) (μ := μ) g dX12_isOrder_6 fa_RX12_131 shM_out sM_0 rfl ?_
    refine r_icmp_ge (pc := 9) 16 g dX12_isOrder_9 rfl (fun q => ?_) (fun q => ?_)
    · have h := h.1 q
      refine r_iconst (pc := 16) g dX12_isOrder_16 ci_0 ?_
      exact r_zreti (pc := 17) g hR dX12_isOrder_17 (Or.inl rfl) h
    · have h := h.2 q
      refine r_iconst (pc := 12) g dX12_isOrder_12 ci_1 ?_
      refine r_goto (pc := 13) 17 g dX12_isOrder_13 rfl ?_
      exact r_zreti (pc := 17) g hR dX12_isOrder_17 (Or.inr rfl) h
abbrev rm_X12_lookAt : Room := { frames := 0, cells := 0, slots := 0, locals := 0 }
def B_X12_lookAt_2 (post : Mem → Prop) (P2 : Int32 → Int32 → Mem → Prop) (x1 : Int32) (x2 : Int32) (μ : Mem) : Prop :=
  (((μ 0 5) ≤ x2 → post μ) ∧ (¬ (μ 0 5) ≤ x2 → vp_in ((9 * x1) + x2) 72 ∧ vp_in x2 9 ∧ P2 x1 (x2 + 1) (mset μ 13 x2.toNatClampNeg (μ 12 ((9 * x1) + x2).toNatClampNeg))))
def T_X12_lookAt_2 (post : Mem → Prop) (x1 : Int32) (x2 : Int32) (μ : Mem) : Prop :=
  ∀ P2 : Int32 → Int32 → Mem → Prop, (∀ (x1 : Int32) (x2 : Int32) (μ : Mem), B_X12_lookAt_2 post P2 x1 x2 μ → P2 x1 x2 μ) → P2 x1 x2 μ
theorem bv_X12_lookAt_2 {X : Cx} {w : Wd} {l : Launch} {D : va_G} {A : Nat → Prop} (g : Gd X w RX12 cX12_lookAt 3 rm_X12_lookAt) (hX : atX X l D A) (post : Mem → Prop) (hR : Rt X w shM 22 none (pV post)) (P2 : Int32 → Int32 → Mem → Prop) (hP2 : ∀ (x1 : Int32) (x2 : Int32) (μ : Mem), P2 x1 x2 μ → V X 2 [(0, .ref (w.1 0)), (1, .int x1), (2, .int x2)] [] (wls w shM 22 μ)) (x1 : Int32) (x2 : Int32) (μ : Mem) (h : B_X12_lookAt_2 post P2 x1 x2 μ) : V X 2 [(0, .ref (w.1 0)), (1, .int x1), (2, .int x2)] [] (wls w shM 22 μ) := by
  refine r_iload_n (pc := 2) 2 g dX12_lookAt_2 rfl ?_
  refine r_aload_n (pc := 3) 0 g dX12_lookAt_3 rfl ?_
  refine r_geti (pc := 4) (μ := μ) g dX12_lookAt_4 fa_RX12_83 shM_out sM_0 rfl ?_
  refine r_icmp_ge (pc := 7) 33 g dX12_lookAt_7 rfl (fun q => ?_) (fun q => ?_)
  · have h := h.1 q
    exact r_vretv (pc := 33) g hR dX12_lookAt_33 h
  · have h := h.2 q
    refine r_aload_n (pc := 10) 0 g dX12_lookAt_10 rfl ?_
    refine r_getr (pc := 11) (μ := μ) g dX12_lookAt_11 fa_RX12_46 shM_out sM_0 rfl ?_
    refine r_iload_n (pc := 14) 2 g dX12_lookAt_14 rfl ?_
    refine r_aload_n (pc := 15) 0 g dX12_lookAt_15 rfl ?_
    refine r_getr (pc := 16) (μ := μ) g dX12_lookAt_16 fa_RX12_43 shM_out sM_0 rfl ?_
    refine r_bipush (pc := 19) g dX12_lookAt_19 cb_9 ?_
    refine r_iload_n (pc := 21) 1 g dX12_lookAt_21 rfl ?_
    refine r_imul (pc := 22) g dX12_lookAt_22 ?_
    refine r_iload_n (pc := 23) 2 g dX12_lookAt_23 rfl ?_
    refine r_iadd (pc := 24) g dX12_lookAt_24 ?_
    obtain ⟨b1, h⟩ := h
    refine r_iaload (pc := 25) (μ := μ) g dX12_lookAt_25 shM_out sM_12 b1 ?_
    obtain ⟨b2, h⟩ := h
    refine r_iastore (pc := 26) (μ := μ) g dX12_lookAt_26 shM_out sM_13 b2 ?_
    refine r_iinc (pc := 27) (lv' := [(2, .int (x2 + 1)), (0, .ref (w.1 0)), (1, .int x1)]) 2 g dX12_lookAt_27 rfl ci_1 rfl rfl ?_
    refine r_goto (pc := 30) 2 g dX12_lookAt_30 rfl ?_
    refine r_sub [1, 2, 0] (lv' := [(0, .ref (w.1 0)), (1, .int x1), (2, .int (x2 + 1))]) rfl ?_
    exact hP2 x1 (x2 + 1) (mset μ 13 x2.toNatClampNeg (μ 12 ((9 * x1) + x2).toNatClampNeg)) h
theorem v_X12_lookAt_2 {X : Cx} {w : Wd} {l : Launch} {D : va_G} {A : Nat → Prop} (g : Gd X w RX12 cX12_lookAt 3 rm_X12_lookAt) (hX : atX X l D A) (post : Mem → Prop) (hR : Rt X w shM 22 none (pV post)) (x1 : Int32) (x2 : Int32) (μ : Mem) (h : T_X12_lookAt_2 post x1 x2 μ) : V X 2 [(0, .ref (w.1 0)), (1, .int x1), (2, .int x2)] [] (wls w shM 22 μ) :=
  h (fun x1 x2 μ => V X 2 [(0, .ref (w.1 0)), (1, .int x1), (2, .int x2)] [] (wls w shM 22 μ)) (fun x1 x2 μ h => bv_X12_lookAt_2 g hX post hR (fun x1 x2 μ => V X 2 [(0, .ref (w.1 0)), (1, .int x1), (2, .int x2)] [] (wls w shM 22 μ)) (fun _ _ _ h => h) x1 x2 μ h)
def T_X12_lookAt (x1 : Int32) (μ : Mem) (post : Mem → Prop) : Prop :=
  T_X12_lookAt_2 post x1 0 μ
theorem m_X12_lookAt {w : Wd} {l : Launch} {D : va_G} {A : Nat → Prop} (x1 : Int32) (μ : Mem) (post : Mem → Prop) (h : T_X12_lookAt x1 μ post) : MetX l D A w shM 22 yX12_lookAt cX12_lookAt 3 none rm_X12_lookAt [.ref (w.1 0), .int x1] μ (pV post) := by
  refine metX_of (by decide) rfl (lv := [(0, .ref (w.1 0)), (1, .int x1)]) rfl (fun X hX g hR => ?_)
  refine r_iconst (pc := 0) g dX12_lookAt_0 ci_0 ?_
  refine r_istore_n (pc := 1) (lv' := [(2, .int 0), (0, .ref (w.1 0)), (1, .int x1)]) g dX12_lookAt_1 rfl rfl ?_
  refine r_sub [1, 2, 0] (lv' := [(0, .ref (w.1 0)), (1, .int x1), (2, .int 0)]) rfl ?_
  exact v_X12_lookAt_2 g hX post hR x1 0 μ h
abbrev rm_X12_isLawful : Room := { frames := 0, cells := 0, slots := 0, locals := 0 }
def B_X12_isLawful_4 (r1 : Nat) (post : Int32 → Mem → Prop) (P4 : Int32 → Int32 → Mem → Prop) (x2 : Int32) (x3 : Int32) (μ : Mem) : Prop :=
  (((μ 0 5) ≤ x3 → post 1 μ) ∧ (¬ (μ 0 5) ≤ x3 → shM r1 = .inl 9 ∧ vp_in x3 9 ∧ vp_in (μ r1 x3.toNatClampNeg) 9 ∧ ((((μ 5 (μ r1 x3.toNatClampNeg).toNatClampNeg) &&& (x2 ^^^ (-1))) = 0 → vp_in x3 9 ∧ P4 (x2 ||| ((1 : Int32) <<< ((μ r1 x3.toNatClampNeg) &&& 31))) (x3 + 1) μ) ∧ (¬ ((μ 5 (μ r1 x3.toNatClampNeg).toNatClampNeg) &&& (x2 ^^^ (-1))) = 0 → post 0 μ))))
def T_X12_isLawful_4 (r1 : Nat) (post : Int32 → Mem → Prop) (x2 : Int32) (x3 : Int32) (μ : Mem) : Prop :=
  ∀ P4 : Int32 → Int32 → Mem → Prop, (∀ (x2 : Int32) (x3 : Int32) (μ : Mem), B_X12_isLawful_4 r1 post P4 x2 x3 μ → P4 x2 x3 μ) → P4 x2 x3 μ
theorem bv_X12_isLawful_4 {X : Cx} {w : Wd} {l : Launch} {D : va_G} {A : Nat → Prop} (r1 : Nat) (g : Gd X w RX12 cX12_isLawful 4 rm_X12_isLawful) (hX : atX X l D A) (post : Int32 → Mem → Prop) (hR : Rt X w shM 22 (some .boolean) (pI post)) (P4 : Int32 → Int32 → Mem → Prop) (hP4 : ∀ (x2 : Int32) (x3 : Int32) (μ : Mem), P4 x2 x3 μ → V X 4 [(0, .ref (w.1 0)), (1, .ref (w.1 r1)), (2, .int x2), (3, .int x3)] [] (wls w shM 22 μ)) (x2 : Int32) (x3 : Int32) (μ : Mem) (h : B_X12_isLawful_4 r1 post P4 x2 x3 μ) : V X 4 [(0, .ref (w.1 0)), (1, .ref (w.1 r1)), (2, .int x2), (3, .int x3)] [] (wls w shM 22 μ) := by
  refine r_iload_n (pc := 4) 3 g dX12_isLawful_4 rfl ?_
  refine r_aload_n (pc := 5) 0 g dX12_isLawful_5 rfl ?_
  refine r_geti (pc := 6) (μ := μ) g dX12_isLawful_6 fa_RX12_83 shM_out sM_0 rfl ?_
  refine r_icmp_ge (pc := 9) 43 g dX12_isLawful_9 rfl (fun q => ?_) (fun q => ?_)
  · have h := h.1 q
    refine r_iconst (pc := 43) g dX12_isLawful_43 ci_1 ?_
    exact r_zreti (pc := 44) g hR dX12_isLawful_44 (Or.inr rfl) h
  · have h := h.2 q
    refine r_aload_n (pc := 12) 0 g dX12_isLawful_12 rfl ?_
    refine r_getr (pc := 13) (μ := μ) g dX12_isLawful_13 fa_RX12_22 shM_out sM_0 rfl ?_
    refine r_aload_n (pc := 16) 1 g dX12_isLawful_16 rfl ?_
    refine r_iload_n (pc := 17) 3 g dX12_isLawful_17 rfl ?_
    obtain ⟨z1, h⟩ := h
    obtain ⟨b2, h⟩ := h
    refine r_iaload (pc := 18) (μ := μ) g dX12_isLawful_18 shM_out z1 b2 ?_
    obtain ⟨b3, h⟩ := h
    refine r_iaload (pc := 19) (μ := μ) g dX12_isLawful_19 shM_out sM_5 b3 ?_
    refine r_iload_n (pc := 20) 2 g dX12_isLawful_20 rfl ?_
    refine r_iconst (pc := 21) g dX12_isLawful_21 ci_m1 ?_
    refine r_ixor (pc := 22) g dX12_isLawful_22 ?_
    refine r_iand (pc := 23) g dX12_isLawful_23 ?_
    refine r_if_eq (pc := 24) 29 g dX12_isLawful_24 rfl (fun q => ?_) (fun q => ?_)
    · have h := h.1 q
      refine r_iload_n (pc := 29) 2 g dX12_isLawful_29 rfl ?_
      refine r_iconst (pc := 30) g dX12_isLawful_30 ci_1 ?_
      refine r_aload_n (pc := 31) 1 g dX12_isLawful_31 rfl ?_
      refine r_iload_n (pc := 32) 3 g dX12_isLawful_32 rfl ?_
      obtain ⟨b4, h⟩ := h
      refine r_iaload (pc := 33) (μ := μ) g dX12_isLawful_33 shM_out z1 b4 ?_
      refine r_ishl (pc := 34) g dX12_isLawful_34 ?_
      refine r_ior (pc := 35) g dX12_isLawful_35 ?_
      refine r_istore_n (pc := 36) (lv' := [(2, .int (x2 ||| ((1 : Int32) <<< ((μ r1 x3.toNatClampNeg) &&& 31)))), (0, .ref (w.1 0)), (1, .ref (w.1 r1)), (3, .int x3)]) g dX12_isLawful_36 rfl rfl ?_
      refine r_iinc (pc := 37) (lv' := [(3, .int (x3 + 1)), (2, .int (x2 ||| ((1 : Int32) <<< ((μ r1 x3.toNatClampNeg) &&& 31)))), (0, .ref (w.1 0)), (1, .ref (w.1 r1))]) 3 g dX12_isLawful_37 rfl ci_1 rfl rfl ?_
      refine r_goto (pc := 40) 4 g dX12_isLawful_40 rfl ?_
      refine r_sub [2, 3, 1, 0] (lv' := [(0, .ref (w.1 0)), (1, .ref (w.1 r1)), (2, .int (x2 ||| ((1 : Int32) <<< ((μ r1 x3.toNatClampNeg) &&& 31)))), (3, .int (x3 + 1))]) rfl ?_
      exact hP4 (x2 ||| ((1 : Int32) <<< ((μ r1 x3.toNatClampNeg) &&& 31))) (x3 + 1) μ h
    · have h := h.2 q
      refine r_iconst (pc := 27) g dX12_isLawful_27 ci_0 ?_
      exact r_zreti (pc := 28) g hR dX12_isLawful_28 (Or.inl rfl) h
theorem v_X12_isLawful_4 {X : Cx} {w : Wd} {l : Launch} {D : va_G} {A : Nat → Prop} (r1 : Nat) (g : Gd X w RX12 cX12_isLawful 4 rm_X12_isLawful) (hX : atX X l D A) (post : Int32 → Mem → Prop) (hR : Rt X w shM 22 (some .boolean) (pI post)) (x2 : Int32) (x3 : Int32) (μ : Mem) (h : T_X12_isLawful_4 r1 post x2 x3 μ) : V X 4 [(0, .ref (w.1 0)), (1, .ref (w.1 r1)), (2, .int x2), (3, .int x3)] [] (wls w shM 22 μ) :=
  h (fun x2 x3 μ => V X 4 [(0, .ref (w.1 0)), (1, .ref (w.1 r1)), (2, .int x2), (3, .int x3)] [] (wls w shM 22 μ)) (fun x2 x3 μ h => bv_X12_isLawful_4 r1 g hX post hR (fun x2 x3 μ => V X 4 [(0, .ref (w.1 0)), (1, .ref (w.1 r1)), (2, .int x2), (3, .int x3)] [] (wls w shM 22 μ)) (fun _ _ _ h => h) x2 x3 μ h)
def T_X12_isLawful (r1 : Nat) (μ : Mem) (post : Int32 → Mem → Prop) : Prop :=
  T_X12_isLawful_4 r1 post 0 0 μ
theorem m_X12_isLawful {w : Wd} {l : Launch} {D : va_G} {A : Nat → Prop} (r1 : Nat) (μ : Mem) (post : Int32 → Mem → Prop) (h : T_X12_isLawful r1 μ post) : MetX l D A w shM 22 yX12_isLawful cX12_isLawful 4 (some .boolean) rm_X12_isLawful [.ref (w.1 0), .ref (w.1 r1)] μ (pI post) := by
  refine metX_of (by decide) rfl (lv := [(0, .ref (w.1 0)), (1, .ref (w.1 r1))]) rfl (fun X hX g hR => ?_)
  refine r_iconst (pc := 0) g dX12_isLawful_0 ci_0 ?_
  refine r_istore_n (pc := 1) (lv' := [(2, .int 0), (0, .ref (w.1 0)), (1, .ref (w.1 r1))]) g dX12_isLawful_1 rfl rfl ?_
  refine r_iconst (pc := 2) g dX12_isLawful_2 ci_0 ?_
  refine r_istore_n (pc := 3) (lv' := [(3, .int 0), (2, .int 0), (0, .ref (w.1 0)), (1, .ref (w.1 r1))]) g dX12_isLawful_3 rfl rfl ?_
  refine r_sub [2, 3, 1, 0] (lv' := [(0, .ref (w.1 0)), (1, .ref (w.1 r1)), (2, .int 0), (3, .int 0)]) rfl ?_
  exact v_X12_isLawful_4 r1 g hX post hR 0 0 μ h
abbrev rm_X12_openAt : Room := { frames := 0, cells := 0, slots := 0, locals := 0 }
def T_X12_openAt_60 (r1 : Nat) (post : Int32 → Mem → Prop) (P8 : Int32 → Int32 → Int32 → Int32 → Mem → Prop) (x2 : Int32) (x3 : Int32) (x5 : Int32) (s0 : Int32) (s1 : Int32) (μ : Mem) : Prop :=
  P8 x2 x3 (s1 ||| s0) (x5 + 1) μ
theorem v_X12_openAt_60 {X : Cx} {w : Wd} {l : Launch} {D : va_G} {A : Nat → Prop} (r1 : Nat) (g : Gd X w RX12 cX12_openAt 6 rm_X12_openAt) (hX : atX X l D A) (post : Int32 → Mem → Prop) (hR : Rt X w shM 22 (some .int) (pI post)) (P8 : Int32 → Int32 → Int32 → Int32 → Mem → Prop) (hP8 : ∀ (x2 : Int32) (x3 : Int32) (x4 : Int32) (x5 : Int32) (μ : Mem), P8 x2 x3 x4 x5 μ → V X 8 [(0, .ref (w.1 0)), (1, .ref (w.1 r1)), (2, .int x2), (3, .int x3), (4, .int x4), (5, .int x5)] [] (wls w shM 22 μ)) (x2 : Int32) (x3 : Int32) (x5 : Int32) (s0 : Int32) (s1 : Int32) (μ : Mem) (h : T_X12_openAt_60 r1 post P8 x2 x3 x5 s0 s1 μ) : V X 60 [(0, .ref (w.1 0)), (1, .ref (w.1 r1)), (2, .int x2), (3, .int x3), (5, .int x5)] [.int s0, .int s1] (wls w shM 22 μ) := by
  refine r_ior (pc := 60) g dX12_openAt_60 ?_
  refine r_istore (pc := 61) (lv' := [(4, .int (s1 ||| s0)), (0, .ref (w.1 0)), (1, .ref (w.1 r1)), (2, .int x2), (3, .int x3), (5, .int x5)]) g dX12_openAt_61 rfl rfl ?_
  refine r_iinc (pc := 63) (lv' := [(5, .int (x5 + 1)), (4, .int (s1 ||| s0)), (0, .ref (w.1 0)), (1, .ref (w.1 r1)), (2, .int x2), (3, .int x3)]) 5 g dX12_openAt_63 rfl ci_1 rfl rfl ?_
  refine r_goto (pc := 66) 8 g dX12_openAt_66 rfl ?_
  refine r_sub [2, 3, 4, 5, 1, 0] (lv' := [(0, .ref (w.1 0)), (1, .ref (w.1 r1)), (2, .int x2), (3, .int x3), (4, .int (s1 ||| s0)), (5, .int (x5 + 1))]) rfl ?_
  exact hP8 x2 x3 (s1 ||| s0) (x5 + 1) μ h
def T_X12_openAt_37 (r1 : Nat) (post : Int32 → Mem → Prop) (P8 : Int32 → Int32 → Int32 → Int32 → Mem → Prop) (x2 : Int32) (x4 : Int32) (x5 : Int32) (s0 : Int32) (s1 : Int32) (μ : Mem) : Prop :=
  ((x5 < x2 → T_X12_openAt_60 r1 post P8 x2 (s1 ||| s0) x5 0 x4 μ) ∧ (¬ x5 < x2 → shM r1 = .inl 9 ∧ vp_in x5 9 ∧ vp_in (μ r1 x5.toNatClampNeg) 9 ∧ T_X12_openAt_60 r1 post P8 x2 (s1 ||| s0) x5 (μ 4 (μ r1 x5.toNatClampNeg).toNatClampNeg) x4 μ))
theorem v_X12_openAt_37 {X : Cx} {w : Wd} {l : Launch} {D : va_G} {A : Nat → Prop} (r1 : Nat) (g : Gd X w RX12 cX12_openAt 6 rm_X12_openAt) (hX : atX X l D A) (post : Int32 → Mem → Prop) (hR : Rt X w shM 22 (some .int) (pI post)) (P8 : Int32 → Int32 → Int32 → Int32 → Mem → Prop) (hP8 : ∀ (x2 : Int32) (x3 : Int32) (x4 : Int32) (x5 : Int32) (μ : Mem), P8 x2 x3 x4 x5 μ → V X 8 [(0, .ref (w.1 0)), (1, .ref (w.1 r1)), (2, .int x2), (3, .int x3), (4, .int x4), (5, .int x5)] [] (wls w shM 22 μ)) (x2 : Int32) (x4 : Int32) (x5 : Int32) (s0 : Int32) (s1 : Int32) (μ : Mem) (h : T_X12_openAt_37 r1 post P8 x2 x4 x5 s0 s1 μ) : V X 37 [(0, .ref (w.1 0)), (1, .ref (w.1 r1)), (2, .int x2), (4, .int x4), (5, .int x5)] [.int s0, .int s1] (wls w shM 22 μ) := by
  refine r_ior (pc := 37) g dX12_openAt_37 ?_
  refine r_istore_n (pc := 38) (lv' := [(3, .int (s1 ||| s0)), (0, .ref (w.1 0)), (1, .ref (w.1 r1)), (2, .int x2), (4, .int x4), (5, .int x5)]) g dX12_openAt_38 rfl rfl ?_
  refine r_iload (pc := 39) 4 g dX12_openAt_39 rfl ?_
  refine r_iload (pc := 41) 5 g dX12_openAt_41 rfl ?_
  refine r_iload_n (pc := 43) 3 g dX12_openAt_43 rfl ?_
  refine r_icmp_lt (pc := 44) 59 g dX12_openAt_44 rfl (fun q => ?_) (fun q => ?_)
  · have h := h.1 q
    refine r_iconst (pc := 59) g dX12_openAt_59 ci_0 ?_
    refine r_sub [1, 2, 3, 0, 5] (lv' := [(0, .ref (w.1 0)), (1, .ref (w.1 r1)), (2, .int x2), (3, .int (s1 ||| s0)), (5, .int x5)]) rfl ?_
    exact v_X12_openAt_60 r1 g hX post hR P8 hP8 x2 (s1 ||| s0) x5 0 x4 μ h
  · have h := h.2 q
    refine r_aload_n (pc := 47) 1 g dX12_openAt_47 rfl ?_
    refine r_getr (pc := 48) (μ := μ) g dX12_openAt_48 fa_RX12_19 shM_out sM_0 rfl ?_
    refine r_aload_n (pc := 51) 2 g dX12_openAt_51 rfl ?_
    refine r_iload (pc := 52) 5 g dX12_openAt_52 rfl ?_
    obtain ⟨z1, h⟩ := h
    obtain ⟨b2, h⟩ := h
    refine r_iaload (pc := 54) (μ := μ) g dX12_openAt_54 shM_out z1 b2 ?_
    obtain ⟨b3, h⟩ := h
    refine r_iaload (pc := 55) (μ := μ) g dX12_openAt_55 shM_out sM_4 b3 ?_
    refine r_goto (pc := 56) 60 g dX12_openAt_56 rfl ?_
    refine r_sub [1, 2, 3, 0, 5] (lv' := [(0, .ref (w.1 0)), (1, .ref (w.1 r1)), (2, .int x2), (3, .int (s1 ||| s0)), (5, .int x5)]) rfl ?_
    exact v_X12_openAt_60 r1 g hX post hR P8 hP8 x2 (s1 ||| s0) x5 (μ 4 (μ r1 x5.toNatClampNeg).toNatClampNeg) x4 μ h
def B_X12_openAt_8 (r1 : Nat) (post : Int32 → Mem → Prop) (P8 : Int32 → Int32 → Int32 → Int32 → Mem → Prop) (x2 : Int32) (x3 : Int32) (x4 : Int32) (x5 : Int32) (μ : Mem) : Prop :=
  (((μ 0 5) ≤ x5 → post (x3 &&& x4) μ) ∧ (¬ (μ 0 5) ≤ x5 → ((x2 < x5 → T_X12_openAt_37 r1 post P8 x2 x4 x5 0 x3 μ) ∧ (¬ x2 < x5 → shM r1 = .inl 9 ∧ vp_in x5 9 ∧ vp_in (μ r1 x5.toNatClampNeg) 9 ∧ T_X12_openAt_37 r1 post P8 x2 x4 x5 (μ 4 (μ r1 x5.toNatClampNeg).toNatClampNeg) x3 μ))))
def T_X12_openAt_8 (r1 : Nat) (post : Int32 → Mem → Prop) (x2 : Int32) (x3 : Int32) (x4 : Int32) (x5 : Int32) (μ : Mem) : Prop :=
  ∀ P8 : Int32 → Int32 → Int32 → Int32 → Mem → Prop, (∀ (x2 : Int32) (x3 : Int32) (x4 : Int32) (x5 : Int32) (μ : Mem), B_X12_openAt_8 r1 post P8 x2 x3 x4 x5 μ → P8 x2 x3 x4 x5 μ) → P8 x2 x3 x4 x5 μ
theorem bv_X12_openAt_8 {X : Cx} {w : Wd} {l : Launch} {D : va_G} {A : Nat → Prop} (r1 : Nat) (g : Gd X w RX12 cX12_openAt 6 rm_X12_openAt) (hX : atX X l D A) (post : Int32 → Mem → Prop) (hR : Rt X w shM 22 (some .int) (pI post)) (P8 : Int32 → Int32 → Int32 → Int32 → Mem → Prop) (hP8 : ∀ (x2 : Int32) (x3 : Int32) (x4 : Int32) (x5 : Int32) (μ : Mem), P8 x2 x3 x4 x5 μ → V X 8 [(0, .ref (w.1 0)), (1, .ref (w.1 r1)), (2, .int x2), (3, .int x3), (4, .int x4), (5, .int x5)] [] (wls w shM 22 μ)) (x2 : Int32) (x3 : Int32) (x4 : Int32) (x5 : Int32) (μ : Mem) (h : B_X12_openAt_8 r1 post P8 x2 x3 x4 x5 μ) : V X 8 [(0, .ref (w.1 0)), (1, .ref (w.1 r1)), (2, .int x2), (3, .int x3), (4, .int x4), (5, .int x5)] [] (wls w shM 22 μ) := by
  refine r_iload (pc := 8) 5 g dX12_openAt_8 rfl ?_
  refine r_aload_n (pc := 10) 0 g dX12_openAt_10 rfl ?_
  refine r_geti (pc := 11) (μ := μ) g dX12_openAt_11 fa_RX12_83 shM_out sM_0 rfl ?_
  refine r_icmp_ge (pc := 14) 69 g dX12_openAt_14 rfl (fun q => ?_) (fun q => ?_)
  · have h := h.1 q
    refine r_iload_n (pc := 69) 3 g dX12_openAt_69 rfl ?_
    refine r_iload (pc := 70) 4 g dX12_openAt_70 rfl ?_
    refine r_iand (pc := 72) g dX12_openAt_72 ?_
    exact r_ireti (pc := 73) g hR dX12_openAt_73 h
  · have h := h.2 q
    refine r_iload_n (pc := 17) 3 g dX12_openAt_17 rfl ?_
    refine r_iload (pc := 18) 5 g dX12_openAt_18 rfl ?_
    refine r_iload_n (pc := 20) 2 g dX12_openAt_20 rfl ?_
    refine r_icmp_gt (pc := 21) 36 g dX12_openAt_21 rfl (fun q => ?_) (fun q => ?_)
    · have h := h.1 q
      refine r_iconst (pc := 36) g dX12_openAt_36 ci_0 ?_
      refine r_sub [0, 1, 2, 4, 5] (lv' := [(0, .ref (w.1 0)), (1, .ref (w.1 r1)), (2, .int x2), (4, .int x4), (5, .int x5)]) rfl ?_
      exact v_X12_openAt_37 r1 g hX post hR P8 hP8 x2 x4 x5 0 x3 μ h
    · have h := h.2 q
      refine r_aload_n (pc := 24) 0 g dX12_openAt_24 rfl ?_
      refine r_getr (pc := 25) (μ := μ) g dX12_openAt_25 fa_RX12_19 shM_out sM_0 rfl ?_
      refine r_aload_n (pc := 28) 1 g dX12_openAt_28 rfl ?_
      refine r_iload (pc := 29) 5 g dX12_openAt_29 rfl ?_
      obtain ⟨z1, h⟩ := h
      obtain ⟨b2, h⟩ := h
      refine r_iaload (pc := 31) (μ := μ) g dX12_openAt_31 shM_out z1 b2 ?_
      obtain ⟨b3, h⟩ := h
      refine r_iaload (pc := 32) (μ := μ) g dX12_openAt_32 shM_out sM_4 b3 ?_
      refine r_goto (pc := 33) 37 g dX12_openAt_33 rfl ?_
      refine r_sub [0, 1, 2, 4, 5] (lv' := [(0, .ref (w.1 0)), (1, .ref (w.1 r1)), (2, .int x2), (4, .int x4), (5, .int x5)]) rfl ?_
      exact v_X12_openAt_37 r1 g hX post hR P8 hP8 x2 x4 x5 (μ 4 (μ r1 x5.toNatClampNeg).toNatClampNeg) x3 μ h
theorem v_X12_openAt_8 {X : Cx} {w : Wd} {l : Launch} {D : va_G} {A : Nat → Prop} (r1 : Nat) (g : Gd X w RX12 cX12_openAt 6 rm_X12_openAt) (hX : atX X l D A) (post : Int32 → Mem → Prop) (hR : Rt X w shM 22 (some .int) (pI post)) (x2 : Int32) (x3 : Int32) (x4 : Int32) (x5 : Int32) (μ : Mem) (h : T_X12_openAt_8 r1 post x2 x3 x4 x5 μ) : V X 8 [(0, .ref (w.1 0)), (1, .ref (w.1 r1)), (2, .int x2), (3, .int x3), (4, .int x4), (5, .int x5)] [] (wls w shM 22 μ) :=
  h (fun x2 x3 x4 x5 μ => V X 8 [(0, .ref (w.1 0)), (1, .ref (w.1 r1)), (2, .int x2), (3, .int x3), (4, .int x4), (5, .int x5)] [] (wls w shM 22 μ)) (fun x2 x3 x4 x5 μ h => bv_X12_openAt_8 r1 g hX post hR (fun x2 x3 x4 x5 μ => V X 8 [(0, .ref (w.1 0)), (1, .ref (w.1 r1)), (2, .int x2), (3, .int x3), (4, .int x4), (5, .int x5)] [] (wls w shM 22 μ)) (fun _ _ _ _ _ h => h) x2 x3 x4 x5 μ h)
def T_X12_openAt (r1 : Nat) (x2 : Int32) (μ : Mem) (post : Int32 → Mem → Prop) : Prop :=
  T_X12_openAt_8 r1 post x2 0 0 0 μ
theorem m_X12_openAt {w : Wd} {l : Launch} {D : va_G} {A : Nat → Prop} (r1 : Nat) (x2 : Int32) (μ : Mem) (post : Int32 → Mem → Prop) (h : T_X12_openAt r1 x2 μ post) : MetX l D A w shM 22 yX12_openAt cX12_openAt 6 (some .int) rm_X12_openAt [.ref (w.1 0), .ref (w.1 r1), .int x2] μ (pI post) := by
  refine metX_of (by decide) rfl (lv := [(0, .ref (w.1 0)), (1, .ref (w.1 r1)), (2, .int x2)]) rfl (fun X hX g hR => ?_)
  refine r_iconst (pc := 0) g dX12_openAt_0 ci_0 ?_
  refine r_istore_n (pc := 1) (lv' := [(3, .int 0), (0, .ref (w.1 0)), (1, .ref (w.1 r1)), (2, .int x2)]) g dX12_openAt_1 rfl rfl ?_
  refine r_iconst (pc := 2) g dX12_openAt_2 ci_0 ?_
  refine r_istore (pc := 3) (lv' := [(4, .int 0), (3, .int 0), (0, .ref (w.1 0)), (1, .ref (w.1 r1)), (2, .int x2)]) g dX12_openAt_3 rfl rfl ?_
  refine r_iconst (pc := 5) g dX12_openAt_5 ci_0 ?_
  refine r_istore (pc := 6) (lv' := [(5, .int 0), (4, .int 0), (3, .int 0), (0, .ref (w.1 0)), (1, .ref (w.1 r1)), (2, .int x2)]) g dX12_openAt_6 rfl rfl ?_
  refine r_sub [3, 4, 5, 2, 1, 0] (lv' := [(0, .ref (w.1 0)), (1, .ref (w.1 r1)), (2, .int x2), (3, .int 0), (4, .int 0), (5, .int 0)]) rfl ?_
  exact v_X12_openAt_8 r1 g hX post hR x2 0 0 0 μ h
abbrev rm_X12_mostOf : Room := { frames := 2, cells := 0, slots := 0, locals := 44 }
def T_X12_mostOf_36 (r1 : Nat) (post : Int32 → Mem → Prop) (P4 : Int32 → Int32 → Mem → Prop) (x3 : Int32) (s0 : Int32) (μ : Mem) : Prop :=
  P4 s0 (x3 + 1) μ
theorem v_X12_mostOf_36 {X : Cx} {w : Wd} {l : Launch} {D : va_G} {A : Nat → Prop} (r1 : Nat) (g : Gd X w RX12 cX12_mostOf 5 rm_X12_mostOf) (hX : atX X l D A) (post : Int32 → Mem → Prop) (hR : Rt X w shM 22 (some .int) (pI post)) (P4 : Int32 → Int32 → Mem → Prop) (hP4 : ∀ (x2 : Int32) (x3 : Int32) (μ : Mem), P4 x2 x3 μ → V X 4 [(0, .ref (w.1 0)), (1, .ref (w.1 r1)), (2, .int x2), (3, .int x3)] [] (wls w shM 22 μ)) (x3 : Int32) (s0 : Int32) (μ : Mem) (h : T_X12_mostOf_36 r1 post P4 x3 s0 μ) : V X 36 [(0, .ref (w.1 0)), (1, .ref (w.1 r1)), (3, .int x3)] [.int s0] (wls w shM 22 μ) := by
  refine r_istore_n (pc := 36) (lv' := [(2, .int s0), (0, .ref (w.1 0)), (1, .ref (w.1 r1)), (3, .int x3)]) g dX12_mostOf_36 rfl rfl ?_
  refine r_iinc (pc := 37) (lv' := [(3, .int (x3 + 1)), (2, .int s0), (0, .ref (w.1 0)), (1, .ref (w.1 r1))]) 3 g dX12_mostOf_37 rfl ci_1 rfl rfl ?_
  refine r_goto (pc := 40) 4 g dX12_mostOf_40 rfl ?_
  refine r_sub [2, 3, 1, 0] (lv' := [(0, .ref (w.1 0)), (1, .ref (w.1 r1)), (2, .int s0), (3, .int (x3 + 1))]) rfl ?_
  exact hP4 s0 (x3 + 1) μ h
def B_X12_mostOf_4 (r1 : Nat) (post : Int32 → Mem → Prop) (P4 : Int32 → Int32 → Mem → Prop) (x2 : Int32) (x3 : Int32) (μ : Mem) : Prop :=
  (((μ 0 5) ≤ x3 → post x2 μ) ∧ (¬ (μ 0 5) ≤ x3 → T_X12_openAt r1 x3 μ (fun (u1 : Int32) (μ2 : Mem) => T_X12_sizeOf u1 μ2 (fun (u3 : Int32) (μ4 : Mem) => ((u3 ≤ x2 → T_X12_mostOf_36 r1 post P4 x3 x2 μ4) ∧ (¬ u3 ≤ x2 → T_X12_mostOf_36 r1 post P4 x3 u3 μ4))))))
def T_X12_mostOf_4 (r1 : Nat) (post : Int32 → Mem → Prop) (x2 : Int32) (x3 : Int32) (μ : Mem) : Prop :=
  ∀ P4 : Int32 → Int32 → Mem → Prop, (∀ (x2 : Int32) (x3 : Int32) (μ : Mem), B_X12_mostOf_4 r1 post P4 x2 x3 μ → P4 x2 x3 μ) → P4 x2 x3 μ
theorem bv_X12_mostOf_4 {X : Cx} {w : Wd} {l : Launch} {D : va_G} {A : Nat → Prop} (r1 : Nat) (g : Gd X w RX12 cX12_mostOf 5 rm_X12_mostOf) (hX : atX X l D A) (post : Int32 → Mem → Prop) (hR : Rt X w shM 22 (some .int) (pI post)) (P4 : Int32 → Int32 → Mem → Prop) (hP4 : ∀ (x2 : Int32) (x3 : Int32) (μ : Mem), P4 x2 x3 μ → V X 4 [(0, .ref (w.1 0)), (1, .ref (w.1 r1)), (2, .int x2), (3, .int x3)] [] (wls w shM 22 μ)) (x2 : Int32) (x3 : Int32) (μ : Mem) (h : B_X12_mostOf_4 r1 post P4 x2 x3 μ) : V X 4 [(0, .ref (w.1 0)), (1, .ref (w.1 r1)), (2, .int x2), (3, .int x3)] [] (wls w shM 22 μ) := by
  refine r_iload_n (pc := 4) 3 g dX12_mostOf_4 rfl ?_
  refine r_aload_n (pc := 5) 0 g dX12_mostOf_5 rfl ?_
  refine r_geti (pc := 6) (μ := μ) g dX12_mostOf_6 fa_RX12_83 shM_out sM_0 rfl ?_
  refine r_icmp_ge (pc := 9) 43 g dX12_mostOf_9 rfl (fun q => ?_) (fun q => ?_)
  · have h := h.1 q
    refine r_iload_n (pc := 43) 2 g dX12_mostOf_43 rfl ?_
    exact r_ireti (pc := 44) g hR dX12_mostOf_44 h
  · have h := h.2 q
    refine r_aload_n (pc := 12) 0 g dX12_mostOf_12 rfl ?_
    refine r_aload_n (pc := 13) 0 g dX12_mostOf_13 rfl ?_
    refine r_aload_n (pc := 14) 1 g dX12_mostOf_14 rfl ?_
    refine r_iload_n (pc := 15) 3 g dX12_mostOf_15 rfl ?_
    refine r_callVi (pc := 16) (st := [.ref (w.1 0)]) g hX dX12_mostOf_16 (m_X12_openAt r1 x3 μ _ h) kb_RX12_143 kv_X12_openAt shM_out sM_0 rfl rfl rfl rfl (fun u1 μ2 h => ?_)
    refine r_callVi (pc := 19) (st := []) g hX dX12_mostOf_19 (m_X12_sizeOf u1 μ2 _ h) kb_RX12_147 kv_X12_sizeOf shM_out sM_0 rfl rfl rfl rfl (fun u3 μ4 h => ?_)
    refine r_istore (pc := 22) (lv' := [(4, .int u3), (0, .ref (w.1 0)), (1, .ref (w.1 r1)), (2, .int x2), (3, .int x3)]) g dX12_mostOf_22 rfl rfl ?_
    refine r_iload (pc := 24) 0 g dX12_mostOf_24 rfl ?_
    refine r_iload_n (pc := 26) 3 g dX12_mostOf_26 rfl ?_
    refine r_icmp_le (pc := 27) 35 g dX12_mostOf_27 rfl (fun q => ?_) (fun q => ?_)
    · have h := h.1 q
      refine r_iload_n (pc := 35) 3 g dX12_mostOf_35 rfl ?_
      refine r_sub [1, 2, 4] (lv' := [(0, .ref (w.1 0)), (1, .ref (w.1 r1)), (3, .int x3)]) rfl ?_
      exact v_X12_mostOf_36 r1 g hX post hR P4 hP4 x3 x2 μ4 h
    · have h := h.2 q
      refine r_iload (pc := 30) 0 g dX12_mostOf_30 rfl ?_
      refine r_goto (pc := 32) 36 g dX12_mostOf_32 rfl ?_
      refine r_sub [1, 2, 4] (lv' := [(0, .ref (w.1 0)), (1, .ref (w.1 r1)), (3, .int x3)]) rfl ?_
      exact v_X12_mostOf_36 r1 g hX post hR P4 hP4 x3 u3 μ4 h
theorem v_X12_mostOf_4 {X : Cx} {w : Wd} {l : Launch} {D : va_G} {A : Nat → Prop} (r1 : Nat) (g : Gd X w RX12 cX12_mostOf 5 rm_X12_mostOf) (hX : atX X l D A) (post : Int32 → Mem → Prop) (hR : Rt X w shM 22 (some .int) (pI post)) (x2 : Int32) (x3 : Int32) (μ : Mem) (h : T_X12_mostOf_4 r1 post x2 x3 μ) : V X 4 [(0, .ref (w.1 0)), (1, .ref (w.1 r1)), (2, .int x2), (3, .int x3)] [] (wls w shM 22 μ) :=
  h (fun x2 x3 μ => V X 4 [(0, .ref (w.1 0)), (1, .ref (w.1 r1)), (2, .int x2), (3, .int x3)] [] (wls w shM 22 μ)) (fun x2 x3 μ h => bv_X12_mostOf_4 r1 g hX post hR (fun x2 x3 μ => V X 4 [(0, .ref (w.1 0)), (1, .ref (w.1 r1)), (2, .int x2), (3, .int x3)] [] (wls w shM 22 μ)) (fun _ _ _ h => h) x2 x3 μ h)
def T_X12_mostOf (r1 : Nat) (μ : Mem) (post : Int32 → Mem → Prop) : Prop :=
  T_X12_mostOf_4 r1 post 0 0 μ
theorem m_X12_mostOf {w : Wd} {l : Launch} {D : va_G} {A : Nat → Prop} (r1 : Nat) (μ : Mem) (post : Int32 → Mem → Prop) (h : T_X12_mostOf r1 μ post) : MetX l D A w shM 22 yX12_mostOf cX12_mostOf 5 (some .int) rm_X12_mostOf [.ref (w.1 0), .ref (w.1 r1)] μ (pI post) := by
  refine metX_of (by decide) rfl (lv := [(0, .ref (w.1 0)), (1, .ref (w.1 r1))]) rfl (fun X hX g hR => ?_)
  refine r_iconst (pc := 0) g dX12_mostOf_0 ci_0 ?_
  refine r_istore_n (pc := 1) (lv' := [(2, .int 0), (0, .ref (w.1 0)), (1, .ref (w.1 r1))]) g dX12_mostOf_1 rfl rfl ?_
  refine r_iconst (pc := 2) g dX12_mostOf_2 ci_0 ?_
  refine r_istore_n (pc := 3) (lv' := [(3, .int 0), (2, .int 0), (0, .ref (w.1 0)), (1, .ref (w.1 r1))]) g dX12_mostOf_3 rfl rfl ?_
  refine r_sub [2, 3, 1, 0] (lv' := [(0, .ref (w.1 0)), (1, .ref (w.1 r1)), (2, .int 0), (3, .int 0)]) rfl ?_
  exact v_X12_mostOf_4 r1 g hX post hR 0 0 μ h
