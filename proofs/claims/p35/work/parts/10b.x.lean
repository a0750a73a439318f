theorem dX4_closeOne_0 : decode cX4_closeOne 0 = .ok (.iconst 0, 1) := by decide +kernel
theorem dX4_closeOne_1 : decode cX4_closeOne 1 = .ok (.istore_n 2, 1) := by decide +kernel
theorem dX4_closeOne_2 : decode cX4_closeOne 2 = .ok (.iload_n 2, 1) := by decide +kernel
theorem dX4_closeOne_3 : decode cX4_closeOne 3 = .ok (.bipush 10, 2) := by decide +kernel
theorem dX4_closeOne_5 : decode cX4_closeOne 5 = .ok (.if_icmp .ge 46, 3) := by decide +kernel
theorem dX4_closeOne_8 : decode cX4_closeOne 8 = .ok (.iload_n 1, 1) := by decide +kernel
theorem dX4_closeOne_9 : decode cX4_closeOne 9 = .ok (.iload_n 2, 1) := by decide +kernel
theorem dX4_closeOne_10 : decode cX4_closeOne 10 = .ok (.ishr, 1) := by decide +kernel
theorem dX4_closeOne_11 : decode cX4_closeOne 11 = .ok (.iconst 1, 1) := by decide +kernel
theorem dX4_closeOne_12 : decode cX4_closeOne 12 = .ok (.iand, 1) := by decide +kernel
theorem dX4_closeOne_13 : decode cX4_closeOne 13 = .ok (.ifCond .eq 32, 3) := by decide +kernel
theorem dX4_closeOne_16 : decode cX4_closeOne 16 = .ok (.iload_n 1, 1) := by decide +kernel
theorem dX4_closeOne_17 : decode cX4_closeOne 17 = .ok (.iconst 1, 1) := by decide +kernel
theorem dX4_closeOne_18 : decode cX4_closeOne 18 = .ok (.iload_n 2, 1) := by decide +kernel
theorem dX4_closeOne_19 : decode cX4_closeOne 19 = .ok (.ishl, 1) := by decide +kernel
theorem dX4_closeOne_20 : decode cX4_closeOne 20 = .ok (.iconst (-1), 1) := by decide +kernel
theorem dX4_closeOne_21 : decode cX4_closeOne 21 = .ok (.ixor, 1) := by decide +kernel
theorem dX4_closeOne_22 : decode cX4_closeOne 22 = .ok (.iand, 1) := by decide +kernel
theorem dX4_closeOne_23 : decode cX4_closeOne 23 = .ok (.istore_n 3, 1) := by decide +kernel
theorem dX4_closeOne_24 : decode cX4_closeOne 24 = .ok (.aload_n 0, 1) := by decide +kernel
theorem dX4_closeOne_25 : decode cX4_closeOne 25 = .ok (.getfield 15, 3) := by decide +kernel
theorem dX4_closeOne_28 : decode cX4_closeOne 28 = .ok (.iload_n 3, 1) := by decide +kernel
theorem dX4_closeOne_29 : decode cX4_closeOne 29 = .ok (.aload_n 0, 1) := by decide +kernel
theorem dX4_closeOne_30 : decode cX4_closeOne 30 = .ok (.getfield 15, 3) := by decide +kernel
theorem dX4_closeOne_33 : decode cX4_closeOne 33 = .ok (.iload_n 3, 1) := by decide +kernel
theorem dX4_closeOne_34 : decode cX4_closeOne 34 = .ok (.iaload, 1) := by decide +kernel
theorem dX4_closeOne_35 : decode cX4_closeOne 35 = .ok (.aload_n 0, 1) := by decide +kernel
theorem dX4_closeOne_36 : decode cX4_closeOne 36 = .ok (.getfield 15, 3) := by decide +kernel
theorem dX4_closeOne_39 : decode cX4_closeOne 39 = .ok (.iload_n 1, 1) := by decide +kernel
theorem dX4_closeOne_40 : decode cX4_closeOne 40 = .ok (.iaload, 1) := by decide +kernel
theorem dX4_closeOne_41 : decode cX4_closeOne 41 = .ok (.invokestatic 88, 3) := by decide +kernel
theorem dX4_closeOne_44 : decode cX4_closeOne 44 = .ok (.iastore, 1) := by decide +kernel
theorem dX4_closeOne_45 : decode cX4_closeOne 45 = .ok (.iinc 2 1, 3) := by decide +kernel
theorem dX4_closeOne_48 : decode cX4_closeOne 48 = .ok (.goto (-46), 3) := by decide +kernel
theorem dX4_closeOne_51 : decode cX4_closeOne 51 = .ok (.return_, 1) := by decide +kernel
theorem dX4_closeSome_0 : decode cX4_closeSome 0 = .ok (.iload_n 1, 1) := by decide +kernel
theorem dX4_closeSome_1 : decode cX4_closeSome 1 = .ok (.istore_n 3, 1) := by decide +kernel
theorem dX4_closeSome_2 : decode cX4_closeSome 2 = .ok (.iconst 1, 1) := by decide +kernel
theorem dX4_closeSome_3 : decode cX4_closeSome 3 = .ok (.iload_n 1, 1) := by decide +kernel
theorem dX4_closeSome_4 : decode cX4_closeSome 4 = .ok (.invokestatic 79, 3) := by decide +kernel
theorem dX4_closeSome_7 : decode cX4_closeSome 7 = .ok (.ishl, 1) := by decide +kernel
theorem dX4_closeSome_8 : decode cX4_closeSome 8 = .ok (.istore 4, 2) := by decide +kernel
theorem dX4_closeSome_10 : decode cX4_closeSome 10 = .ok (.iload 4, 2) := by decide +kernel
theorem dX4_closeSome_12 : decode cX4_closeSome 12 = .ok (.ifCond .le 54, 3) := by decide +kernel
theorem dX4_closeSome_15 : decode cX4_closeSome 15 = .ok (.aload_n 0, 1) := by decide +kernel
theorem dX4_closeSome_16 : decode cX4_closeSome 16 = .ok (.getfield 15, 3) := by decide +kernel
theorem dX4_closeSome_19 : decode cX4_closeSome 19 = .ok (.iload_n 3, 1) := by decide +kernel
theorem dX4_closeSome_20 : decode cX4_closeSome 20 = .ok (.iaload, 1) := by decide +kernel
theorem dX4_closeSome_21 : decode cX4_closeSome 21 = .ok (.ldc 84, 2) := by decide +kernel
theorem dX4_closeSome_23 : decode cX4_closeSome 23 = .ok (.if_icmp .ge 31, 3) := by decide +kernel
theorem dX4_closeSome_26 : decode cX4_closeSome 26 = .ok (.aload_n 0, 1) := by decide +kernel
theorem dX4_closeSome_27 : decode cX4_closeSome 27 = .ok (.iload_n 3, 1) := by decide +kernel
theorem dX4_closeSome_28 : decode cX4_closeSome 28 = .ok (.invokevirtual 91, 3) := by decide +kernel
theorem dX4_closeSome_31 : decode cX4_closeSome 31 = .ok (.aload_n 0, 1) := by decide +kernel
theorem dX4_closeSome_32 : decode cX4_closeSome 32 = .ok (.getfield 18, 3) := by decide +kernel
theorem dX4_closeSome_35 : decode cX4_closeSome 35 = .ok (.getfield 61, 3) := by decide +kernel
theorem dX4_closeSome_38 : decode cX4_closeSome 38 = .ok (.iload_n 3, 1) := by decide +kernel
theorem dX4_closeSome_39 : decode cX4_closeSome 39 = .ok (.invokevirtual 65, 3) := by decide +kernel
theorem dX4_closeSome_42 : decode cX4_closeSome 42 = .ok (.iload_n 2, 1) := by decide +kernel
theorem dX4_closeSome_43 : decode cX4_closeSome 43 = .ok (.if_icmp .le 11, 3) := by decide +kernel
theorem dX4_closeSome_46 : decode cX4_closeSome 46 = .ok (.aload_n 0, 1) := by decide +kernel
theorem dX4_closeSome_47 : decode cX4_closeSome 47 = .ok (.getfield 15, 3) := by decide +kernel
theorem dX4_closeSome_50 : decode cX4_closeSome 50 = .ok (.iload_n 3, 1) := by decide +kernel
theorem dX4_closeSome_51 : decode cX4_closeSome 51 = .ok (.ldc 84, 2) := by decide +kernel
theorem dX4_closeSome_53 : decode cX4_closeSome 53 = .ok (.iastore, 1) := by decide +kernel
theorem dX4_closeSome_54 : decode cX4_closeSome 54 = .ok (.iload_n 3, 1) := by decide +kernel
theorem dX4_closeSome_55 : decode cX4_closeSome 55 = .ok (.iconst 1, 1) := by decide +kernel
theorem dX4_closeSome_56 : decode cX4_closeSome 56 = .ok (.isub, 1) := by decide +kernel
theorem dX4_closeSome_57 : decode cX4_closeSome 57 = .ok (.iload_n 1, 1) := by decide +kernel
theorem dX4_closeSome_58 : decode cX4_closeSome 58 = .ok (.iand, 1) := by decide +kernel
theorem dX4_closeSome_59 : decode cX4_closeSome 59 = .ok (.istore_n 3, 1) := by decide +kernel
theorem dX4_closeSome_60 : decode cX4_closeSome 60 = .ok (.iinc 4 (-1), 3) := by decide +kernel
theorem dX4_closeSome_63 : decode cX4_closeSome 63 = .ok (.goto (-53), 3) := by decide +kernel
theorem dX4_closeSome_66 : decode cX4_closeSome 66 = .ok (.return_, 1) := by decide +kernel
theorem dX4_fillFar_0 : decode cX4_fillFar 0 = .ok (.iload_n 1, 1) := by decide +kernel
theorem dX4_fillFar_1 : decode cX4_fillFar 1 = .ok (.istore_n 2, 1) := by decide +kernel
theorem dX4_fillFar_2 : decode cX4_fillFar 2 = .ok (.iconst 1, 1) := by decide +kernel
theorem dX4_fillFar_3 : decode cX4_fillFar 3 = .ok (.iload_n 1, 1) := by decide +kernel
theorem dX4_fillFar_4 : decode cX4_fillFar 4 = .ok (.invokestatic 79, 3) := by decide +kernel
theorem dX4_fillFar_7 : decode cX4_fillFar 7 = .ok (.ishl, 1) := by decide +kernel
theorem dX4_fillFar_8 : decode cX4_fillFar 8 = .ok (.istore_n 3, 1) := by decide +kernel
theorem dX4_fillFar_9 : decode cX4_fillFar 9 = .ok (.iload_n 3, 1) := by decide +kernel
theorem dX4_fillFar_10 : decode cX4_fillFar 10 = .ok (.ifCond .le 23, 3) := by decide +kernel
theorem dX4_fillFar_13 : decode cX4_fillFar 13 = .ok (.aload_n 0, 1) := by decide +kernel
theorem dX4_fillFar_14 : decode cX4_fillFar 14 = .ok (.getfield 15, 3) := by decide +kernel
theorem dX4_fillFar_17 : decode cX4_fillFar 17 = .ok (.iload_n 2, 1) := by decide +kernel
theorem dX4_fillFar_18 : decode cX4_fillFar 18 = .ok (.ldc 84, 2) := by decide +kernel
theorem dX4_fillFar_20 : decode cX4_fillFar 20 = .ok (.iastore, 1) := by decide +kernel
theorem dX4_fillFar_21 : decode cX4_fillFar 21 = .ok (.iload_n 2, 1) := by decide +kernel
theorem dX4_fillFar_22 : decode cX4_fillFar 22 = .ok (.iconst 1, 1) := by decide +kernel
theorem dX4_fillFar_23 : decode cX4_fillFar 23 = .ok (.isub, 1) := by decide +kernel
theorem dX4_fillFar_24 : decode cX4_fillFar 24 = .ok (.iload_n 1, 1) := by decide +kernel
theorem dX4_fillFar_25 : decode cX4_fillFar 25 = .ok (.iand, 1) := by decide +kernel
theorem dX4_fillFar_26 : decode cX4_fillFar 26 = .ok (.istore_n 2, 1) := by decide +kernel
theorem dX4_fillFar_27 : decode cX4_fillFar 27 = .ok (.iinc 3 (-1), 3) := by decide +kernel
theorem dX4_fillFar_30 : decode cX4_fillFar 30 = .ok (.goto (-21), 3) := by decide +kernel
theorem dX4_fillFar_33 : decode cX4_fillFar 33 = .ok (.return_, 1) := by decide +kernel
theorem dX4_goOn_0 : decode cX4_goOn 0 = .ok (.aload_n 0, 1) := by decide +kernel
theorem dX4_goOn_1 : decode cX4_goOn 1 = .ok (.iload_n 3, 1) := by decide +kernel
theorem dX4_goOn_2 : decode cX4_goOn 2 = .ok (.invokevirtual 75, 3) := by decide +kernel
theorem dX4_goOn_5 : decode cX4_goOn 5 = .ok (.aload_n 0, 1) := by decide +kernel
theorem dX4_goOn_6 : decode cX4_goOn 6 = .ok (.getfield 18, 3) := by decide +kernel
theorem dX4_goOn_9 : decode cX4_goOn 9 = .ok (.getfield 54, 3) := by decide +kernel
theorem dX4_goOn_12 : decode cX4_goOn 12 = .ok (.aload_n 1, 1) := by decide +kernel
theorem dX4_goOn_13 : decode cX4_goOn 13 = .ok (.iload_n 2, 1) := by decide +kernel
theorem dX4_goOn_14 : decode cX4_goOn 14 = .ok (.iconst 1, 1) := by decide +kernel
theorem dX4_goOn_15 : decode cX4_goOn 15 = .ok (.isub, 1) := by decide +kernel
theorem dX4_goOn_16 : decode cX4_goOn 16 = .ok (.iaload, 1) := by decide +kernel
theorem dX4_goOn_17 : decode cX4_goOn 17 = .ok (.iaload, 1) := by decide +kernel
theorem dX4_goOn_18 : decode cX4_goOn 18 = .ok (.istore 4, 2) := by decide +kernel
theorem dX4_goOn_20 : decode cX4_goOn 20 = .ok (.aload_n 0, 1) := by decide +kernel
theorem dX4_goOn_21 : decode cX4_goOn 21 = .ok (.getfield 22, 3) := by decide +kernel
theorem dX4_goOn_24 : decode cX4_goOn 24 = .ok (.getfield 51, 3) := by decide +kernel
theorem dX4_goOn_27 : decode cX4_goOn 27 = .ok (.iload_n 2, 1) := by decide +kernel
theorem dX4_goOn_28 : decode cX4_goOn 28 = .ok (.iconst 1, 1) := by decide +kernel
theorem dX4_goOn_29 : decode cX4_goOn 29 = .ok (.isub, 1) := by decide +kernel
theorem dX4_goOn_30 : decode cX4_goOn 30 = .ok (.iaload, 1) := by decide +kernel
theorem dX4_goOn_31 : decode cX4_goOn 31 = .ok (.iload 4, 2) := by decide +kernel
theorem dX4_goOn_33 : decode cX4_goOn 33 = .ok (.iconst (-1), 1) := by decide +kernel
theorem dX4_goOn_34 : decode cX4_goOn 34 = .ok (.ixor, 1) := by decide +kernel
theorem dX4_goOn_35 : decode cX4_goOn 35 = .ok (.iand, 1) := by decide +kernel
theorem dX4_goOn_36 : decode cX4_goOn 36 = .ok (.istore 5, 2) := by decide +kernel
theorem dX4_goOn_38 : decode cX4_goOn 38 = .ok (.iload 5, 2) := by decide +kernel
theorem dX4_goOn_40 : decode cX4_goOn 40 = .ok (.aload_n 0, 1) := by decide +kernel
theorem dX4_goOn_41 : decode cX4_goOn 41 = .ok (.getfield 18, 3) := by decide +kernel
theorem dX4_goOn_44 : decode cX4_goOn 44 = .ok (.getfield 54, 3) := by decide +kernel
theorem dX4_goOn_47 : decode cX4_goOn 47 = .ok (.aload_n 1, 1) := by decide +kernel
theorem dX4_goOn_48 : decode cX4_goOn 48 = .ok (.iload_n 2, 1) := by decide +kernel
theorem dX4_goOn_49 : decode cX4_goOn 49 = .ok (.iaload, 1) := by decide +kernel
theorem dX4_goOn_50 : decode cX4_goOn 50 = .ok (.iaload, 1) := by decide +kernel
theorem dX4_goOn_51 : decode cX4_goOn 51 = .ok (.iand, 1) := by decide +kernel
theorem dX4_goOn_52 : decode cX4_goOn 52 = .ok (.istore 6, 2) := by decide +kernel
theorem dX4_goOn_54 : decode cX4_goOn 54 = .ok (.iload 5, 2) := by decide +kernel
theorem dX4_goOn_56 : decode cX4_goOn 56 = .ok (.istore 7, 2) := by decide +kernel
theorem dX4_goOn_58 : decode cX4_goOn 58 = .ok (.iconst 1, 1) := by decide +kernel
theorem dX4_goOn_59 : decode cX4_goOn 59 = .ok (.iload 5, 2) := by decide +kernel
theorem dX4_goOn_61 : decode cX4_goOn 61 = .ok (.invokestatic 79, 3) := by decide +kernel
theorem dX4_goOn_64 : decode cX4_goOn 64 = .ok (.ishl, 1) := by decide +kernel
theorem dX4_goOn_65 : decode cX4_goOn 65 = .ok (.istore 8, 2) := by decide +kernel
theorem dX4_goOn_67 : decode cX4_goOn 67 = .ok (.iload 8, 2) := by decide +kernel
theorem dX4_goOn_69 : decode cX4_goOn 69 = .ok (.ifCond .le 81, 3) := by decide +kernel
theorem dX4_goOn_72 : decode cX4_goOn 72 = .ok (.aload_n 0, 1) := by decide +kernel
theorem dX4_goOn_73 : decode cX4_goOn 73 = .ok (.getfield 9, 3) := by decide +kernel
theorem dX4_goOn_76 : decode cX4_goOn 76 = .ok (.iload 7, 2) := by decide +kernel
theorem dX4_goOn_78 : decode cX4_goOn 78 = .ok (.iaload, 1) := by decide +kernel
theorem dX4_goOn_79 : decode cX4_goOn 79 = .ok (.ldc 84, 2) := by decide +kernel
theorem dX4_goOn_81 : decode cX4_goOn 81 = .ok (.if_icmp .ge 54, 3) := by decide +kernel
theorem dX4_goOn_84 : decode cX4_goOn 84 = .ok (.iload 7, 2) := by decide +kernel
theorem dX4_goOn_86 : decode cX4_goOn 86 = .ok (.iload 4, 2) := by decide +kernel
theorem dX4_goOn_88 : decode cX4_goOn 88 = .ok (.ior, 1) := by decide +kernel
theorem dX4_goOn_89 : decode cX4_goOn 89 = .ok (.iload_n 3, 1) := by decide +kernel
theorem dX4_goOn_90 : decode cX4_goOn 90 = .ok (.iand, 1) := by decide +kernel
theorem dX4_goOn_91 : decode cX4_goOn 91 = .ok (.istore 9, 2) := by decide +kernel
theorem dX4_goOn_93 : decode cX4_goOn 93 = .ok (.aload_n 0, 1) := by decide +kernel
theorem dX4_goOn_94 : decode cX4_goOn 94 = .ok (.getfield 15, 3) := by decide +kernel
theorem dX4_goOn_97 : decode cX4_goOn 97 = .ok (.iload 9, 2) := by decide +kernel
theorem dX4_goOn_99 : decode cX4_goOn 99 = .ok (.aload_n 0, 1) := by decide +kernel
theorem dX4_goOn_100 : decode cX4_goOn 100 = .ok (.getfield 15, 3) := by decide +kernel
theorem dX4_goOn_103 : decode cX4_goOn 103 = .ok (.iload 9, 2) := by decide +kernel
theorem dX4_goOn_105 : decode cX4_goOn 105 = .ok (.iaload, 1) := by decide +kernel
theorem dX4_goOn_106 : decode cX4_goOn 106 = .ok (.aload_n 0, 1) := by decide +kernel
theorem dX4_goOn_107 : decode cX4_goOn 107 = .ok (.getfield 9, 3) := by decide +kernel
theorem dX4_goOn_110 : decode cX4_goOn 110 = .ok (.iload 7, 2) := by decide +kernel
theorem dX4_goOn_112 : decode cX4_goOn 112 = .ok (.iaload, 1) := by decide +kernel
theorem dX4_goOn_113 : decode cX4_goOn 113 = .ok (.aload_n 0, 1) := by decide +kernel
theorem dX4_goOn_114 : decode cX4_goOn 114 = .ok (.getfield 18, 3) := by decide +kernel
theorem dX4_goOn_117 : decode cX4_goOn 117 = .ok (.getfield 85, 3) := by decide +kernel
theorem dX4_goOn_120 : decode cX4_goOn 120 = .ok (.iload 6, 2) := by decide +kernel
theorem dX4_goOn_122 : decode cX4_goOn 122 = .ok (.iload 7, 2) := by decide +kernel
theorem dX4_goOn_124 : decode cX4_goOn 124 = .ok (.iconst (-1), 1) := by decide +kernel
theorem dX4_goOn_125 : decode cX4_goOn 125 = .ok (.ixor, 1) := by decide +kernel
theorem dX4_goOn_126 : decode cX4_goOn 126 = .ok (.iand, 1) := by decide +kernel
theorem dX4_goOn_127 : decode cX4_goOn 127 = .ok (.invokevirtual 65, 3) := by decide +kernel
theorem dX4_goOn_130 : decode cX4_goOn 130 = .ok (.iadd, 1) := by decide +kernel
theorem dX4_goOn_131 : decode cX4_goOn 131 = .ok (.invokestatic 88, 3) := by decide +kernel
theorem dX4_goOn_134 : decode cX4_goOn 134 = .ok (.iastore, 1) := by decide +kernel
theorem dX4_goOn_135 : decode cX4_goOn 135 = .ok (.iload 7, 2) := by decide +kernel
theorem dX4_goOn_137 : decode cX4_goOn 137 = .ok (.iconst 1, 1) := by decide +kernel
theorem dX4_goOn_138 : decode cX4_goOn 138 = .ok (.isub, 1) := by decide +kernel
theorem dX4_goOn_139 : decode cX4_goOn 139 = .ok (.iload 5, 2) := by decide +kernel
theorem dX4_goOn_141 : decode cX4_goOn 141 = .ok (.iand, 1) := by decide +kernel
theorem dX4_goOn_142 : decode cX4_goOn 142 = .ok (.istore 7, 2) := by decide +kernel
theorem dX4_goOn_144 : decode cX4_goOn 144 = .ok (.iinc 8 (-1), 3) := by decide +kernel
theorem dX4_goOn_147 : decode cX4_goOn 147 = .ok (.goto (-80), 3) := by decide +kernel
theorem dX4_goOn_150 : decode cX4_goOn 150 = .ok (.return_, 1) := by decide +kernel
theorem dX4_leastPrice_0 : decode cX4_leastPrice 0 = .ok (.aload_n 0, 1) := by decide +kernel
theorem dX4_leastPrice_1 : decode cX4_leastPrice 1 = .ok (.getfield 9, 3) := by decide +kernel
theorem dX4_leastPrice_4 : decode cX4_leastPrice 4 = .ok (.iconst 0, 1) := by decide +kernel
theorem dX4_leastPrice_5 : decode cX4_leastPrice 5 = .ok (.iconst 0, 1) := by decide +kernel
theorem dX4_leastPrice_6 : decode cX4_leastPrice 6 = .ok (.iastore, 1) := by decide +kernel
theorem dX4_leastPrice_7 : decode cX4_leastPrice 7 = .ok (.iconst 1, 1) := by decide +kernel
theorem dX4_leastPrice_8 : decode cX4_leastPrice 8 = .ok (.istore_n 3, 1) := by decide +kernel
theorem dX4_leastPrice_9 : decode cX4_leastPrice 9 = .ok (.iload_n 3, 1) := by decide +kernel
theorem dX4_leastPrice_10 : decode cX4_leastPrice 10 = .ok (.aload_n 0, 1) := by decide +kernel
theorem dX4_leastPrice_11 : decode cX4_leastPrice 11 = .ok (.getfield 18, 3) := by decide +kernel
theorem dX4_leastPrice_14 : decode cX4_leastPrice 14 = .ok (.getfield 48, 3) := by decide +kernel
theorem dX4_leastPrice_17 : decode cX4_leastPrice 17 = .ok (.if_icmp .ge 91, 3) := by decide +kernel
theorem dX4_leastPrice_20 : decode cX4_leastPrice 20 = .ok (.aload_n 0, 1) := by decide +kernel
theorem dX4_leastPrice_21 : decode cX4_leastPrice 21 = .ok (.getfield 22, 3) := by decide +kernel
theorem dX4_leastPrice_24 : decode cX4_leastPrice 24 = .ok (.getfield 51, 3) := by decide +kernel
theorem dX4_leastPrice_27 : decode cX4_leastPrice 27 = .ok (.iload_n 3, 1) := by decide +kernel
theorem dX4_leastPrice_28 : decode cX4_leastPrice 28 = .ok (.iaload, 1) := by decide +kernel
theorem dX4_leastPrice_29 : decode cX4_leastPrice 29 = .ok (.aload_n 0, 1) := by decide +kernel
theorem dX4_leastPrice_30 : decode cX4_leastPrice 30 = .ok (.getfield 18, 3) := by decide +kernel
theorem dX4_leastPrice_33 : decode cX4_leastPrice 33 = .ok (.getfield 54, 3) := by decide +kernel
theorem dX4_leastPrice_36 : decode cX4_leastPrice 36 = .ok (.aload_n 1, 1) := by decide +kernel
theorem dX4_leastPrice_37 : decode cX4_leastPrice 37 = .ok (.iload_n 3, 1) := by decide +kernel
theorem dX4_leastPrice_38 : decode cX4_leastPrice 38 = .ok (.iaload, 1) := by decide +kernel
theorem dX4_leastPrice_39 : decode cX4_leastPrice 39 = .ok (.iaload, 1) := by decide +kernel
theorem dX4_leastPrice_40 : decode cX4_leastPrice 40 = .ok (.iconst (-1), 1) := by decide +kernel
theorem dX4_leastPrice_41 : decode cX4_leastPrice 41 = .ok (.ixor, 1) := by decide +kernel
theorem dX4_leastPrice_42 : decode cX4_leastPrice 42 = .ok (.iand, 1) := by decide +kernel
theorem dX4_leastPrice_43 : decode cX4_leastPrice 43 = .ok (.istore 4, 2) := by decide +kernel
theorem dX4_leastPrice_45 : decode cX4_leastPrice 45 = .ok (.aload_n 0, 1) := by decide +kernel
theorem dX4_leastPrice_46 : decode cX4_leastPrice 46 = .ok (.aload_n 1, 1) := by decide +kernel
theorem dX4_leastPrice_47 : decode cX4_leastPrice 47 = .ok (.iload_n 3, 1) := by decide +kernel
theorem dX4_leastPrice_48 : decode cX4_leastPrice 48 = .ok (.iload 4, 2) := by decide +kernel
theorem dX4_leastPrice_50 : decode cX4_leastPrice 50 = .ok (.invokevirtual 57, 3) := by decide +kernel
theorem dX4_leastPrice_53 : decode cX4_leastPrice 53 = .ok (.aload_n 0, 1) := by decide +kernel
theorem dX4_leastPrice_54 : decode cX4_leastPrice 54 = .ok (.iload 4, 2) := by decide +kernel
theorem dX4_leastPrice_56 : decode cX4_leastPrice 56 = .ok (.iload_n 2, 1) := by decide +kernel
theorem dX4_leastPrice_57 : decode cX4_leastPrice 57 = .ok (.aload_n 0, 1) := by decide +kernel
theorem dX4_leastPrice_58 : decode cX4_leastPrice 58 = .ok (.getfield 18, 3) := by decide +kernel
theorem dX4_leastPrice_61 : decode cX4_leastPrice 61 = .ok (.getfield 61, 3) := by decide +kernel
theorem dX4_leastPrice_64 : decode cX4_leastPrice 64 = .ok (.aload_n 0, 1) := by decide +kernel
theorem dX4_leastPrice_65 : decode cX4_leastPrice 65 = .ok (.getfield 18, 3) := by decide +kernel
theorem dX4_leastPrice_68 : decode cX4_leastPrice 68 = .ok (.getfield 54, 3) := by decide +kernel
theorem dX4_leastPrice_71 : decode cX4_leastPrice 71 = .ok (.aload_n 1, 1) := by decide +kernel
theorem dX4_leastPrice_72 : decode cX4_leastPrice 72 = .ok (.iload_n 3, 1) := by decide +kernel
theorem dX4_leastPrice_73 : decode cX4_leastPrice 73 = .ok (.iaload, 1) := by decide +kernel
theorem dX4_leastPrice_74 : decode cX4_leastPrice 74 = .ok (.iaload, 1) := by decide +kernel
theorem dX4_leastPrice_75 : decode cX4_leastPrice 75 = .ok (.invokevirtual 65, 3) := by decide +kernel
theorem dX4_leastPrice_78 : decode cX4_leastPrice 78 = .ok (.isub, 1) := by decide +kernel
theorem dX4_leastPrice_79 : decode cX4_leastPrice 79 = .ok (.invokevirtual 71, 3) := by decide +kernel
theorem dX4_leastPrice_82 : decode cX4_leastPrice 82 = .ok (.aload_n 0, 1) := by decide +kernel
theorem dX4_leastPrice_83 : decode cX4_leastPrice 83 = .ok (.getfield 9, 3) := by decide +kernel
theorem dX4_leastPrice_86 : decode cX4_leastPrice 86 = .ok (.astore 5, 2) := by decide +kernel
theorem dX4_leastPrice_88 : decode cX4_leastPrice 88 = .ok (.aload_n 0, 1) := by decide +kernel
theorem dX4_leastPrice_89 : decode cX4_leastPrice 89 = .ok (.aload_n 0, 1) := by decide +kernel
theorem dX4_leastPrice_90 : decode cX4_leastPrice 90 = .ok (.getfield 15, 3) := by decide +kernel
theorem dX4_leastPrice_93 : decode cX4_leastPrice 93 = .ok (.putfield 9, 3) := by decide +kernel
theorem dX4_leastPrice_96 : decode cX4_leastPrice 96 = .ok (.aload_n 0, 1) := by decide +kernel
theorem dX4_leastPrice_97 : decode cX4_leastPrice 97 = .ok (.aload 5, 2) := by decide +kernel
theorem dX4_leastPrice_99 : decode cX4_leastPrice 99 = .ok (.putfield 15, 3) := by decide +kernel
theorem dX4_leastPrice_102 : decode cX4_leastPrice 102 = .ok (.iinc 3 1, 3) := by decide +kernel
theorem dX4_leastPrice_105 : decode cX4_leastPrice 105 = .ok (.goto (-96), 3) := by decide +kernel
theorem dX4_leastPrice_108 : decode cX4_leastPrice 108 = .ok (.aload_n 0, 1) := by decide +kernel
theorem dX4_leastPrice_109 : decode cX4_leastPrice 109 = .ok (.getfield 9, 3) := by decide +kernel
theorem dX4_leastPrice_112 : decode cX4_leastPrice 112 = .ok (.iconst 0, 1) := by decide +kernel
theorem dX4_leastPrice_113 : decode cX4_leastPrice 113 = .ok (.iaload, 1) := by decide +kernel
theorem dX4_leastPrice_114 : decode cX4_leastPrice 114 = .ok (.ireturn, 1) := by decide +kernel
theorem dX4_leastRoom_0 : decode cX4_leastRoom 0 = .ok (.aload_n 0, 1) := by decide +kernel
theorem dX4_leastRoom_1 : decode cX4_leastRoom 1 = .ok (.getfield 18, 3) := by decide +kernel
theorem dX4_leastRoom_4 : decode cX4_leastRoom 4 = .ok (.invokevirtual 26, 3) := by decide +kernel
theorem dX4_leastRoom_7 : decode cX4_leastRoom 7 = .ok (.istore_n 3, 1) := by decide +kernel
theorem dX4_leastRoom_8 : decode cX4_leastRoom 8 = .ok (.iload_n 3, 1) := by decide +kernel
theorem dX4_leastRoom_9 : decode cX4_leastRoom 9 = .ok (.aload_n 0, 1) := by decide +kernel
theorem dX4_leastRoom_10 : decode cX4_leastRoom 10 = .ok (.getfield 22, 3) := by decide +kernel
theorem dX4_leastRoom_13 : decode cX4_leastRoom 13 = .ok (.getfield 32, 3) := by decide +kernel
theorem dX4_leastRoom_16 : decode cX4_leastRoom 16 = .ok (.invokestatic 38, 3) := by decide +kernel
theorem dX4_leastRoom_19 : decode cX4_leastRoom 19 = .ok (.istore 4, 2) := by decide +kernel
theorem dX4_leastRoom_21 : decode cX4_leastRoom 21 = .ok (.iload_n 3, 1) := by decide +kernel
theorem dX4_leastRoom_22 : decode cX4_leastRoom 22 = .ok (.iload 4, 2) := by decide +kernel
theorem dX4_leastRoom_24 : decode cX4_leastRoom 24 = .ok (.if_icmp .ge 37, 3) := by decide +kernel
theorem dX4_leastRoom_27 : decode cX4_leastRoom 27 = .ok (.iload_n 3, 1) := by decide +kernel
theorem dX4_leastRoom_28 : decode cX4_leastRoom 28 = .ok (.iload 4, 2) := by decide +kernel
theorem dX4_leastRoom_30 : decode cX4_leastRoom 30 = .ok (.iadd, 1) := by decide +kernel
theorem dX4_leastRoom_31 : decode cX4_leastRoom 31 = .ok (.iconst 2, 1) := by decide +kernel
theorem dX4_leastRoom_32 : decode cX4_leastRoom 32 = .ok (.idiv, 1) := by decide +kernel
theorem dX4_leastRoom_33 : decode cX4_leastRoom 33 = .ok (.istore 5, 2) := by decide +kernel
theorem dX4_leastRoom_35 : decode cX4_leastRoom 35 = .ok (.aload_n 0, 1) := by decide +kernel
theorem dX4_leastRoom_36 : decode cX4_leastRoom 36 = .ok (.aload_n 1, 1) := by decide +kernel
theorem dX4_leastRoom_37 : decode cX4_leastRoom 37 = .ok (.iload 5, 2) := by decide +kernel
theorem dX4_leastRoom_39 : decode cX4_leastRoom 39 = .ok (.invokevirtual 44, 3) := by decide +kernel
theorem dX4_leastRoom_42 : decode cX4_leastRoom 42 = .ok (.iload_n 2, 1) := by decide +kernel
theorem dX4_leastRoom_43 : decode cX4_leastRoom 43 = .ok (.if_icmp .gt 10, 3) := by decide +kernel
theorem dX4_leastRoom_46 : decode cX4_leastRoom 46 = .ok (.iload 5, 2) := by decide +kernel
theorem dX4_leastRoom_48 : decode cX4_leastRoom 48 = .ok (.istore 4, 2) := by decide +kernel
theorem dX4_leastRoom_50 : decode cX4_leastRoom 50 = .ok (.goto 8, 3) := by decide +kernel
theorem dX4_leastRoom_53 : decode cX4_leastRoom 53 = .ok (.iload 5, 2) := by decide +kernel
theorem dX4_leastRoom_55 : decode cX4_leastRoom 55 = .ok (.iconst 1, 1) := by decide +kernel
theorem dX4_leastRoom_56 : decode cX4_leastRoom 56 = .ok (.iadd, 1) := by decide +kernel
theorem dX4_leastRoom_57 : decode cX4_leastRoom 57 = .ok (.istore_n 3, 1) := by decide +kernel
theorem dX4_leastRoom_58 : decode cX4_leastRoom 58 = .ok (.goto (-37), 3) := by decide +kernel
theorem dX4_leastRoom_61 : decode cX4_leastRoom 61 = .ok (.iload_n 3, 1) := by decide +kernel
theorem dX4_leastRoom_62 : decode cX4_leastRoom 62 = .ok (.ireturn, 1) := by decide +kernel
theorem dX5_change_0 : decode cX5_change 0 = .ok (.aload_n 0, 1) := by decide +kernel
theorem dX5_change_1 : decode cX5_change 1 = .ok (.iconst 1, 1) := by decide +kernel
theorem dX5_change_2 : decode cX5_change 2 = .ok (.iload_n 1, 1) := by decide +kernel
theorem dX5_change_3 : decode cX5_change 3 = .ok (.ishl, 1) := by decide +kernel
theorem dX5_change_4 : decode cX5_change 4 = .ok (.invokevirtual 22, 3) := by decide +kernel
theorem dX5_change_7 : decode cX5_change 7 = .ok (.istore_n 3, 1) := by decide +kernel
theorem dX5_change_8 : decode cX5_change 8 = .ok (.iload_n 1, 1) := by decide +kernel
theorem dX5_change_9 : decode cX5_change 9 = .ok (.iconst 5, 1) := by decide +kernel
theorem dX5_change_10 : decode cX5_change 10 = .ok (.if_icmp .ge 10, 3) := by decide +kernel
theorem dX5_change_13 : decode cX5_change 13 = .ok (.aload_n 0, 1) := by decide +kernel
theorem dX5_change_14 : decode cX5_change 14 = .ok (.getfield 9, 3) := by decide +kernel
theorem dX5_change_17 : decode cX5_change 17 = .ok (.goto 7, 3) := by decide +kernel
theorem dX5_change_20 : decode cX5_change 20 = .ok (.aload_n 0, 1) := by decide +kernel
theorem dX5_change_21 : decode cX5_change 21 = .ok (.getfield 13, 3) := by decide +kernel
theorem dX5_change_24 : decode cX5_change 24 = .ok (.astore 4, 2) := by decide +kernel
theorem dX5_change_26 : decode cX5_change 26 = .ok (.iconst 1, 1) := by decide +kernel
theorem dX5_change_27 : decode cX5_change 27 = .ok (.iload_n 1, 1) := by decide +kernel
theorem dX5_change_28 : decode cX5_change 28 = .ok (.iconst 5, 1) := by decide +kernel
theorem dX5_change_29 : decode cX5_change 29 = .ok (.irem, 1) := by decide +kernel
theorem dX5_change_30 : decode cX5_change 30 = .ok (.ishl, 1) := by decide +kernel
theorem dX5_change_31 : decode cX5_change 31 = .ok (.istore 5, 2) := by decide +kernel
theorem dX5_change_33 : decode cX5_change 33 = .ok (.iconst 0, 1) := by decide +kernel
theorem dX5_change_34 : decode cX5_change 34 = .ok (.istore 6, 2) := by decide +kernel
theorem dX5_change_36 : decode cX5_change 36 = .ok (.iload 6, 2) := by decide +kernel
theorem dX5_change_38 : decode cX5_change 38 = .ok (.bipush 32, 2) := by decide +kernel
theorem dX5_change_40 : decode cX5_change 40 = .ok (.if_icmp .ge 28, 3) := by decide +kernel
theorem dX5_change_43 : decode cX5_change 43 = .ok (.iload 6, 2) := by decide +kernel
theorem dX5_change_45 : decode cX5_change 45 = .ok (.iload 5, 2) := by decide +kernel
theorem dX5_change_47 : decode cX5_change 47 = .ok (.iand, 1) := by decide +kernel
theorem dX5_change_48 : decode cX5_change 48 = .ok (.ifCond .eq 14, 3) := by decide +kernel
theorem dX5_change_51 : decode cX5_change 51 = .ok (.aload 4, 2) := by decide +kernel
theorem dX5_change_53 : decode cX5_change 53 = .ok (.iload 6, 2) := by decide +kernel
theorem dX5_change_55 : decode cX5_change 55 = .ok (.dup2, 1) := by decide +kernel
theorem dX5_change_56 : decode cX5_change 56 = .ok (.iaload, 1) := by decide +kernel
theorem dX5_change_57 : decode cX5_change 57 = .ok (.iload_n 2, 1) := by decide +kernel
theorem dX5_change_58 : decode cX5_change 58 = .ok (.iload_n 3, 1) := by decide +kernel
theorem dX5_change_59 : decode cX5_change 59 = .ok (.isub, 1) := by decide +kernel
theorem dX5_change_60 : decode cX5_change 60 = .ok (.iadd, 1) := by decide +kernel
theorem dX5_change_61 : decode cX5_change 61 = .ok (.iastore, 1) := by decide +kernel
theorem dX5_change_62 : decode cX5_change 62 = .ok (.iinc 6 1, 3) := by decide +kernel
theorem dX5_change_65 : decode cX5_change 65 = .ok (.goto (-29), 3) := by decide +kernel
theorem dX5_change_68 : decode cX5_change 68 = .ok (.iload_n 3, 1) := by decide +kernel
theorem dX5_change_69 : decode cX5_change 69 = .ok (.ireturn, 1) := by decide +kernel
theorem dX6_mayCome_0 : decode cX6_mayCome 0 = .ok (.iload_n 2, 1) := by decide +kernel
theorem dX6_mayCome_1 : decode cX6_mayCome 1 = .ok (.iload_n 1, 1) := by decide +kernel
theorem dX6_mayCome_2 : decode cX6_mayCome 2 = .ok (.ishr, 1) := by decide +kernel
theorem dX6_mayCome_3 : decode cX6_mayCome 3 = .ok (.iconst 1, 1) := by decide +kernel
theorem dX6_mayCome_4 : decode cX6_mayCome 4 = .ok (.iand, 1) := by decide +kernel
theorem dX6_mayCome_5 : decode cX6_mayCome 5 = .ok (.ifCond .ne 20, 3) := by decide +kernel
theorem dX6_mayCome_8 : decode cX6_mayCome 8 = .ok (.aload_n 0, 1) := by decide +kernel
theorem dX6_mayCome_9 : decode cX6_mayCome 9 = .ok (.getfield 15, 3) := by decide +kernel
theorem dX6_mayCome_12 : decode cX6_mayCome 12 = .ok (.iload_n 1, 1) := by decide +kernel
theorem dX6_mayCome_13 : decode cX6_mayCome 13 = .ok (.iaload, 1) := by decide +kernel
theorem dX6_mayCome_14 : decode cX6_mayCome 14 = .ok (.iload_n 2, 1) := by decide +kernel
theorem dX6_mayCome_15 : decode cX6_mayCome 15 = .ok (.iconst (-1), 1) := by decide +kernel
theorem dX6_mayCome_16 : decode cX6_mayCome 16 = .ok (.ixor, 1) := by decide +kernel
theorem dX6_mayCome_17 : decode cX6_mayCome 17 = .ok (.iand, 1) := by decide +kernel
theorem dX6_mayCome_18 : decode cX6_mayCome 18 = .ok (.ifCond .ne 7, 3) := by decide +kernel
theorem dX6_mayCome_21 : decode cX6_mayCome 21 = .ok (.iconst 1, 1) := by decide +kernel
theorem dX6_mayCome_22 : decode cX6_mayCome 22 = .ok (.goto 4, 3) := by decide +kernel
theorem dX6_mayCome_25 : decode cX6_mayCome 25 = .ok (.iconst 0, 1) := by decide +kernel
theorem dX6_mayCome_26 : decode cX6_mayCome 26 = .ok (.ireturn, 1) := by decide +kernel
theorem dX6_wide_0 : decode cX6_wide 0 = .ok (.aload_n 0, 1) := by decide +kernel
theorem dX6_wide_1 : decode cX6_wide 1 = .ok (.getfield 31, 3) := by decide +kernel
theorem dX6_wide_4 : decode cX6_wide 4 = .ok (.getfield 76, 3) := by decide +kernel
theorem dX6_wide_7 : decode cX6_wide 7 = .ok (.aload_n 0, 1) := by decide +kernel
theorem dX6_wide_8 : decode cX6_wide 8 = .ok (.getfield 18, 3) := by decide +kernel
theorem dX6_wide_11 : decode cX6_wide 11 = .ok (.iload_n 2, 1) := by decide +kernel
theorem dX6_wide_12 : decode cX6_wide 12 = .ok (.iconst 1, 1) := by decide +kernel
theorem dX6_wide_13 : decode cX6_wide 13 = .ok (.iload_n 1, 1) := by decide +kernel
theorem dX6_wide_14 : decode cX6_wide 14 = .ok (.ishl, 1) := by decide +kernel
theorem dX6_wide_15 : decode cX6_wide 15 = .ok (.ior, 1) := by decide +kernel
theorem dX6_wide_16 : decode cX6_wide 16 = .ok (.iaload, 1) := by decide +kernel
theorem dX6_wide_17 : decode cX6_wide 17 = .ok (.aload_n 0, 1) := by decide +kernel
theorem dX6_wide_18 : decode cX6_wide 18 = .ok (.getfield 18, 3) := by decide +kernel
theorem dX6_wide_21 : decode cX6_wide 21 = .ok (.aload_n 0, 1) := by decide +kernel
theorem dX6_wide_22 : decode cX6_wide 22 = .ok (.getfield 70, 3) := by decide +kernel
theorem dX6_wide_25 : decode cX6_wide 25 = .ok (.iload_n 2, 1) := by decide +kernel
theorem dX6_wide_26 : decode cX6_wide 26 = .ok (.iconst (-1), 1) := by decide +kernel
theorem dX6_wide_27 : decode cX6_wide 27 = .ok (.ixor, 1) := by decide +kernel
theorem dX6_wide_28 : decode cX6_wide 28 = .ok (.iand, 1) := by decide +kernel
theorem dX6_wide_29 : decode cX6_wide 29 = .ok (.iaload, 1) := by decide +kernel
theorem dX6_wide_30 : decode cX6_wide 30 = .ok (.iand, 1) := by decide +kernel
theorem dX6_wide_31 : decode cX6_wide 31 = .ok (.invokevirtual 80, 3) := by decide +kernel
theorem dX6_wide_34 : decode cX6_wide 34 = .ok (.ireturn, 1) := by decide +kernel
theorem dX6_fillLeast_0 : decode cX6_fillLeast 0 = .ok (.aload_n 0, 1) := by decide +kernel
theorem dX6_fillLeast_1 : decode cX6_fillLeast 1 = .ok (.getfield 21, 3) := by decide +kernel
theorem dX6_fillLeast_4 : decode cX6_fillLeast 4 = .ok (.aload_n 0, 1) := by decide +kernel
theorem dX6_fillLeast_5 : decode cX6_fillLeast 5 = .ok (.getfield 70, 3) := by decide +kernel
theorem dX6_fillLeast_8 : decode cX6_fillLeast 8 = .ok (.iconst 0, 1) := by decide +kernel
theorem dX6_fillLeast_9 : decode cX6_fillLeast 9 = .ok (.iastore, 1) := by decide +kernel
theorem dX6_fillLeast_10 : decode cX6_fillLeast 10 = .ok (.aload_n 0, 1) := by decide +kernel
theorem dX6_fillLeast_11 : decode cX6_fillLeast 11 = .ok (.getfield 70, 3) := by decide +kernel
theorem dX6_fillLeast_14 : decode cX6_fillLeast 14 = .ok (.iconst 1, 1) := by decide +kernel
theorem dX6_fillLeast_15 : decode cX6_fillLeast 15 = .ok (.isub, 1) := by decide +kernel
theorem dX6_fillLeast_16 : decode cX6_fillLeast 16 = .ok (.istore_n 2, 1) := by decide +kernel
theorem dX6_fillLeast_17 : decode cX6_fillLeast 17 = .ok (.iload_n 2, 1) := by decide +kernel
theorem dX6_fillLeast_18 : decode cX6_fillLeast 18 = .ok (.ifCond .lt 87, 3) := by decide +kernel
theorem dX6_fillLeast_21 : decode cX6_fillLeast 21 = .ok (.iload_n 1, 1) := by decide +kernel
theorem dX6_fillLeast_22 : decode cX6_fillLeast 22 = .ok (.istore_n 3, 1) := by decide +kernel
theorem dX6_fillLeast_23 : decode cX6_fillLeast 23 = .ok (.iconst 0, 1) := by decide +kernel
theorem dX6_fillLeast_24 : decode cX6_fillLeast 24 = .ok (.istore 4, 2) := by decide +kernel
theorem dX6_fillLeast_26 : decode cX6_fillLeast 26 = .ok (.iload 4, 2) := by decide +kernel
theorem dX6_fillLeast_28 : decode cX6_fillLeast 28 = .ok (.aload_n 0, 1) := by decide +kernel
theorem dX6_fillLeast_29 : decode cX6_fillLeast 29 = .ok (.getfield 61, 3) := by decide +kernel
theorem dX6_fillLeast_32 : decode cX6_fillLeast 32 = .ok (.if_icmp .ge 60, 3) := by decide +kernel
theorem dX6_fillLeast_35 : decode cX6_fillLeast 35 = .ok (.aload_n 0, 1) := by decide +kernel
theorem dX6_fillLeast_36 : decode cX6_fillLeast 36 = .ok (.iload 4, 2) := by decide +kernel
theorem dX6_fillLeast_38 : decode cX6_fillLeast 38 = .ok (.iload_n 2, 1) := by decide +kernel
theorem dX6_fillLeast_39 : decode cX6_fillLeast 39 = .ok (.invokevirtual 85, 3) := by decide +kernel
theorem dX6_fillLeast_42 : decode cX6_fillLeast 42 = .ok (.ifCond .eq 44, 3) := by decide +kernel
theorem dX6_fillLeast_45 : decode cX6_fillLeast 45 = .ok (.aload_n 0, 1) := by decide +kernel
theorem dX6_fillLeast_46 : decode cX6_fillLeast 46 = .ok (.getfield 21, 3) := by decide +kernel
theorem dX6_fillLeast_49 : decode cX6_fillLeast 49 = .ok (.iload_n 2, 1) := by decide +kernel
theorem dX6_fillLeast_50 : decode cX6_fillLeast 50 = .ok (.iconst 1, 1) := by decide +kernel
theorem dX6_fillLeast_51 : decode cX6_fillLeast 51 = .ok (.iload 4, 2) := by decide +kernel
theorem dX6_fillLeast_53 : decode cX6_fillLeast 53 = .ok (.ishl, 1) := by decide +kernel
theorem dX6_fillLeast_54 : decode cX6_fillLeast 54 = .ok (.ior, 1) := by decide +kernel
theorem dX6_fillLeast_55 : decode cX6_fillLeast 55 = .ok (.iaload, 1) := by decide +kernel
theorem dX6_fillLeast_56 : decode cX6_fillLeast 56 = .ok (.iload_n 3, 1) := by decide +kernel
theorem dX6_fillLeast_57 : decode cX6_fillLeast 57 = .ok (.if_icmp .ge 29, 3) := by decide +kernel
theorem dX6_fillLeast_60 : decode cX6_fillLeast 60 = .ok (.iload_n 3, 1) := by decide +kernel
theorem dX6_fillLeast_61 : decode cX6_fillLeast 61 = .ok (.aload_n 0, 1) := by decide +kernel
theorem dX6_fillLeast_62 : decode cX6_fillLeast 62 = .ok (.getfield 21, 3) := by decide +kernel
theorem dX6_fillLeast_65 : decode cX6_fillLeast 65 = .ok (.iload_n 2, 1) := by decide +kernel
theorem dX6_fillLeast_66 : decode cX6_fillLeast 66 = .ok (.iconst 1, 1) := by decide +kernel
theorem dX6_fillLeast_67 : decode cX6_fillLeast 67 = .ok (.iload 4, 2) := by decide +kernel
theorem dX6_fillLeast_69 : decode cX6_fillLeast 69 = .ok (.ishl, 1) := by decide +kernel
theorem dX6_fillLeast_70 : decode cX6_fillLeast 70 = .ok (.ior, 1) := by decide +kernel
theorem dX6_fillLeast_71 : decode cX6_fillLeast 71 = .ok (.iaload, 1) := by decide +kernel
theorem dX6_fillLeast_72 : decode cX6_fillLeast 72 = .ok (.aload_n 0, 1) := by decide +kernel
theorem dX6_fillLeast_73 : decode cX6_fillLeast 73 = .ok (.iload 4, 2) := by decide +kernel
theorem dX6_fillLeast_75 : decode cX6_fillLeast 75 = .ok (.iload_n 2, 1) := by decide +kernel
theorem dX6_fillLeast_76 : decode cX6_fillLeast 76 = .ok (.invokevirtual 89, 3) := by decide +kernel
theorem dX6_fillLeast_79 : decode cX6_fillLeast 79 = .ok (.invokestatic 92, 3) := by decide +kernel
theorem dX6_fillLeast_82 : decode cX6_fillLeast 82 = .ok (.invokestatic 97, 3) := by decide +kernel
theorem dX6_fillLeast_85 : decode cX6_fillLeast 85 = .ok (.istore_n 3, 1) := by decide +kernel
theorem dX6_fillLeast_86 : decode cX6_fillLeast 86 = .ok (.iinc 4 1, 3) := by decide +kernel
theorem dX6_fillLeast_89 : decode cX6_fillLeast 89 = .ok (.goto (-63), 3) := by decide +kernel
theorem dX6_fillLeast_92 : decode cX6_fillLeast 92 = .ok (.aload_n 0, 1) := by decide +kernel
theorem dX6_fillLeast_93 : decode cX6_fillLeast 93 = .ok (.getfield 21, 3) := by decide +kernel
theorem dX6_fillLeast_96 : decode cX6_fillLeast 96 = .ok (.iload_n 2, 1) := by decide +kernel
theorem dX6_fillLeast_97 : decode cX6_fillLeast 97 = .ok (.iload_n 3, 1) := by decide +kernel
theorem dX6_fillLeast_98 : decode cX6_fillLeast 98 = .ok (.iastore, 1) := by decide +kernel
theorem dX6_fillLeast_99 : decode cX6_fillLeast 99 = .ok (.iinc 2 (-1), 3) := by decide +kernel
theorem dX6_fillLeast_102 : decode cX6_fillLeast 102 = .ok (.goto (-85), 3) := by decide +kernel
theorem dX6_fillLeast_105 : decode cX6_fillLeast 105 = .ok (.return_, 1) := by decide +kernel
theorem dX6_squeeze_0 : decode cX6_squeeze 0 = .ok (.iconst 0, 1) := by decide +kernel
theorem dX6_squeeze_1 : decode cX6_squeeze 1 = .ok (.istore_n 3, 1) := by decide +kernel
theorem dX6_squeeze_2 : decode cX6_squeeze 2 = .ok (.iconst 0, 1) := by decide +kernel
theorem dX6_squeeze_3 : decode cX6_squeeze 3 = .ok (.istore 4, 2) := by decide +kernel
theorem dX6_squeeze_5 : decode cX6_squeeze 5 = .ok (.iconst 0, 1) := by decide +kernel
theorem dX6_squeeze_6 : decode cX6_squeeze 6 = .ok (.istore 5, 2) := by decide +kernel
theorem dX6_squeeze_8 : decode cX6_squeeze 8 = .ok (.iload 5, 2) := by decide +kernel
theorem dX6_squeeze_10 : decode cX6_squeeze 10 = .ok (.aload_n 0, 1) := by decide +kernel
theorem dX6_squeeze_11 : decode cX6_squeeze 11 = .ok (.getfield 31, 3) := by decide +kernel
theorem dX6_squeeze_14 : decode cX6_squeeze 14 = .ok (.getfield 64, 3) := by decide +kernel
theorem dX6_squeeze_17 : decode cX6_squeeze 17 = .ok (.if_icmp .ge 33, 3) := by decide +kernel
theorem dX6_squeeze_20 : decode cX6_squeeze 20 = .ok (.iload_n 2, 1) := by decide +kernel
theorem dX6_squeeze_21 : decode cX6_squeeze 21 = .ok (.iload 5, 2) := by decide +kernel
theorem dX6_squeeze_23 : decode cX6_squeeze 23 = .ok (.ishr, 1) := by decide +kernel
theorem dX6_squeeze_24 : decode cX6_squeeze 24 = .ok (.iconst 1, 1) := by decide +kernel
theorem dX6_squeeze_25 : decode cX6_squeeze 25 = .ok (.iand, 1) := by decide +kernel
theorem dX6_squeeze_26 : decode cX6_squeeze 26 = .ok (.ifCond .eq 18, 3) := by decide +kernel
theorem dX6_squeeze_29 : decode cX6_squeeze 29 = .ok (.iload_n 3, 1) := by decide +kernel
theorem dX6_squeeze_30 : decode cX6_squeeze 30 = .ok (.iload_n 1, 1) := by decide +kernel
theorem dX6_squeeze_31 : decode cX6_squeeze 31 = .ok (.iload 5, 2) := by decide +kernel
theorem dX6_squeeze_33 : decode cX6_squeeze 33 = .ok (.ishr, 1) := by decide +kernel
theorem dX6_squeeze_34 : decode cX6_squeeze 34 = .ok (.iconst 1, 1) := by decide +kernel
theorem dX6_squeeze_35 : decode cX6_squeeze 35 = .ok (.iand, 1) := by decide +kernel
theorem dX6_squeeze_36 : decode cX6_squeeze 36 = .ok (.iload 4, 2) := by decide +kernel
theorem dX6_squeeze_38 : decode cX6_squeeze 38 = .ok (.ishl, 1) := by decide +kernel
theorem dX6_squeeze_39 : decode cX6_squeeze 39 = .ok (.ior, 1) := by decide +kernel
theorem dX6_squeeze_40 : decode cX6_squeeze 40 = .ok (.istore_n 3, 1) := by decide +kernel
theorem dX6_squeeze_41 : decode cX6_squeeze 41 = .ok (.iinc 4 1, 3) := by decide +kernel
theorem dX6_squeeze_44 : decode cX6_squeeze 44 = .ok (.iinc 5 1, 3) := by decide +kernel
theorem dX6_squeeze_47 : decode cX6_squeeze 47 = .ok (.goto (-39), 3) := by decide +kernel
theorem dX6_squeeze_50 : decode cX6_squeeze 50 = .ok (.iload_n 3, 1) := by decide +kernel
theorem dX6_squeeze_51 : decode cX6_squeeze 51 = .ok (.ireturn, 1) := by decide +kernel
theorem dX6_load_0 : decode cX6_load 0 = .ok (.aload_n 0, 1) := by decide +kernel
theorem dX6_load_1 : decode cX6_load 1 = .ok (.iconst 0, 1) := by decide +kernel
theorem dX6_load_2 : decode cX6_load 2 = .ok (.putfield 61, 3) := by decide +kernel
theorem dX6_load_5 : decode cX6_load 5 = .ok (.iconst 0, 1) := by decide +kernel
theorem dX6_load_6 : decode cX6_load 6 = .ok (.istore_n 2, 1) := by decide +kernel
theorem dX6_load_7 : decode cX6_load 7 = .ok (.iload_n 2, 1) := by decide +kernel
theorem dX6_load_8 : decode cX6_load 8 = .ok (.aload_n 0, 1) := by decide +kernel
theorem dX6_load_9 : decode cX6_load 9 = .ok (.getfield 31, 3) := by decide +kernel
theorem dX6_load_12 : decode cX6_load 12 = .ok (.getfield 64, 3) := by decide +kernel
theorem dX6_load_15 : decode cX6_load 15 = .ok (.if_icmp .ge 68, 3) := by decide +kernel
theorem dX6_load_18 : decode cX6_load 18 = .ok (.iload_n 1, 1) := by decide +kernel
theorem dX6_load_19 : decode cX6_load 19 = .ok (.iload_n 2, 1) := by decide +kernel
theorem dX6_load_20 : decode cX6_load 20 = .ok (.ishr, 1) := by decide +kernel
theorem dX6_load_21 : decode cX6_load 21 = .ok (.iconst 1, 1) := by decide +kernel
theorem dX6_load_22 : decode cX6_load 22 = .ok (.iand, 1) := by decide +kernel
theorem dX6_load_23 : decode cX6_load 23 = .ok (.ifCond .eq 54, 3) := by decide +kernel
theorem dX6_load_26 : decode cX6_load 26 = .ok (.aload_n 0, 1) := by decide +kernel
theorem dX6_load_27 : decode cX6_load 27 = .ok (.getfield 9, 3) := by decide +kernel
theorem dX6_load_30 : decode cX6_load 30 = .ok (.aload_n 0, 1) := by decide +kernel
theorem dX6_load_31 : decode cX6_load 31 = .ok (.getfield 61, 3) := by decide +kernel
theorem dX6_load_34 : decode cX6_load 34 = .ok (.aload_n 0, 1) := by decide +kernel
theorem dX6_load_35 : decode cX6_load 35 = .ok (.getfield 31, 3) := by decide +kernel
theorem dX6_load_38 : decode cX6_load 38 = .ok (.getfield 65, 3) := by decide +kernel
theorem dX6_load_41 : decode cX6_load 41 = .ok (.iload_n 2, 1) := by decide +kernel
theorem dX6_load_42 : decode cX6_load 42 = .ok (.iaload, 1) := by decide +kernel
theorem dX6_load_43 : decode cX6_load 43 = .ok (.iastore, 1) := by decide +kernel
theorem dX6_load_44 : decode cX6_load 44 = .ok (.aload_n 0, 1) := by decide +kernel
theorem dX6_load_45 : decode cX6_load 45 = .ok (.getfield 15, 3) := by decide +kernel
theorem dX6_load_48 : decode cX6_load 48 = .ok (.aload_n 0, 1) := by decide +kernel
theorem dX6_load_49 : decode cX6_load 49 = .ok (.getfield 61, 3) := by decide +kernel
theorem dX6_load_52 : decode cX6_load 52 = .ok (.aload_n 0, 1) := by decide +kernel
theorem dX6_load_53 : decode cX6_load 53 = .ok (.aload_n 0, 1) := by decide +kernel
theorem dX6_load_54 : decode cX6_load 54 = .ok (.getfield 31, 3) := by decide +kernel
theorem dX6_load_57 : decode cX6_load 57 = .ok (.getfield 66, 3) := by decide +kernel
theorem dX6_load_60 : decode cX6_load 60 = .ok (.iload_n 2, 1) := by decide +kernel
theorem dX6_load_61 : decode cX6_load 61 = .ok (.iaload, 1) := by decide +kernel
theorem dX6_load_62 : decode cX6_load 62 = .ok (.iload_n 1, 1) := by decide +kernel
theorem dX6_load_63 : decode cX6_load 63 = .ok (.invokevirtual 67, 3) := by decide +kernel
theorem dX6_load_66 : decode cX6_load 66 = .ok (.iastore, 1) := by decide +kernel
theorem dX6_load_67 : decode cX6_load 67 = .ok (.aload_n 0, 1) := by decide +kernel
theorem dX6_load_68 : decode cX6_load 68 = .ok (.dup, 1) := by decide +kernel
theorem dX6_load_69 : decode cX6_load 69 = .ok (.getfield 61, 3) := by decide +kernel
theorem dX6_load_72 : decode cX6_load 72 = .ok (.iconst 1, 1) := by decide +kernel
theorem dX6_load_73 : decode cX6_load 73 = .ok (.iadd, 1) := by decide +kernel
theorem dX6_load_74 : decode cX6_load 74 = .ok (.putfield 61, 3) := by decide +kernel
theorem dX6_load_77 : decode cX6_load 77 = .ok (.iinc 2 1, 3) := by decide +kernel
theorem dX6_load_80 : decode cX6_load 80 = .ok (.goto (-73), 3) := by decide +kernel
theorem dX6_load_83 : decode cX6_load 83 = .ok (.aload_n 0, 1) := by decide +kernel
theorem dX6_load_84 : decode cX6_load 84 = .ok (.iconst 1, 1) := by decide +kernel
theorem dX6_load_85 : decode cX6_load 85 = .ok (.aload_n 0, 1) := by decide +kernel
theorem dX6_load_86 : decode cX6_load 86 = .ok (.getfield 61, 3) := by decide +kernel
theorem dX6_load_89 : decode cX6_load 89 = .ok (.ishl, 1) := by decide +kernel
theorem dX6_load_90 : decode cX6_load 90 = .ok (.iconst 1, 1) := by decide +kernel
theorem dX6_load_91 : decode cX6_load 91 = .ok (.isub, 1) := by decide +kernel
theorem dX6_load_92 : decode cX6_load 92 = .ok (.putfield 70, 3) := by decide +kernel
theorem dX6_load_95 : decode cX6_load 95 = .ok (.aload_n 0, 1) := by decide +kernel
theorem dX6_load_96 : decode cX6_load 96 = .ok (.iconst (-1), 1) := by decide +kernel
theorem dX6_load_97 : decode cX6_load 97 = .ok (.putfield 73, 3) := by decide +kernel
theorem dX6_load_100 : decode cX6_load 100 = .ok (.aload_n 0, 1) := by decide +kernel
theorem dX6_load_101 : decode cX6_load 101 = .ok (.getfield 18, 3) := by decide +kernel
theorem dX6_load_104 : decode cX6_load 104 = .ok (.iconst 0, 1) := by decide +kernel
theorem dX6_load_105 : decode cX6_load 105 = .ok (.iconst 0, 1) := by decide +kernel
theorem dX6_load_106 : decode cX6_load 106 = .ok (.iastore, 1) := by decide +kernel
theorem dX6_load_107 : decode cX6_load 107 = .ok (.iconst 0, 1) := by decide +kernel
theorem dX6_load_108 : decode cX6_load 108 = .ok (.istore_n 2, 1) := by decide +kernel
theorem dX6_load_109 : decode cX6_load 109 = .ok (.iload_n 2, 1) := by decide +kernel
theorem dX6_load_110 : decode cX6_load 110 = .ok (.aload_n 0, 1) := by decide +kernel
theorem dX6_load_111 : decode cX6_load 111 = .ok (.getfield 61, 3) := by decide +kernel
theorem dX6_load_114 : decode cX6_load 114 = .ok (.if_icmp .ge 51, 3) := by decide +kernel
theorem dX6_load_117 : decode cX6_load 117 = .ok (.iconst 1, 1) := by decide +kernel
theorem dX6_load_118 : decode cX6_load 118 = .ok (.iload_n 2, 1) := by decide +kernel
theorem dX6_load_119 : decode cX6_load 119 = .ok (.ishl, 1) := by decide +kernel
theorem dX6_load_120 : decode cX6_load 120 = .ok (.istore_n 3, 1) := by decide +kernel
theorem dX6_load_121 : decode cX6_load 121 = .ok (.iconst 0, 1) := by decide +kernel
theorem dX6_load_122 : decode cX6_load 122 = .ok (.istore 4, 2) := by decide +kernel
theorem dX6_load_124 : decode cX6_load 124 = .ok (.iload 4, 2) := by decide +kernel
theorem dX6_load_126 : decode cX6_load 126 = .ok (.iload_n 3, 1) := by decide +kernel
theorem dX6_load_127 : decode cX6_load 127 = .ok (.if_icmp .ge 32, 3) := by decide +kernel
theorem dX6_load_130 : decode cX6_load 130 = .ok (.aload_n 0, 1) := by decide +kernel
theorem dX6_load_131 : decode cX6_load 131 = .ok (.getfield 18, 3) := by decide +kernel
theorem dX6_load_134 : decode cX6_load 134 = .ok (.iload 4, 2) := by decide +kernel
theorem dX6_load_136 : decode cX6_load 136 = .ok (.iload_n 3, 1) := by decide +kernel
theorem dX6_load_137 : decode cX6_load 137 = .ok (.ior, 1) := by decide +kernel
theorem dX6_load_138 : decode cX6_load 138 = .ok (.aload_n 0, 1) := by decide +kernel
theorem dX6_load_139 : decode cX6_load 139 = .ok (.getfield 18, 3) := by decide +kernel
theorem dX6_load_142 : decode cX6_load 142 = .ok (.iload 4, 2) := by decide +kernel
theorem dX6_load_144 : decode cX6_load 144 = .ok (.iaload, 1) := by decide +kernel
theorem dX6_load_145 : decode cX6_load 145 = .ok (.aload_n 0, 1) := by decide +kernel
theorem dX6_load_146 : decode cX6_load 146 = .ok (.getfield 9, 3) := by decide +kernel
theorem dX6_load_149 : decode cX6_load 149 = .ok (.iload_n 2, 1) := by decide +kernel
theorem dX6_load_150 : decode cX6_load 150 = .ok (.iaload, 1) := by decide +kernel
theorem dX6_load_151 : decode cX6_load 151 = .ok (.ior, 1) := by decide +kernel
theorem dX6_load_152 : decode cX6_load 152 = .ok (.iastore, 1) := by decide +kernel
theorem dX6_load_153 : decode cX6_load 153 = .ok (.iinc 4 1, 3) := by decide +kernel
theorem dX6_load_156 : decode cX6_load 156 = .ok (.goto (-32), 3) := by decide +kernel
theorem dX6_load_159 : decode cX6_load 159 = .ok (.iinc 2 1, 3) := by decide +kernel
theorem dX6_load_162 : decode cX6_load 162 = .ok (.goto (-53), 3) := by decide +kernel
theorem dX6_load_165 : decode cX6_load 165 = .ok (.return_, 1) := by decide +kernel
theorem dX6_leastMost_0 : decode cX6_leastMost 0 = .ok (.aload_n 0, 1) := by decide +kernel
theorem dX6_leastMost_1 : decode cX6_leastMost 1 = .ok (.iload_n 1, 1) := by decide +kernel
theorem dX6_leastMost_2 : decode cX6_leastMost 2 = .ok (.invokevirtual 47, 3) := by decide +kernel
theorem dX6_leastMost_5 : decode cX6_leastMost 5 = .ok (.aload_n 0, 1) := by decide +kernel
theorem dX6_leastMost_6 : decode cX6_leastMost 6 = .ok (.iload_n 2, 1) := by decide +kernel
theorem dX6_leastMost_7 : decode cX6_leastMost 7 = .ok (.invokevirtual 51, 3) := by decide +kernel
theorem dX6_leastMost_10 : decode cX6_leastMost 10 = .ok (.aload_n 0, 1) := by decide +kernel
theorem dX6_leastMost_11 : decode cX6_leastMost 11 = .ok (.getfield 21, 3) := by decide +kernel
theorem dX6_leastMost_14 : decode cX6_leastMost 14 = .ok (.iconst 0, 1) := by decide +kernel
theorem dX6_leastMost_15 : decode cX6_leastMost 15 = .ok (.iaload, 1) := by decide +kernel
theorem dX6_leastMost_16 : decode cX6_leastMost 16 = .ok (.ireturn, 1) := by decide +kernel
theorem dX6_refresh_0 : decode cX6_refresh 0 = .ok (.aload_n 0, 1) := by decide +kernel
theorem dX6_refresh_1 : decode cX6_refresh 1 = .ok (.getfield 27, 3) := by decide +kernel
theorem dX6_refresh_4 : decode cX6_refresh 4 = .ok (.aload_n 0, 1) := by decide +kernel
theorem dX6_refresh_5 : decode cX6_refresh 5 = .ok (.getfield 31, 3) := by decide +kernel
theorem dX6_refresh_8 : decode cX6_refresh 8 = .ok (.getfield 35, 3) := by decide +kernel
theorem dX6_refresh_11 : decode cX6_refresh 11 = .ok (.if_icmp .eq 28, 3) := by decide +kernel
theorem dX6_refresh_14 : decode cX6_refresh 14 = .ok (.aload_n 0, 1) := by decide +kernel
theorem dX6_refresh_15 : decode cX6_refresh 15 = .ok (.aload_n 0, 1) := by decide +kernel
theorem dX6_refresh_16 : decode cX6_refresh 16 = .ok (.getfield 31, 3) := by decide +kernel
theorem dX6_refresh_19 : decode cX6_refresh 19 = .ok (.invokevirtual 38, 3) := by decide +kernel
theorem dX6_refresh_22 : decode cX6_refresh 22 = .ok (.ldc 42, 2) := by decide +kernel
theorem dX6_refresh_24 : decode cX6_refresh 24 = .ok (.invokevirtual 43, 3) := by decide +kernel
theorem dX6_refresh_27 : decode cX6_refresh 27 = .ok (.pop, 1) := by decide +kernel
theorem dX6_refresh_28 : decode cX6_refresh 28 = .ok (.aload_n 0, 1) := by decide +kernel
theorem dX6_refresh_29 : decode cX6_refresh 29 = .ok (.aload_n 0, 1) := by decide +kernel
theorem dX6_refresh_30 : decode cX6_refresh 30 = .ok (.getfield 31, 3) := by decide +kernel
theorem dX6_refresh_33 : decode cX6_refresh 33 = .ok (.getfield 35, 3) := by decide +kernel
theorem dX6_refresh_36 : decode cX6_refresh 36 = .ok (.putfield 27, 3) := by decide +kernel
theorem dX6_refresh_39 : decode cX6_refresh 39 = .ok (.return_, 1) := by decide +kernel
theorem dX6_leastMostUnbound_0 : decode cX6_leastMostUnbound 0 = .ok (.aload_n 0, 1) := by decide +kernel
theorem dX6_leastMostUnbound_1 : decode cX6_leastMostUnbound 1 = .ok (.aload_n 0, 1) := by decide +kernel
theorem dX6_leastMostUnbound_2 : decode cX6_leastMostUnbound 2 = .ok (.getfield 31, 3) := by decide +kernel
theorem dX6_leastMostUnbound_5 : decode cX6_leastMostUnbound 5 = .ok (.invokevirtual 38, 3) := by decide +kernel
theorem dX6_leastMostUnbound_8 : decode cX6_leastMostUnbound 8 = .ok (.invokevirtual 47, 3) := by decide +kernel
theorem dX6_leastMostUnbound_11 : decode cX6_leastMostUnbound 11 = .ok (.aload_n 0, 1) := by decide +kernel
theorem dX6_leastMostUnbound_12 : decode cX6_leastMostUnbound 12 = .ok (.getfield 15, 3) := by decide +kernel
theorem dX6_leastMostUnbound_15 : decode cX6_leastMostUnbound 15 = .ok (.iload_n 2, 1) := by decide +kernel
theorem dX6_leastMostUnbound_16 : decode cX6_leastMostUnbound 16 = .ok (.dup2, 1) := by decide +kernel
theorem dX6_leastMostUnbound_17 : decode cX6_leastMostUnbound 17 = .ok (.iaload, 1) := by decide +kernel
theorem dX6_leastMostUnbound_18 : decode cX6_leastMostUnbound 18 = .ok (.iconst 1, 1) := by decide +kernel
theorem dX6_leastMostUnbound_19 : decode cX6_leastMostUnbound 19 = .ok (.iload_n 1, 1) := by decide +kernel
theorem dX6_leastMostUnbound_20 : decode cX6_leastMostUnbound 20 = .ok (.ishl, 1) := by decide +kernel
theorem dX6_leastMostUnbound_21 : decode cX6_leastMostUnbound 21 = .ok (.iconst (-1), 1) := by decide +kernel
theorem dX6_leastMostUnbound_22 : decode cX6_leastMostUnbound 22 = .ok (.ixor, 1) := by decide +kernel
theorem dX6_leastMostUnbound_23 : decode cX6_leastMostUnbound 23 = .ok (.iand, 1) := by decide +kernel
theorem dX6_leastMostUnbound_24 : decode cX6_leastMostUnbound 24 = .ok (.iastore, 1) := by decide +kernel
theorem dX6_leastMostUnbound_25 : decode cX6_leastMostUnbound 25 = .ok (.aload_n 0, 1) := by decide +kernel
theorem dX6_leastMostUnbound_26 : decode cX6_leastMostUnbound 26 = .ok (.ldc 42, 2) := by decide +kernel
theorem dX6_leastMostUnbound_28 : decode cX6_leastMostUnbound 28 = .ok (.invokevirtual 51, 3) := by decide +kernel
theorem dX6_leastMostUnbound_31 : decode cX6_leastMostUnbound 31 = .ok (.aload_n 0, 1) := by decide +kernel
theorem dX6_leastMostUnbound_32 : decode cX6_leastMostUnbound 32 = .ok (.getfield 21, 3) := by decide +kernel
theorem dX6_leastMostUnbound_35 : decode cX6_leastMostUnbound 35 = .ok (.iconst 0, 1) := by decide +kernel
theorem dX6_leastMostUnbound_36 : decode cX6_leastMostUnbound 36 = .ok (.iaload, 1) := by decide +kernel
theorem dX6_leastMostUnbound_37 : decode cX6_leastMostUnbound 37 = .ok (.ireturn, 1) := by decide +kernel
theorem dX6_leastFrom_0 : decode cX6_leastFrom 0 = .ok (.aload_n 0, 1) := by decide +kernel
theorem dX6_leastFrom_1 : decode cX6_leastFrom 1 = .ok (.getfield 21, 3) := by decide +kernel
theorem dX6_leastFrom_4 : decode cX6_leastFrom 4 = .ok (.iload_n 1, 1) := by decide +kernel
theorem dX6_leastFrom_5 : decode cX6_leastFrom 5 = .ok (.iaload, 1) := by decide +kernel
theorem dX6_leastFrom_6 : decode cX6_leastFrom 6 = .ok (.ireturn, 1) := by decide +kernel
theorem dX6_leastLong_0 : decode cX6_leastLong 0 = .ok (.ldc 42, 2) := by decide +kernel
theorem dX6_leastLong_2 : decode cX6_leastLong 2 = .ok (.istore_n 2, 1) := by decide +kernel
theorem dX6_leastLong_3 : decode cX6_leastLong 3 = .ok (.iconst 0, 1) := by decide +kernel
theorem dX6_leastLong_4 : decode cX6_leastLong 4 = .ok (.istore_n 3, 1) := by decide +kernel
theorem dX6_leastLong_5 : decode cX6_leastLong 5 = .ok (.iload_n 3, 1) := by decide +kernel
theorem dX6_leastLong_6 : decode cX6_leastLong 6 = .ok (.aload_n 0, 1) := by decide +kernel
theorem dX6_leastLong_7 : decode cX6_leastLong 7 = .ok (.getfield 61, 3) := by decide +kernel
theorem dX6_leastLong_10 : decode cX6_leastLong 10 = .ok (.if_icmp .ge 67, 3) := by decide +kernel
theorem dX6_leastLong_13 : decode cX6_leastLong 13 = .ok (.aload_n 0, 1) := by decide +kernel
theorem dX6_leastLong_14 : decode cX6_leastLong 14 = .ok (.iload_n 3, 1) := by decide +kernel
theorem dX6_leastLong_15 : decode cX6_leastLong 15 = .ok (.iload_n 1, 1) := by decide +kernel
theorem dX6_leastLong_16 : decode cX6_leastLong 16 = .ok (.invokevirtual 85, 3) := by decide +kernel
theorem dX6_leastLong_19 : decode cX6_leastLong 19 = .ok (.ifCond .eq 52, 3) := by decide +kernel
theorem dX6_leastLong_22 : decode cX6_leastLong 22 = .ok (.aload_n 0, 1) := by decide +kernel
theorem dX6_leastLong_23 : decode cX6_leastLong 23 = .ok (.getfield 24, 3) := by decide +kernel
theorem dX6_leastLong_26 : decode cX6_leastLong 26 = .ok (.iload_n 1, 1) := by decide +kernel
theorem dX6_leastLong_27 : decode cX6_leastLong 27 = .ok (.iconst 1, 1) := by decide +kernel
theorem dX6_leastLong_28 : decode cX6_leastLong 28 = .ok (.iload_n 3, 1) := by decide +kernel
theorem dX6_leastLong_29 : decode cX6_leastLong 29 = .ok (.ishl, 1) := by decide +kernel
theorem dX6_leastLong_30 : decode cX6_leastLong 30 = .ok (.ior, 1) := by decide +kernel
theorem dX6_leastLong_31 : decode cX6_leastLong 31 = .ok (.iaload, 1) := by decide +kernel
theorem dX6_leastLong_32 : decode cX6_leastLong 32 = .ok (.iload_n 2, 1) := by decide +kernel
theorem dX6_leastLong_33 : decode cX6_leastLong 33 = .ok (.if_icmp .ge 38, 3) := by decide +kernel
theorem dX6_leastLong_36 : decode cX6_leastLong 36 = .ok (.aload_n 0, 1) := by decide +kernel
theorem dX6_leastLong_37 : decode cX6_leastLong 37 = .ok (.iload_n 3, 1) := by decide +kernel
theorem dX6_leastLong_38 : decode cX6_leastLong 38 = .ok (.iload_n 1, 1) := by decide +kernel
theorem dX6_leastLong_39 : decode cX6_leastLong 39 = .ok (.invokevirtual 89, 3) := by decide +kernel
theorem dX6_leastLong_42 : decode cX6_leastLong 42 = .ok (.istore 4, 2) := by decide +kernel
theorem dX6_leastLong_44 : decode cX6_leastLong 44 = .ok (.iload 4, 2) := by decide +kernel
theorem dX6_leastLong_46 : decode cX6_leastLong 46 = .ok (.aload_n 0, 1) := by decide +kernel
theorem dX6_leastLong_47 : decode cX6_leastLong 47 = .ok (.getfield 73, 3) := by decide +kernel
theorem dX6_leastLong_50 : decode cX6_leastLong 50 = .ok (.if_icmp .gt 21, 3) := by decide +kernel
theorem dX6_leastLong_53 : decode cX6_leastLong 53 = .ok (.iload_n 2, 1) := by decide +kernel
theorem dX6_leastLong_54 : decode cX6_leastLong 54 = .ok (.iload 4, 2) := by decide +kernel
theorem dX6_leastLong_56 : decode cX6_leastLong 56 = .ok (.aload_n 0, 1) := by decide +kernel
theorem dX6_leastLong_57 : decode cX6_leastLong 57 = .ok (.getfield 24, 3) := by decide +kernel
theorem dX6_leastLong_60 : decode cX6_leastLong 60 = .ok (.iload_n 1, 1) := by decide +kernel
theorem dX6_leastLong_61 : decode cX6_leastLong 61 = .ok (.iconst 1, 1) := by decide +kernel
theorem dX6_leastLong_62 : decode cX6_leastLong 62 = .ok (.iload_n 3, 1) := by decide +kernel
theorem dX6_leastLong_63 : decode cX6_leastLong 63 = .ok (.ishl, 1) := by decide +kernel
theorem dX6_leastLong_64 : decode cX6_leastLong 64 = .ok (.ior, 1) := by decide +kernel
theorem dX6_leastLong_65 : decode cX6_leastLong 65 = .ok (.iaload, 1) := by decide +kernel
theorem dX6_leastLong_66 : decode cX6_leastLong 66 = .ok (.iadd, 1) := by decide +kernel
theorem dX6_leastLong_67 : decode cX6_leastLong 67 = .ok (.invokestatic 97, 3) := by decide +kernel
theorem dX6_leastLong_70 : decode cX6_leastLong 70 = .ok (.istore_n 2, 1) := by decide +kernel
theorem dX6_leastLong_71 : decode cX6_leastLong 71 = .ok (.iinc 3 1, 3) := by decide +kernel
theorem dX6_leastLong_74 : decode cX6_leastLong 74 = .ok (.goto (-69), 3) := by decide +kernel
theorem dX6_leastLong_77 : decode cX6_leastLong 77 = .ok (.iload_n 2, 1) := by decide +kernel
theorem dX6_leastLong_78 : decode cX6_leastLong 78 = .ok (.ireturn, 1) := by decide +kernel
theorem dX6_fillLongs_0 : decode cX6_fillLongs 0 = .ok (.aload_n 0, 1) := by decide +kernel
theorem dX6_fillLongs_1 : decode cX6_fillLongs 1 = .ok (.getfield 73, 3) := by decide +kernel
theorem dX6_fillLongs_4 : decode cX6_fillLongs 4 = .ok (.iload_n 1, 1) := by decide +kernel
theorem dX6_fillLongs_5 : decode cX6_fillLongs 5 = .ok (.if_icmp .ne 4, 3) := by decide +kernel
theorem dX6_fillLongs_8 : decode cX6_fillLongs 8 = .ok (.return_, 1) := by decide +kernel
theorem dX6_fillLongs_9 : decode cX6_fillLongs 9 = .ok (.aload_n 0, 1) := by decide +kernel
theorem dX6_fillLongs_10 : decode cX6_fillLongs 10 = .ok (.iload_n 1, 1) := by decide +kernel
theorem dX6_fillLongs_11 : decode cX6_fillLongs 11 = .ok (.putfield 73, 3) := by decide +kernel
theorem dX6_fillLongs_14 : decode cX6_fillLongs 14 = .ok (.aload_n 0, 1) := by decide +kernel
theorem dX6_fillLongs_15 : decode cX6_fillLongs 15 = .ok (.getfield 24, 3) := by decide +kernel
theorem dX6_fillLongs_18 : decode cX6_fillLongs 18 = .ok (.aload_n 0, 1) := by decide +kernel
theorem dX6_fillLongs_19 : decode cX6_fillLongs 19 = .ok (.getfield 70, 3) := by decide +kernel
theorem dX6_fillLongs_22 : decode cX6_fillLongs 22 = .ok (.iconst 0, 1) := by decide +kernel
theorem dX6_fillLongs_23 : decode cX6_fillLongs 23 = .ok (.iastore, 1) := by decide +kernel
theorem dX6_fillLongs_24 : decode cX6_fillLongs 24 = .ok (.aload_n 0, 1) := by decide +kernel
theorem dX6_fillLongs_25 : decode cX6_fillLongs 25 = .ok (.getfield 70, 3) := by decide +kernel
theorem dX6_fillLongs_28 : decode cX6_fillLongs 28 = .ok (.iconst 1, 1) := by decide +kernel
theorem dX6_fillLongs_29 : decode cX6_fillLongs 29 = .ok (.isub, 1) := by decide +kernel
theorem dX6_fillLongs_30 : decode cX6_fillLongs 30 = .ok (.istore_n 2, 1) := by decide +kernel
theorem dX6_fillLongs_31 : decode cX6_fillLongs 31 = .ok (.iload_n 2, 1) := by decide +kernel
theorem dX6_fillLongs_32 : decode cX6_fillLongs 32 = .ok (.ifCond .lt 20, 3) := by decide +kernel
theorem dX6_fillLongs_35 : decode cX6_fillLongs 35 = .ok (.aload_n 0, 1) := by decide +kernel
theorem dX6_fillLongs_36 : decode cX6_fillLongs 36 = .ok (.getfield 24, 3) := by decide +kernel
theorem dX6_fillLongs_39 : decode cX6_fillLongs 39 = .ok (.iload_n 2, 1) := by decide +kernel
theorem dX6_fillLongs_40 : decode cX6_fillLongs 40 = .ok (.aload_n 0, 1) := by decide +kernel
theorem dX6_fillLongs_41 : decode cX6_fillLongs 41 = .ok (.iload_n 2, 1) := by decide +kernel
theorem dX6_fillLongs_42 : decode cX6_fillLongs 42 = .ok (.invokevirtual 100, 3) := by decide +kernel
theorem dX6_fillLongs_45 : decode cX6_fillLongs 45 = .ok (.iastore, 1) := by decide +kernel
theorem dX6_fillLongs_46 : decode cX6_fillLongs 46 = .ok (.iinc 2 (-1), 3) := by decide +kernel
theorem dX6_fillLongs_49 : decode cX6_fillLongs 49 = .ok (.goto (-18), 3) := by decide +kernel
theorem dX6_fillLongs_52 : decode cX6_fillLongs 52 = .ok (.return_, 1) := by decide +kernel
theorem dX6_longFrom_0 : decode cX6_longFrom 0 = .ok (.aload_n 0, 1) := by decide +kernel
theorem dX6_longFrom_1 : decode cX6_longFrom 1 = .ok (.aload_n 0, 1) := by decide +kernel
theorem dX6_longFrom_2 : decode cX6_longFrom 2 = .ok (.getfield 21, 3) := by decide +kernel
theorem dX6_longFrom_5 : decode cX6_longFrom 5 = .ok (.iload_n 1, 1) := by decide +kernel
theorem dX6_longFrom_6 : decode cX6_longFrom 6 = .ok (.iaload, 1) := by decide +kernel
theorem dX6_longFrom_7 : decode cX6_longFrom 7 = .ok (.invokevirtual 54, 3) := by decide +kernel
theorem dX6_longFrom_10 : decode cX6_longFrom 10 = .ok (.aload_n 0, 1) := by decide +kernel
theorem dX6_longFrom_11 : decode cX6_longFrom 11 = .ok (.getfield 24, 3) := by decide +kernel
theorem dX6_longFrom_14 : decode cX6_longFrom 14 = .ok (.iload_n 1, 1) := by decide +kernel
theorem dX6_longFrom_15 : decode cX6_longFrom 15 = .ok (.iaload, 1) := by decide +kernel
theorem dX6_longFrom_16 : decode cX6_longFrom 16 = .ok (.ireturn, 1) := by decide +kernel
theorem dX6_nextBehind_0 : decode cX6_nextBehind 0 = .ok (.iconst 0, 1) := by decide +kernel
theorem dX6_nextBehind_1 : decode cX6_nextBehind 1 = .ok (.istore_n 2, 1) := by decide +kernel
theorem dX6_nextBehind_2 : decode cX6_nextBehind 2 = .ok (.iload_n 2, 1) := by decide +kernel
theorem dX6_nextBehind_3 : decode cX6_nextBehind 3 = .ok (.aload_n 0, 1) := by decide +kernel
theorem dX6_nextBehind_4 : decode cX6_nextBehind 4 = .ok (.getfield 61, 3) := by decide +kernel
theorem dX6_nextBehind_7 : decode cX6_nextBehind 7 = .ok (.if_icmp .ge 56, 3) := by decide +kernel
theorem dX6_nextBehind_10 : decode cX6_nextBehind 10 = .ok (.aload_n 0, 1) := by decide +kernel
theorem dX6_nextBehind_11 : decode cX6_nextBehind 11 = .ok (.iload_n 2, 1) := by decide +kernel
theorem dX6_nextBehind_12 : decode cX6_nextBehind 12 = .ok (.iload_n 1, 1) := by decide +kernel
theorem dX6_nextBehind_13 : decode cX6_nextBehind 13 = .ok (.invokevirtual 85, 3) := by decide +kernel
theorem dX6_nextBehind_16 : decode cX6_nextBehind 16 = .ok (.ifCond .eq 41, 3) := by decide +kernel
theorem dX6_nextBehind_19 : decode cX6_nextBehind 19 = .ok (.aload_n 0, 1) := by decide +kernel
theorem dX6_nextBehind_20 : decode cX6_nextBehind 20 = .ok (.iload_n 2, 1) := by decide +kernel
theorem dX6_nextBehind_21 : decode cX6_nextBehind 21 = .ok (.iload_n 1, 1) := by decide +kernel
theorem dX6_nextBehind_22 : decode cX6_nextBehind 22 = .ok (.invokevirtual 89, 3) := by decide +kernel
theorem dX6_nextBehind_25 : decode cX6_nextBehind 25 = .ok (.istore_n 3, 1) := by decide +kernel
theorem dX6_nextBehind_26 : decode cX6_nextBehind 26 = .ok (.iload_n 3, 1) := by decide +kernel
theorem dX6_nextBehind_27 : decode cX6_nextBehind 27 = .ok (.aload_n 0, 1) := by decide +kernel
theorem dX6_nextBehind_28 : decode cX6_nextBehind 28 = .ok (.getfield 73, 3) := by decide +kernel
theorem dX6_nextBehind_31 : decode cX6_nextBehind 31 = .ok (.if_icmp .gt 26, 3) := by decide +kernel
theorem dX6_nextBehind_34 : decode cX6_nextBehind 34 = .ok (.iload_n 3, 1) := by decide +kernel
theorem dX6_nextBehind_35 : decode cX6_nextBehind 35 = .ok (.aload_n 0, 1) := by decide +kernel
theorem dX6_nextBehind_36 : decode cX6_nextBehind 36 = .ok (.getfield 24, 3) := by decide +kernel
theorem dX6_nextBehind_39 : decode cX6_nextBehind 39 = .ok (.iload_n 1, 1) := by decide +kernel
theorem dX6_nextBehind_40 : decode cX6_nextBehind 40 = .ok (.iconst 1, 1) := by decide +kernel
theorem dX6_nextBehind_41 : decode cX6_nextBehind 41 = .ok (.iload_n 2, 1) := by decide +kernel
theorem dX6_nextBehind_42 : decode cX6_nextBehind 42 = .ok (.ishl, 1) := by decide +kernel
theorem dX6_nextBehind_43 : decode cX6_nextBehind 43 = .ok (.ior, 1) := by decide +kernel
theorem dX6_nextBehind_44 : decode cX6_nextBehind 44 = .ok (.iaload, 1) := by decide +kernel
theorem dX6_nextBehind_45 : decode cX6_nextBehind 45 = .ok (.iadd, 1) := by decide +kernel
theorem dX6_nextBehind_46 : decode cX6_nextBehind 46 = .ok (.aload_n 0, 1) := by decide +kernel
theorem dX6_nextBehind_47 : decode cX6_nextBehind 47 = .ok (.getfield 24, 3) := by decide +kernel
theorem dX6_nextBehind_50 : decode cX6_nextBehind 50 = .ok (.iload_n 1, 1) := by decide +kernel
theorem dX6_nextBehind_51 : decode cX6_nextBehind 51 = .ok (.iaload, 1) := by decide +kernel
theorem dX6_nextBehind_52 : decode cX6_nextBehind 52 = .ok (.if_icmp .ne 5, 3) := by decide +kernel
theorem dX6_nextBehind_55 : decode cX6_nextBehind 55 = .ok (.iload_n 2, 1) := by decide +kernel
theorem dX6_nextBehind_56 : decode cX6_nextBehind 56 = .ok (.ireturn, 1) := by decide +kernel
theorem dX6_nextBehind_57 : decode cX6_nextBehind 57 = .ok (.iinc 2 1, 3) := by decide +kernel
theorem dX6_nextBehind_60 : decode cX6_nextBehind 60 = .ok (.goto (-58), 3) := by decide +kernel
theorem dX6_nextBehind_63 : decode cX6_nextBehind 63 = .ok (.bipush (-9), 2) := by decide +kernel
theorem dX6_nextBehind_65 : decode cX6_nextBehind 65 = .ok (.ireturn, 1) := by decide +kernel
theorem dX6_nextFrom_0 : decode cX6_nextFrom 0 = .ok (.aload_n 0, 1) := by decide +kernel
theorem dX6_nextFrom_1 : decode cX6_nextFrom 1 = .ok (.aload_n 0, 1) := by decide +kernel
theorem dX6_nextFrom_2 : decode cX6_nextFrom 2 = .ok (.getfield 21, 3) := by decide +kernel
theorem dX6_nextFrom_5 : decode cX6_nextFrom 5 = .ok (.iload_n 1, 1) := by decide +kernel
theorem dX6_nextFrom_6 : decode cX6_nextFrom 6 = .ok (.iaload, 1) := by decide +kernel
theorem dX6_nextFrom_7 : decode cX6_nextFrom 7 = .ok (.invokevirtual 54, 3) := by decide +kernel
theorem dX6_nextFrom_10 : decode cX6_nextFrom 10 = .ok (.aload_n 0, 1) := by decide +kernel
theorem dX6_nextFrom_11 : decode cX6_nextFrom 11 = .ok (.iload_n 1, 1) := by decide +kernel
theorem dX6_nextFrom_12 : decode cX6_nextFrom 12 = .ok (.invokevirtual 57, 3) := by decide +kernel
theorem dX6_nextFrom_15 : decode cX6_nextFrom 15 = .ok (.ireturn, 1) := by decide +kernel
theorem dX6_workAt_0 : decode cX6_workAt 0 = .ok (.aload_n 0, 1) := by decide +kernel
theorem dX6_workAt_1 : decode cX6_workAt 1 = .ok (.aload_n 0, 1) := by decide +kernel
theorem dX6_workAt_2 : decode cX6_workAt 2 = .ok (.getfield 21, 3) := by decide +kernel
theorem dX6_workAt_5 : decode cX6_workAt 5 = .ok (.iconst 0, 1) := by decide +kernel
theorem dX6_workAt_6 : decode cX6_workAt 6 = .ok (.iaload, 1) := by decide +kernel
theorem dX6_workAt_7 : decode cX6_workAt 7 = .ok (.invokevirtual 54, 3) := by decide +kernel
theorem dX6_workAt_10 : decode cX6_workAt 10 = .ok (.iconst 0, 1) := by decide +kernel
theorem dX6_workAt_11 : decode cX6_workAt 11 = .ok (.istore_n 2, 1) := by decide +kernel
theorem dX6_workAt_12 : decode cX6_workAt 12 = .ok (.iconst 0, 1) := by decide +kernel
theorem dX6_workAt_13 : decode cX6_workAt 13 = .ok (.istore_n 3, 1) := by decide +kernel
theorem dX6_workAt_14 : decode cX6_workAt 14 = .ok (.iload_n 3, 1) := by decide +kernel
theorem dX6_workAt_15 : decode cX6_workAt 15 = .ok (.iload_n 1, 1) := by decide +kernel
theorem dX6_workAt_16 : decode cX6_workAt 16 = .ok (.if_icmp .ge 33, 3) := by decide +kernel
theorem dX6_workAt_19 : decode cX6_workAt 19 = .ok (.aload_n 0, 1) := by decide +kernel
theorem dX6_workAt_20 : decode cX6_workAt 20 = .ok (.iload_n 2, 1) := by decide +kernel
theorem dX6_workAt_21 : decode cX6_workAt 21 = .ok (.invokevirtual 57, 3) := by decide +kernel
theorem dX6_workAt_24 : decode cX6_workAt 24 = .ok (.istore 4, 2) := by decide +kernel
theorem dX6_workAt_26 : decode cX6_workAt 26 = .ok (.iload 4, 2) := by decide +kernel
theorem dX6_workAt_28 : decode cX6_workAt 28 = .ok (.bipush (-9), 2) := by decide +kernel
theorem dX6_workAt_30 : decode cX6_workAt 30 = .ok (.if_icmp .ne 6, 3) := by decide +kernel
theorem dX6_workAt_33 : decode cX6_workAt 33 = .ok (.bipush (-9), 2) := by decide +kernel
theorem dX6_workAt_35 : decode cX6_workAt 35 = .ok (.ireturn, 1) := by decide +kernel
theorem dX6_workAt_36 : decode cX6_workAt 36 = .ok (.iload_n 2, 1) := by decide +kernel
theorem dX6_workAt_37 : decode cX6_workAt 37 = .ok (.iconst 1, 1) := by decide +kernel
theorem dX6_workAt_38 : decode cX6_workAt 38 = .ok (.iload 4, 2) := by decide +kernel
theorem dX6_workAt_40 : decode cX6_workAt 40 = .ok (.ishl, 1) := by decide +kernel
theorem dX6_workAt_41 : decode cX6_workAt 41 = .ok (.ior, 1) := by decide +kernel
theorem dX6_workAt_42 : decode cX6_workAt 42 = .ok (.istore_n 2, 1) := by decide +kernel
theorem dX6_workAt_43 : decode cX6_workAt 43 = .ok (.iinc 3 1, 3) := by decide +kernel
theorem dX6_workAt_46 : decode cX6_workAt 46 = .ok (.goto (-32), 3) := by decide +kernel
theorem dX6_workAt_49 : decode cX6_workAt 49 = .ok (.aload_n 0, 1) := by decide +kernel
theorem dX6_workAt_50 : decode cX6_workAt 50 = .ok (.iload_n 2, 1) := by decide +kernel
theorem dX6_workAt_51 : decode cX6_workAt 51 = .ok (.invokevirtual 57, 3) := by decide +kernel
theorem dX6_workAt_54 : decode cX6_workAt 54 = .ok (.ireturn, 1) := by decide +kernel
theorem dX7_renew_0 : decode cX7_renew 0 = .ok (.aload_n 0, 1) := by decide +kernel
theorem dX7_renew_1 : decode cX7_renew 1 = .ok (.getfield 16, 3) := by decide +kernel
theorem dX7_renew_4 : decode cX7_renew 4 = .ok (.iload_n 1, 1) := by decide +kernel
theorem dX7_renew_5 : decode cX7_renew 5 = .ok (.iload_n 2, 1) := by decide +kernel
theorem dX7_renew_6 : decode cX7_renew 6 = .ok (.iastore, 1) := by decide +kernel
theorem dX7_renew_7 : decode cX7_renew 7 = .ok (.aload_n 0, 1) := by decide +kernel
theorem dX7_renew_8 : decode cX7_renew 8 = .ok (.getfield 20, 3) := by decide +kernel
theorem dX7_renew_11 : decode cX7_renew 11 = .ok (.iload_n 1, 1) := by decide +kernel
theorem dX7_renew_12 : decode cX7_renew 12 = .ok (.iload_n 3, 1) := by decide +kernel
theorem dX7_renew_13 : decode cX7_renew 13 = .ok (.iastore, 1) := by decide +kernel
theorem dX7_renew_14 : decode cX7_renew 14 = .ok (.iconst 0, 1) := by decide +kernel
theorem dX7_renew_15 : decode cX7_renew 15 = .ok (.istore 4, 2) := by decide +kernel
theorem dX7_renew_17 : decode cX7_renew 17 = .ok (.iload 4, 2) := by decide +kernel
theorem dX7_renew_19 : decode cX7_renew 19 = .ok (.iload_n 3, 1) := by decide +kernel
theorem dX7_renew_20 : decode cX7_renew 20 = .ok (.if_icmp .ge 19, 3) := by decide +kernel
theorem dX7_renew_23 : decode cX7_renew 23 = .ok (.aload_n 0, 1) := by decide +kernel
theorem dX7_renew_24 : decode cX7_renew 24 = .ok (.getfield 11, 3) := by decide +kernel
theorem dX7_renew_27 : decode cX7_renew 27 = .ok (.iload_n 1, 1) := by decide +kernel
theorem dX7_renew_28 : decode cX7_renew 28 = .ok (.aaload, 1) := by decide +kernel
theorem dX7_renew_29 : decode cX7_renew 29 = .ok (.iload 4, 2) := by decide +kernel
theorem dX7_renew_31 : decode cX7_renew 31 = .ok (.iconst 0, 1) := by decide +kernel
theorem dX7_renew_32 : decode cX7_renew 32 = .ok (.iastore, 1) := by decide +kernel
theorem dX7_renew_33 : decode cX7_renew 33 = .ok (.iinc 4 1, 3) := by decide +kernel
theorem dX7_renew_36 : decode cX7_renew 36 = .ok (.goto (-19), 3) := by decide +kernel
theorem dX7_renew_39 : decode cX7_renew 39 = .ok (.return_, 1) := by decide +kernel
theorem dX7_drop_0 : decode cX7_drop 0 = .ok (.aload_n 0, 1) := by decide +kernel
theorem dX7_drop_1 : decode cX7_drop 1 = .ok (.getfield 16, 3) := by decide +kernel
theorem dX7_drop_4 : decode cX7_drop 4 = .ok (.iload_n 1, 1) := by decide +kernel
theorem dX7_drop_5 : decode cX7_drop 5 = .ok (.iaload, 1) := by decide +kernel
theorem dX7_drop_6 : decode cX7_drop 6 = .ok (.iconst (-1), 1) := by decide +kernel
theorem dX7_drop_7 : decode cX7_drop 7 = .ok (.if_icmp .eq 7, 3) := by decide +kernel
theorem dX7_drop_10 : decode cX7_drop 10 = .ok (.iconst 1, 1) := by decide +kernel
theorem dX7_drop_11 : decode cX7_drop 11 = .ok (.goto 4, 3) := by decide +kernel
theorem dX7_drop_14 : decode cX7_drop 14 = .ok (.iconst 0, 1) := by decide +kernel
theorem dX7_drop_15 : decode cX7_drop 15 = .ok (.istore_n 2, 1) := by decide +kernel
theorem dX7_drop_16 : decode cX7_drop 16 = .ok (.aload_n 0, 1) := by decide +kernel
theorem dX7_drop_17 : decode cX7_drop 17 = .ok (.getfield 16, 3) := by decide +kernel
theorem dX7_drop_20 : decode cX7_drop 20 = .ok (.iload_n 1, 1) := by decide +kernel
theorem dX7_drop_21 : decode cX7_drop 21 = .ok (.iconst (-1), 1) := by decide +kernel
theorem dX7_drop_22 : decode cX7_drop 22 = .ok (.iastore, 1) := by decide +kernel
theorem dX7_drop_23 : decode cX7_drop 23 = .ok (.aload_n 0, 1) := by decide +kernel
theorem dX7_drop_24 : decode cX7_drop 24 = .ok (.getfield 20, 3) := by decide +kernel
theorem dX7_drop_27 : decode cX7_drop 27 = .ok (.iload_n 1, 1) := by decide +kernel
theorem dX7_drop_28 : decode cX7_drop 28 = .ok (.iconst 0, 1) := by decide +kernel
theorem dX7_drop_29 : decode cX7_drop 29 = .ok (.iastore, 1) := by decide +kernel
theorem dX7_drop_30 : decode cX7_drop 30 = .ok (.iload_n 2, 1) := by decide +kernel
theorem dX7_drop_31 : decode cX7_drop 31 = .ok (.ireturn, 1) := by decide +kernel
theorem dX7_write_0 : decode cX7_write 0 = .ok (.iload_n 3, 1) := by decide +kernel
theorem dX7_write_1 : decode cX7_write 1 = .ok (.istore 4, 2) := by decide +kernel
theorem dX7_write_3 : decode cX7_write 3 = .ok (.aload_n 0, 1) := by decide +kernel
theorem dX7_write_4 : decode cX7_write 4 = .ok (.getfield 16, 3) := by decide +kernel
theorem dX7_write_7 : decode cX7_write 7 = .ok (.iload_n 1, 1) := by decide +kernel
theorem dX7_write_8 : decode cX7_write 8 = .ok (.iaload, 1) := by decide +kernel
theorem dX7_write_9 : decode cX7_write 9 = .ok (.ifCond .ne 10, 3) := by decide +kernel
theorem dX7_write_12 : decode cX7_write 12 = .ok (.iload_n 3, 1) := by decide +kernel
theorem dX7_write_13 : decode cX7_write 13 = .ok (.i2b, 1) := by decide +kernel
theorem dX7_write_14 : decode cX7_write 14 = .ok (.istore 4, 2) := by decide +kernel
theorem dX7_write_16 : decode cX7_write 16 = .ok (.goto 17, 3) := by decide +kernel
theorem dX7_write_19 : decode cX7_write 19 = .ok (.aload_n 0, 1) := by decide +kernel
theorem dX7_write_20 : decode cX7_write 20 = .ok (.getfield 16, 3) := by decide +kernel
theorem dX7_write_23 : decode cX7_write 23 = .ok (.iload_n 1, 1) := by decide +kernel
theorem dX7_write_24 : decode cX7_write 24 = .ok (.iaload, 1) := by decide +kernel
theorem dX7_write_25 : decode cX7_write 25 = .ok (.iconst 1, 1) := by decide +kernel
theorem dX7_write_26 : decode cX7_write 26 = .ok (.if_icmp .ne 7, 3) := by decide +kernel
theorem dX7_write_29 : decode cX7_write 29 = .ok (.iload_n 3, 1) := by decide +kernel
theorem dX7_write_30 : decode cX7_write 30 = .ok (.i2s, 1) := by decide +kernel
theorem dX7_write_31 : decode cX7_write 31 = .ok (.istore 4, 2) := by decide +kernel
theorem dX7_write_33 : decode cX7_write 33 = .ok (.aload_n 0, 1) := by decide +kernel
theorem dX7_write_34 : decode cX7_write 34 = .ok (.getfield 11, 3) := by decide +kernel
theorem dX7_write_37 : decode cX7_write 37 = .ok (.iload_n 1, 1) := by decide +kernel
theorem dX7_write_38 : decode cX7_write 38 = .ok (.aaload, 1) := by decide +kernel
theorem dX7_write_39 : decode cX7_write 39 = .ok (.iload_n 2, 1) := by decide +kernel
theorem dX7_write_40 : decode cX7_write 40 = .ok (.iload 4, 2) := by decide +kernel
theorem dX7_write_42 : decode cX7_write 42 = .ok (.iastore, 1) := by decide +kernel
theorem dX7_write_43 : decode cX7_write 43 = .ok (.return_, 1) := by decide +kernel
theorem dX7_rowFault_0 : decode cX7_rowFault 0 = .ok (.aload_n 0, 1) := by decide +kernel
theorem dX7_rowFault_1 : decode cX7_rowFault 1 = .ok (.getfield 16, 3) := by decide +kernel
theorem dX7_rowFault_4 : decode cX7_rowFault 4 = .ok (.iload_n 1, 1) := by decide +kernel
theorem dX7_rowFault_5 : decode cX7_rowFault 5 = .ok (.iaload, 1) := by decide +kernel
theorem dX7_rowFault_6 : decode cX7_rowFault 6 = .ok (.iconst (-1), 1) := by decide +kernel
theorem dX7_rowFault_7 : decode cX7_rowFault 7 = .ok (.if_icmp .ne 5, 3) := by decide +kernel
theorem dX7_rowFault_10 : decode cX7_rowFault 10 = .ok (.iconst 1, 1) := by decide +kernel
theorem dX7_rowFault_11 : decode cX7_rowFault 11 = .ok (.ireturn, 1) := by decide +kernel
theorem dX7_rowFault_12 : decode cX7_rowFault 12 = .ok (.aload_n 0, 1) := by decide +kernel
theorem dX7_rowFault_13 : decode cX7_rowFault 13 = .ok (.getfield 16, 3) := by decide +kernel
theorem dX7_rowFault_16 : decode cX7_rowFault 16 = .ok (.iload_n 1, 1) := by decide +kernel
theorem dX7_rowFault_17 : decode cX7_rowFault 17 = .ok (.iaload, 1) := by decide +kernel
theorem dX7_rowFault_18 : decode cX7_rowFault 18 = .ok (.iload_n 2, 1) := by decide +kernel
theorem dX7_rowFault_19 : decode cX7_rowFault 19 = .ok (.if_icmp .ne 7, 3) := by decide +kernel
theorem dX7_rowFault_22 : decode cX7_rowFault 22 = .ok (.iconst 0, 1) := by decide +kernel
theorem dX7_rowFault_23 : decode cX7_rowFault 23 = .ok (.goto 4, 3) := by decide +kernel
theorem dX7_rowFault_26 : decode cX7_rowFault 26 = .ok (.iconst 2, 1) := by decide +kernel
theorem dX7_rowFault_27 : decode cX7_rowFault 27 = .ok (.ireturn, 1) := by decide +kernel
abbrev rm_X4_closeOne : Room := { frames := 1, cells := 0, slots := 0, locals := 21 }
def B_X4_closeOne_2 (post : Mem → Prop) (P2 : Int32 → Int32 → Mem → Prop) (x1 : Int32) (x2 : Int32) (μ : Mem) : Prop :=
  ((10 ≤ x2 → post μ) ∧ (¬ 10 ≤ x2 → ((((x1 >>> (x2 &&& 31)) &&& 1) = 0 → P2 x1 (x2 + 1) μ) ∧ (¬ ((x1 >>> (x2 &&& 31)) &&& 1) = 0 → shX ((μ 53 3).toNatClampNeg) = .inl 1024 ∧ vp_in (x1 &&& (((1 : Int32) <<< (x2 &&& 31)) ^^^ (-1))) 1024 ∧ vp_in x1 1024 ∧ vp_in (x1 &&& (((1 : Int32) <<< (x2 &&& 31)) ^^^ (-1))) 1024 ∧ P2 x1 (x2 + 1) (mset μ ((μ 53 3).toNatClampNeg) (x1 &&& (((1 : Int32) <<< (x2 &&& 31)) ^^^ (-1))).toNatClampNeg (if (μ ((μ 53 3).toNatClampNeg) x1.toNatClampNeg) < (μ ((μ 53 3).toNatClampNeg) (x1 &&& (((1 : Int32) <<< (x2 &&& 31)) ^^^ (-1))).toNatClampNeg) then (μ ((μ 53 3).toNatClampNeg) x1.toNatClampNeg) else (μ ((μ 53 3).toNatClampNeg) (x1 &&& (((1 : Int32) <<< (x2 &&& 31)) ^^^ (-1))).toNatClampNeg)))))))
def T_X4_closeOne_2 (post : Mem → Prop) (x1 : Int32) (x2 : Int32) (μ : Mem) : Prop :=
  ∀ P2 : Int32 → Int32 → Mem → Prop, (∀ (x1 : Int32) (x2 : Int32) (μ : Mem), B_X4_closeOne_2 post P2 x1 x2 μ → P2 x1 x2 μ) → P2 x1 x2 μ
theorem bv_X4_closeOne_2 {X : Cx} {w : Wd} {l : Launch} {D : va_G} {A : Nat → Prop} (g : Gd X w RX4 cX4_closeOne 4 rm_X4_closeOne) (hX : atX X l D A) (post : Mem → Prop) (hR : Rt X w shX 58 none (pV post)) (P2 : Int32 → Int32 → Mem → Prop) (hP2 : ∀ (x1 : Int32) (x2 : Int32) (μ : Mem), P2 x1 x2 μ → V X 2 [(0, .ref (w.1 53)), (1, .int x1), (2, .int x2)] [] (wls w shX 58 μ)) (x1 : Int32) (x2 : Int32) (μ : Mem) (h : B_X4_closeOne_2 post P2 x1 x2 μ) : V X 2 [(0, .ref (w.1 53)), (1, .int x1), (2, .int x2)] [] (wls w shX 58 μ) := by
  refine r_iload_n (pc := 2) 2 g dX4_closeOne_2 rfl ?_
  refine r_bipush (pc := 3) g dX4_closeOne_3 cb_10 ?_
  refine r_icmp_ge (pc := 5) 51 g dX4_closeOne_5 rfl (fun q => ?_) (fun q => ?_)
  · have h := h.1 q
    exact r_vretv (pc := 51) g hR dX4_closeOne_51 h
  · have h := h.2 q
    refine r_iload_n (pc := 8) 1 g dX4_closeOne_8 rfl ?_
    refine r_iload_n (pc := 9) 2 g dX4_closeOne_9 rfl ?_
    refine r_ishr (pc := 10) g dX4_closeOne_10 ?_
    refine r_iconst (pc := 11) g dX4_closeOne_11 ci_1 ?_
    refine r_iand (pc := 12) g dX4_closeOne_12 ?_
    refine r_if_eq (pc := 13) 45 g dX4_closeOne_13 rfl (fun q => ?_) (fun q => ?_)
    · have h := h.1 q
      refine r_iinc (pc := 45) (lv' := [(2, .int (x2 + 1)), (0, .ref (w.1 53)), (1, .int x1)]) 2 g dX4_closeOne_45 rfl ci_1 rfl rfl ?_
      refine r_goto (pc := 48) 2 g dX4_closeOne_48 rfl ?_
      refine r_sub [1, 2, 0] (lv' := [(0, .ref (w.1 53)), (1, .int x1), (2, .int (x2 + 1))]) rfl ?_
      exact hP2 x1 (x2 + 1) μ h
    · have h := h.2 q
      refine r_iload_n (pc := 16) 1 g dX4_closeOne_16 rfl ?_
      refine r_iconst (pc := 17) g dX4_closeOne_17 ci_1 ?_
      refine r_iload_n (pc := 18) 2 g dX4_closeOne_18 rfl ?_
      refine r_ishl (pc := 19) g dX4_closeOne_19 ?_
      refine r_iconst (pc := 20) g dX4_closeOne_20 ci_m1 ?_
      refine r_ixor (pc := 21) g dX4_closeOne_21 ?_
      refine r_iand (pc := 22) g dX4_closeOne_22 ?_
      refine r_istore_n (pc := 23) (lv' := [(3, .int (x1 &&& (((1 : Int32) <<< (x2 &&& 31)) ^^^ (-1)))), (0, .ref (w.1 53)), (1, .int x1), (2, .int x2)]) g dX4_closeOne_23 rfl rfl ?_
      refine r_aload_n (pc := 24) 1 g dX4_closeOne_24 rfl ?_
      refine r_getd (pc := 25) (μ := μ) g dX4_closeOne_25 fa_RX4_15 shX_out sX_53 rfl ?_
      refine r_iload_n (pc := 28) 0 g dX4_closeOne_28 rfl ?_
      refine r_aload_n (pc := 29) 1 g dX4_closeOne_29 rfl ?_
      refine r_getd (pc := 30) (μ := μ) g dX4_closeOne_30 fa_RX4_15 shX_out sX_53 rfl ?_
      refine r_iload_n (pc := 33) 0 g dX4_closeOne_33 rfl ?_
      obtain ⟨z1, h⟩ := h
      obtain ⟨b2, h⟩ := h
      refine r_iaload (pc := 34) (μ := μ) g dX4_closeOne_34 shX_out z1 b2 ?_
      refine r_aload_n (pc := 35) 1 g dX4_closeOne_35 rfl ?_
      refine r_getd (pc := 36) (μ := μ) g dX4_closeOne_36 fa_RX4_15 shX_out sX_53 rfl ?_
      refine r_iload_n (pc := 39) 2 g dX4_closeOne_39 rfl ?_
      obtain ⟨b3, h⟩ := h
      refine r_iaload (pc := 40) (μ := μ) g dX4_closeOne_40 shX_out z1 b3 ?_
      refine r_min (pc := 41) g dX4_closeOne_41 kj_RX4_88 ⟨rfl, rfl⟩ ?_
      obtain ⟨b4, h⟩ := h
      refine r_iastore (pc := 44) (μ := μ) g dX4_closeOne_44 shX_out z1 b4 ?_
      refine r_iinc (pc := 45) (lv' := [(2, .int (x2 + 1)), (3, .int (x1 &&& (((1 : Int32) <<< (x2 &&& 31)) ^^^ (-1)))), (0, .ref (w.1 53)), (1, .int x1)]) 3 g dX4_closeOne_45 rfl ci_1 rfl rfl ?_
      refine r_goto (pc := 48) 2 g dX4_closeOne_48 rfl ?_
      refine r_sub [2, 3, 0] (lv' := [(0, .ref (w.1 53)), (1, .int x1), (2, .int (x2 + 1))]) rfl ?_
      exact hP2 x1 (x2 + 1) (mset μ ((μ 53 3).toNatClampNeg) (x1 &&& (((1 : Int32) <<< (x2 &&& 31)) ^^^ (-1))).toNatClampNeg (if (μ ((μ 53 3).toNatClampNeg) x1.toNatClampNeg) < (μ ((μ 53 3).toNatClampNeg) (x1 &&& (((1 : Int32) <<< (x2 &&& 31)) ^^^ (-1))).toNatClampNeg) then (μ ((μ 53 3).toNatClampNeg) x1.toNatClampNeg) else (μ ((μ 53 3).toNatClampNeg) (x1 &&& (((1 : Int32) <<< (x2 &&& 31)) ^^^ (-1))).toNatClampNeg))) h
theorem v_X4_closeOne_2 {X : Cx} {w : Wd} {l : Launch} {D : va_G} {A : Nat → Prop} (g : Gd X w RX4 cX4_closeOne 4 rm_X4_closeOne) (hX : atX X l D A) (post : Mem → Prop) (hR : Rt X w shX 58 none (pV post)) (x1 : Int32) (x2 : Int32) (μ : Mem) (h : T_X4_closeOne_2 post x1 x2 μ) : V X 2 [(0, .ref (w.1 53)), (1, .int x1), (2, .int x2)] [] (wls w shX 58 μ) :=
  h (fun x1 x2 μ => V X 2 [(0, .ref (w.1 53)), (1, .int x1), (2, .int x2)] [] (wls w shX 58 μ)) (fun x1 x2 μ h => bv_X4_closeOne_2 g hX post hR (fun x1 x2 μ => V X 2 [(0, .ref (w.1 53)), (1, .int x1), (2, .int x2)] [] (wls w shX 58 μ)) (fun _ _ _ h => h) x1 x2 μ h)
def T_X4_closeOne (x1 : Int32) (μ : Mem) (post : Mem → Prop) : Prop :=
  T_X4_closeOne_2 post x1 0 μ
theorem m_X4_closeOne {w : Wd} {l : Launch} {D : va_G} {A : Nat → Prop} (x1 : Int32) (μ : Mem) (post : Mem → Prop) (h : T_X4_closeOne x1 μ post) : MetX l D A w shX 58 yX4_closeOne cX4_closeOne 4 none rm_X4_closeOne [.ref (w.1 53), .int x1] μ (pV post) := by
  refine metX_of (by decide) rfl (lv := [(0, .ref (w.1 53)), (1, .int x1)]) rfl (fun X hX g hR => ?_)
  refine r_iconst (pc := 0) g dX4_closeOne_0 ci_0 ?_
  refine r_istore_n (pc := 1) (lv' := [(2, .int 0), (0, .ref (w.1 53)), (1, .int x1)]) g dX4_closeOne_1 rfl rfl ?_
  refine r_sub [1, 2, 0] (lv' := [(0, .ref (w.1 53)), (1, .int x1), (2, .int 0)]) rfl ?_
  exact v_X4_closeOne_2 g hX post hR x1 0 μ h
abbrev rm_X4_closeSome : Room := { frames := 2, cells := 0, slots := 0, locals := 44 }
def T_X4_closeSome_54 (post : Mem → Prop) (P10 : Int32 → Int32 → Int32 → Int32 → Mem → Prop) (x1 : Int32) (x2 : Int32) (x3 : Int32) (x4 : Int32) (μ : Mem) : Prop :=
  P10 x1 x2 ((x3 - 1) &&& x1) (x4 + (-1)) μ
theorem v_X4_closeSome_54 {X : Cx} {w : Wd} {l : Launch} {D : va_G} {A : Nat → Prop} (g : Gd X w RX4 cX4_closeSome 5 rm_X4_closeSome) (hX : atX X l D A) (post : Mem → Prop) (hR : Rt X w shX 58 none (pV post)) (P10 : Int32 → Int32 → Int32 → Int32 → Mem → Prop) (hP10 : ∀ (x1 : Int32) (x2 : Int32) (x3 : Int32) (x4 : Int32) (μ : Mem), P10 x1 x2 x3 x4 μ → V X 10 [(0, .ref (w.1 53)), (1, .int x1), (2, .int x2), (3, .int x3), (4, .int x4)] [] (wls w shX 58 μ)) (x1 : Int32) (x2 : Int32) (x3 : Int32) (x4 : Int32) (μ : Mem) (h : T_X4_closeSome_54 post P10 x1 x2 x3 x4 μ) : V X 54 [(0, .ref (w.1 53)), (1, .int x1), (2, .int x2), (3, .int x3), (4, .int x4)] [] (wls w shX 58 μ) := by
  refine r_iload_n (pc := 54) 3 g dX4_closeSome_54 rfl ?_
  refine r_iconst (pc := 55) g dX4_closeSome_55 ci_1 ?_
  refine r_isub (pc := 56) g dX4_closeSome_56 ?_
  refine r_iload_n (pc := 57) 1 g dX4_closeSome_57 rfl ?_
  refine r_iand (pc := 58) g dX4_closeSome_58 ?_
  refine r_istore_n (pc := 59) (lv' := [(3, .int ((x3 - 1) &&& x1)), (0, .ref (w.1 53)), (1, .int x1), (2, .int x2), (4, .int x4)]) g dX4_closeSome_59 rfl rfl ?_
  refine r_iinc (pc := 60) (lv' := [(4, .int (x4 + (-1))), (3, .int ((x3 - 1) &&& x1)), (0, .ref (w.1 53)), (1, .int x1), (2, .int x2)]) 4 g dX4_closeSome_60 rfl ci_m1 rfl rfl ?_
  refine r_goto (pc := 63) 10 g dX4_closeSome_63 rfl ?_
  refine r_sub [2, 3, 4, 1, 0] (lv' := [(0, .ref (w.1 53)), (1, .int x1), (2, .int x2), (3, .int ((x3 - 1) &&& x1)), (4, .int (x4 + (-1)))]) rfl ?_
  exact hP10 x1 x2 ((x3 - 1) &&& x1) (x4 + (-1)) μ h
def B_X4_closeSome_10 (post : Mem → Prop) (P10 : Int32 → Int32 → Int32 → Int32 → Mem → Prop) (x1 : Int32) (x2 : Int32) (x3 : Int32) (x4 : Int32) (μ : Mem) : Prop :=
  ((x4 ≤ 0 → post μ) ∧ (¬ x4 ≤ 0 → shX ((μ 53 3).toNatClampNeg) = .inl 1024 ∧ vp_in x3 1024 ∧ ((1000000 ≤ (μ ((μ 53 3).toNatClampNeg) x3.toNatClampNeg) → T_X4_closeSome_54 post P10 x1 x2 x3 x4 μ) ∧ (¬ 1000000 ≤ (μ ((μ 53 3).toNatClampNeg) x3.toNatClampNeg) → T_X4_closeOne x3 μ (fun (μ4 : Mem) => T_X5_sum 16 x3 μ4 (fun (u5 : Int32) (μ6 : Mem) => ((u5 ≤ x2 → T_X4_closeSome_54 post P10 x1 x2 x3 x4 μ6) ∧ (¬ u5 ≤ x2 → shX ((μ6 53 3).toNatClampNeg) = .inl 1024 ∧ vp_in x3 1024 ∧ T_X4_closeSome_54 post P10 x1 x2 x3 x4 (mset μ6 ((μ6 53 3).toNatClampNeg) x3.toNatClampNeg 1000000)))))))))
def T_X4_closeSome_10 (post : Mem → Prop) (x1 : Int32) (x2 : Int32) (x3 : Int32) (x4 : Int32) (μ : Mem) : Prop :=
  ∀ P10 : Int32 → Int32 → Int32 → Int32 → Mem → Prop, (∀ (x1 : Int32) (x2 : Int32) (x3 : Int32) (x4 : Int32) (μ : Mem), B_X4_closeSome_10 post P10 x1 x2 x3 x4 μ → P10 x1 x2 x3 x4 μ) → P10 x1 x2 x3 x4 μ
theorem bv_X4_closeSome_10 {X : Cx} {w : Wd} {l : Launch} {D : va_G} {A : Nat → Prop} (g : Gd X w RX4 cX4_closeSome 5 rm_X4_closeSome) (hX : atX X l D A) (post : Mem → Prop) (hR : Rt X w shX 58 none (pV post)) (P10 : Int32 → Int32 → Int32 → Int32 → Mem → Prop) (hP10 : ∀ (x1 : Int32) (x2 : Int32) (x3 : Int32) (x4 : Int32) (μ : Mem), P10 x1 x2 x3 x4 μ → V X 10 [(0, .ref (w.1 53)), (1, .int x1), (2, .int x2), (3, .int x3), (4, .int x4)] [] (wls w shX 58 μ)) (x1 : Int32) (x2 : Int32) (x3 : Int32) (x4 : Int32) (μ : Mem) (h : B_X4_closeSome_10 post P10 x1 x2 x3 x4 μ) : V X 10 [(0, .ref (w.1 53)), (1, .int x1), (2, .int x2), (3, .int x3), (4, .int x4)] [] (wls w shX 58 μ) := by
  refine r_iload (pc := 10) 4 g dX4_closeSome_10 rfl ?_
  refine r_if_le (pc := 12) 66 g dX4_closeSome_12 rfl (fun q => ?_) (fun q => ?_)
  · have h := h.1 q
    exact r_vretv (pc := 66) g hR dX4_closeSome_66 h
  · have h := h.2 q
    refine r_aload_n (pc := 15) 0 g dX4_closeSome_15 rfl ?_
    refine r_getd (pc := 16) (μ := μ) g dX4_closeSome_16 fa_RX4_15 shX_out sX_53 rfl ?_
    refine r_iload_n (pc := 19) 3 g dX4_closeSome_19 rfl ?_
    obtain ⟨z1, h⟩ := h
    obtain ⟨b2, h⟩ := h
    refine r_iaload (pc := 20) (μ := μ) g dX4_closeSome_20 shX_out z1 b2 ?_
    refine r_ldc (pc := 21) g dX4_closeSome_21 k_854 ?_
    refine r_icmp_ge (pc := 23) 54 g dX4_closeSome_23 rfl (fun q => ?_) (fun q => ?_)
    · have h := h.1 q
      refine r_sub [0, 1, 2, 3, 4] (lv' := [(0, .ref (w.1 53)), (1, .int x1), (2, .int x2), (3, .int x3), (4, .int x4)]) rfl ?_
      exact v_X4_closeSome_54 g hX post hR P10 hP10 x1 x2 x3 x4 μ h
    · have h := h.2 q
      refine r_aload_n (pc := 26) 0 g dX4_closeSome_26 rfl ?_
      refine r_iload_n (pc := 27) 3 g dX4_closeSome_27 rfl ?_
      refine r_callVv (pc := 28) (st := []) g hX dX4_closeSome_28 (m_X4_closeOne x3 μ _ h) kb_RX4_91 kv_X4_closeOne shX_out sX_53 rfl rfl rfl rfl (fun μ4 h => ?_)
      refine r_aload_n (pc := 31) 0 g dX4_closeSome_31 rfl ?_
      refine r_getr (pc := 32) (μ := μ4) g dX4_closeSome_32 fa_RX4_18 shX_out sX_53 rfl ?_
      refine r_getr (pc := 35) (μ := μ4) g dX4_closeSome_35 fa_RX4_61 shX_out sX_13 rfl ?_
      refine r_iload_n (pc := 38) 3 g dX4_closeSome_38 rfl ?_
      refine r_callVi (pc := 39) (st := []) g hX dX4_closeSome_39 (m_X5_sum 16 (Or.inl rfl) x3 μ4 _ h) kb_RX4_65 kv_X5_sum shX_out (sc_0 (Or.inl rfl)) rfl rfl rfl rfl (fun u5 μ6 h => ?_)
      refine r_iload_n (pc := 42) 2 g dX4_closeSome_42 rfl ?_
      refine r_icmp_le (pc := 43) 54 g dX4_closeSome_43 rfl (fun q => ?_) (fun q => ?_)
      · have h := h.1 q
        refine r_sub [0, 1, 2, 3, 4] (lv' := [(0, .ref (w.1 53)), (1, .int x1), (2, .int x2), (3, .int x3), (4, .int x4)]) rfl ?_
        exact v_X4_closeSome_54 g hX post hR P10 hP10 x1 x2 x3 x4 μ6 h
      · have h := h.2 q
        refine r_aload_n (pc := 46) 0 g dX4_closeSome_46 rfl ?_
        refine r_getd (pc := 47) (μ := μ6) g dX4_closeSome_47 fa_RX4_15 shX_out sX_53 rfl ?_
        refine r_iload_n (pc := 50) 3 g dX4_closeSome_50 rfl ?_
        refine r_ldc (pc := 51) g dX4_closeSome_51 k_854 ?_
        obtain ⟨z7, h⟩ := h
        obtain ⟨b8, h⟩ := h
        refine r_iastore (pc := 53) (μ := μ6) g dX4_closeSome_53 shX_out z7 b8 ?_
        refine r_sub [0, 1, 2, 3, 4] (lv' := [(0, .ref (w.1 53)), (1, .int x1), (2, .int x2), (3, .int x3), (4, .int x4)]) rfl ?_
        exact v_X4_closeSome_54 g hX post hR P10 hP10 x1 x2 x3 x4 (mset μ6 ((μ6 53 3).toNatClampNeg) x3.toNatClampNeg 1000000) h
theorem v_X4_closeSome_10 {X : Cx} {w : Wd} {l : Launch} {D : va_G} {A : Nat → Prop} (g : Gd X w RX4 cX4_closeSome 5 rm_X4_closeSome) (hX : atX X l D A) (post : Mem → Prop) (hR : Rt X w shX 58 none (pV post)) (x1 : Int32) (x2 : Int32) (x3 : Int32) (x4 : Int32) (μ : Mem) (h : T_X4_closeSome_10 post x1 x2 x3 x4 μ) : V X 10 [(0, .ref (w.1 53)), (1, .int x1), (2, .int x2), (3, .int x3), (4, .int x4)] [] (wls w shX 58 μ) :=
  h (fun x1 x2 x3 x4 μ => V X 10 [(0, .ref (w.1 53)), (1, .int x1), (2, .int x2), (3, .int x3), (4, .int x4)] [] (wls w shX 58 μ)) (fun x1 x2 x3 x4 μ h => bv_X4_closeSome_10 g hX post hR (fun x1 x2 x3 x4 μ => V X 10 [(0, .ref (w.1 53)), (1, .int x1), (2, .int x2), (3, .int x3), (4, .int x4)] [] (wls w shX 58 μ)) (fun _ _ _ _ _ h => h) x1 x2 x3 x4 μ h)
def T_X4_closeSome (x1 : Int32) (x2 : Int32) (μ : Mem) (post : Mem → Prop) : Prop :=
  T_J6_bitCount_0f7a4 x1 μ (fun (u1 : Int32) (μ2 : Mem) => T_X4_closeSome_10 post x1 x2 x1 ((1 : Int32) <<< (u1 &&& 31)) μ2)
theorem m_X4_closeSome {w : Wd} {l : Launch} {D : va_G} {A : Nat → Prop} (x1 : Int32) (x2 : Int32) (μ : Mem) (post : Mem → Prop) (h : T_X4_closeSome x1 x2 μ post) : MetX l D A w shX 58 yX4_closeSome cX4_closeSome 5 none rm_X4_closeSome [.ref (w.1 53), .int x1, .int x2] μ (pV post) := by
  refine metX_of (by decide) rfl (lv := [(0, .ref (w.1 53)), (1, .int x1), (2, .int x2)]) rfl (fun X hX g hR => ?_)
  refine r_iload_n (pc := 0) 1 g dX4_closeSome_0 rfl ?_
  refine r_istore_n (pc := 1) (lv' := [(3, .int x1), (0, .ref (w.1 53)), (1, .int x1), (2, .int x2)]) g dX4_closeSome_1 rfl rfl ?_
  refine r_iconst (pc := 2) g dX4_closeSome_2 ci_1 ?_
  refine r_iload_n (pc := 3) 2 g dX4_closeSome_3 rfl ?_
  refine r_callSi (pc := 4) (st := [.int 1]) g hX dX4_closeSome_4 (m_J6_bitCount_0f7a4 x1 μ _ h) kb_RX4_79 k_174 rfl rfl rfl rfl (fun u1 μ2 h => ?_)
  refine r_ishl (pc := 7) g dX4_closeSome_7 ?_
  refine r_istore (pc := 8) (lv' := [(4, .int ((1 : Int32) <<< (u1 &&& 31))), (3, .int x1), (0, .ref (w.1 53)), (1, .int x1), (2, .int x2)]) g dX4_closeSome_8 rfl rfl ?_
  refine r_sub [2, 3, 4, 1, 0] (lv' := [(0, .ref (w.1 53)), (1, .int x1), (2, .int x2), (3, .int x1), (4, .int ((1 : Int32) <<< (u1 &&& 31)))]) rfl ?_
  exact v_X4_closeSome_10 g hX post hR x1 x2 x1 ((1 : Int32) <<< (u1 &&& 31)) μ2 h
abbrev rm_X4_fillFar : Room := { frames := 1, cells := 0, slots := 0, locals := 20 }
def B_X4_fillFar_9 (post : Mem → Prop) (P9 : Int32 → Int32 → Int32 → Mem → Prop) (x1 : Int32) (x2 : Int32) (x3 : Int32) (μ : Mem) : Prop :=
  ((x3 ≤ 0 → post μ) ∧ (¬ x3 ≤ 0 → shX ((μ 53 3).toNatClampNeg) = .inl 1024 ∧ vp_in x2 1024 ∧ P9 x1 ((x2 - 1) &&& x1) (x3 + (-1)) (mset μ ((μ 53 3).toNatClampNeg) x2.toNatClampNeg 1000000)))
def T_X4_fillFar_9 (post : Mem → Prop) (x1 : Int32) (x2 : Int32) (x3 : Int32) (μ : Mem) : Prop :=
  ∀ P9 : Int32 → Int32 → Int32 → Mem → Prop, (∀ (x1 : Int32) (x2 : Int32) (x3 : Int32) (μ : Mem), B_X4_fillFar_9 post P9 x1 x2 x3 μ → P9 x1 x2 x3 μ) → P9 x1 x2 x3 μ
theorem bv_X4_fillFar_9 {X : Cx} {w : Wd} {l : Launch} {D : va_G} {A : Nat → Prop} (g : Gd X w RX4 cX4_fillFar 4 rm_X4_fillFar) (hX : atX X l D A) (post : Mem → Prop) (hR : Rt X w shX 58 none (pV post)) (P9 : Int32 → Int32 → Int32 → Mem → Prop) (hP9 : ∀ (x1 : Int32) (x2 : Int32) (x3 : Int32) (μ : Mem), P9 x1 x2 x3 μ → V X 9 [(0, .ref (w.1 53)), (1, .int x1), (2, .int x2), (3, .int x3)] [] (wls w shX 58 μ)) (x1 : Int32) (x2 : Int32) (x3 : Int32) (μ : Mem) (h : B_X4_fillFar_9 post P9 x1 x2 x3 μ) : V X 9 [(0, .ref (w.1 53)), (1, .int x1), (2, .int x2), (3, .int x3)] [] (wls w shX 58 μ) := by
  refine r_iload_n (pc := 9) 3 g dX4_fillFar_9 rfl ?_
  refine r_if_le (pc := 10) 33 g dX4_fillFar_10 rfl (fun q => ?_) (fun q => ?_)
  · have h := h.1 q
    exact r_vretv (pc := 33) g hR dX4_fillFar_33 h
  · have h := h.2 q
    refine r_aload_n (pc := 13) 0 g dX4_fillFar_13 rfl ?_
    refine r_getd (pc := 14) (μ := μ) g dX4_fillFar_14 fa_RX4_15 shX_out sX_53 rfl ?_
    refine r_iload_n (pc := 17) 2 g dX4_fillFar_17 rfl ?_
    refine r_ldc (pc := 18) g dX4_fillFar_18 k_854 ?_
    obtain ⟨z1, h⟩ := h
    obtain ⟨b2, h⟩ := h
    refine r_iastore (pc := 20) (μ := μ) g dX4_fillFar_20 shX_out z1 b2 ?_
    refine r_iload_n (pc := 21) 2 g dX4_fillFar_21 rfl ?_
    refine r_iconst (pc := 22) g dX4_fillFar_22 ci_1 ?_
    refine r_isub (pc := 23) g dX4_fillFar_23 ?_
    refine r_iload_n (pc := 24) 1 g dX4_fillFar_24 rfl ?_
    refine r_iand (pc := 25) g dX4_fillFar_25 ?_
    refine r_istore_n (pc := 26) (lv' := [(2, .int ((x2 - 1) &&& x1)), (0, .ref (w.1 53)), (1, .int x1), (3, .int x3)]) g dX4_fillFar_26 rfl rfl ?_
    refine r_iinc (pc := 27) (lv' := [(3, .int (x3 + (-1))), (2, .int ((x2 - 1) &&& x1)), (0, .ref (w.1 53)), (1, .int x1)]) 3 g dX4_fillFar_27 rfl ci_m1 rfl rfl ?_
    refine r_goto (pc := 30) 9 g dX4_fillFar_30 rfl ?_
    refine r_sub [2, 3, 1, 0] (lv' := [(0, .ref (w.1 53)), (1, .int x1), (2, .int ((x2 - 1) &&& x1)), (3, .int (x3 + (-1)))]) rfl ?_
    exact hP9 x1 ((x2 - 1) &&& x1) (x3 + (-1)) (mset μ ((μ 53 3).toNatClampNeg) x2.toNatClampNeg 1000000) h
theorem v_X4_fillFar_9 {X : Cx} {w : Wd} {l : Launch} {D : va_G} {A : Nat → Prop} (g : Gd X w RX4 cX4_fillFar 4 rm_X4_fillFar) (hX : atX X l D A) (post : Mem → Prop) (hR : Rt X w shX 58 none (pV post)) (x1 : Int32) (x2 : Int32) (x3 : Int32) (μ : Mem) (h : T_X4_fillFar_9 post x1 x2 x3 μ) : V X 9 [(0, .ref (w.1 53)), (1, .int x1), (2, .int x2), (3, .int x3)] [] (wls w shX 58 μ) :=
  h (fun x1 x2 x3 μ => V X 9 [(0, .ref (w.1 53)), (1, .int x1), (2, .int x2), (3, .int x3)] [] (wls w shX 58 μ)) (fun x1 x2 x3 μ h => bv_X4_fillFar_9 g hX post hR (fun x1 x2 x3 μ => V X 9 [(0, .ref (w.1 53)), (1, .int x1), (2, .int x2), (3, .int x3)] [] (wls w shX 58 μ)) (fun _ _ _ _ h => h) x1 x2 x3 μ h)
def T_X4_fillFar (x1 : Int32) (μ : Mem) (post : Mem → Prop) : Prop :=
  T_J6_bitCount_0f7a4 x1 μ (fun (u1 : Int32) (μ2 : Mem) => T_X4_fillFar_9 post x1 x1 ((1 : Int32) <<< (u1 &&& 31)) μ2)
theorem m_X4_fillFar {w : Wd} {l : Launch} {D : va_G} {A : Nat → Prop} (x1 : Int32) (μ : Mem) (post : Mem → Prop) (h : T_X4_fillFar x1 μ post) : MetX l D A w shX 58 yX4_fillFar cX4_fillFar 4 none rm_X4_fillFar [.ref (w.1 53), .int x1] μ (pV post) := by
  refine metX_of (by decide) rfl (lv := [(0, .ref (w.1 53)), (1, .int x1)]) rfl (fun X hX g hR => ?_)
  refine r_iload_n (pc := 0) 1 g dX4_fillFar_0 rfl ?_
  refine r_istore_n (pc := 1) (lv' := [(2, .int x1), (0, .ref (w.1 53)), (1, .int x1)]) g dX4_fillFar_1 rfl rfl ?_
  refine r_iconst (pc := 2) g dX4_fillFar_2 ci_1 ?_
  refine r_iload_n (pc := 3) 2 g dX4_fillFar_3 rfl ?_
  refine r_callSi (pc := 4) (st := [.int 1]) g hX dX4_fillFar_4 (m_J6_bitCount_0f7a4 x1 μ _ h) kb_RX4_79 k_174 rfl rfl rfl rfl (fun u1 μ2 h => ?_)
  refine r_ishl (pc := 7) g dX4_fillFar_7 ?_
  refine r_istore_n (pc := 8) (lv' := [(3, .int ((1 : Int32) <<< (u1 &&& 31))), (2, .int x1), (0, .ref (w.1 53)), (1, .int x1)]) g dX4_fillFar_8 rfl rfl ?_
  refine r_sub [2, 3, 1, 0] (lv' := [(0, .ref (w.1 53)), (1, .int x1), (2, .int x1), (3, .int ((1 : Int32) <<< (u1 &&& 31)))]) rfl ?_
  exact v_X4_fillFar_9 g hX post hR x1 x1 ((1 : Int32) <<< (u1 &&& 31)) μ2 h
abbrev rm_X4_goOn : Room := { frames := 2, cells := 0, slots := 0, locals := 43 }
def T_X4_goOn_135 (r1 : Nat) (post : Mem → Prop) (P67 : Int32 → Int32 → Int32 → Int32 → Int32 → Int32 → Mem → Prop) (x3 : Int32) (x4 : Int32) (x5 : Int32) (x6 : Int32) (x7 : Int32) (x8 : Int32) (μ : Mem) : Prop :=
  P67 x3 x4 x5 x6 ((x7 - 1) &&& x5) (x8 + (-1)) μ
theorem v_X4_goOn_135 {X : Cx} {w : Wd} {l : Launch} {D : va_G} {A : Nat → Prop} (r1 : Nat) (g : Gd X w RX4 cX4_goOn 10 rm_X4_goOn) (hX : atX X l D A) (post : Mem → Prop) (hR : Rt X w shX 58 none (pV post)) (P67 : Int32 → Int32 → Int32 → Int32 → Int32 → Int32 → Mem → Prop) (hP67 : ∀ (x3 : Int32) (x4 : Int32) (x5 : Int32) (x6 : Int32) (x7 : Int32) (x8 : Int32) (μ : Mem), P67 x3 x4 x5 x6 x7 x8 μ → V X 67 [(0, .ref (w.1 53)), (3, .int x3), (4, .int x4), (5, .int x5), (6, .int x6), (7, .int x7), (8, .int x8)] [] (wls w shX 58 μ)) (x3 : Int32) (x4 : Int32) (x5 : Int32) (x6 : Int32) (x7 : Int32) (x8 : Int32) (μ : Mem) (h : T_X4_goOn_135 r1 post P67 x3 x4 x5 x6 x7 x8 μ) : V X 135 [(0, .ref (w.1 53)), (3, .int x3), (4, .int x4), (5, .int x5), (6, .int x6), (7, .int x7), (8, .int x8)] [] (wls w shX 58 μ) := by
  refine r_iload (pc := 135) 5 g dX4_goOn_135 rfl ?_
  refine r_iconst (pc := 137) g dX4_goOn_137 ci_1 ?_
  refine r_isub (pc := 138) g dX4_goOn_138 ?_
  refine r_iload (pc := 139) 3 g dX4_goOn_139 rfl ?_
  refine r_iand (pc := 141) g dX4_goOn_141 ?_
  refine r_istore (pc := 142) (lv' := [(7, .int ((x7 - 1) &&& x5)), (0, .ref (w.1 53)), (3, .int x3), (4, .int x4), (5, .int x5), (6, .int x6), (8, .int x8)]) g dX4_goOn_142 rfl rfl ?_
  refine r_iinc (pc := 144) (lv' := [(8, .int (x8 + (-1))), (7, .int ((x7 - 1) &&& x5)), (0, .ref (w.1 53)), (3, .int x3), (4, .int x4), (5, .int x5), (6, .int x6)]) 6 g dX4_goOn_144 rfl ci_m1 rfl rfl ?_
  refine r_goto (pc := 147) 67 g dX4_goOn_147 rfl ?_
  refine r_sub [2, 3, 4, 5, 6, 1, 0] (lv' := [(0, .ref (w.1 53)), (3, .int x3), (4, .int x4), (5, .int x5), (6, .int x6), (7, .int ((x7 - 1) &&& x5)), (8, .int (x8 + (-1)))]) rfl ?_
  exact hP67 x3 x4 x5 x6 ((x7 - 1) &&& x5) (x8 + (-1)) μ h
def B_X4_goOn_67 (r1 : Nat) (post : Mem → Prop) (P67 : Int32 → Int32 → Int32 → Int32 → Int32 → Int32 → Mem → Prop) (x3 : Int32) (x4 : Int32) (x5 : Int32) (x6 : Int32) (x7 : Int32) (x8 : Int32) (μ : Mem) : Prop :=
  ((x8 ≤ 0 → post μ) ∧ (¬ x8 ≤ 0 → shX ((μ 53 2).toNatClampNeg) = .inl 1024 ∧ vp_in x7 1024 ∧ ((1000000 ≤ (μ ((μ 53 2).toNatClampNeg) x7.toNatClampNeg) → T_X4_goOn_135 r1 post P67 x3 x4 x5 x6 x7 x8 μ) ∧ (¬ 1000000 ≤ (μ ((μ 53 2).toNatClampNeg) x7.toNatClampNeg) → shX ((μ 53 3).toNatClampNeg) = .inl 1024 ∧ vp_in ((x7 ||| x4) &&& x3) 1024 ∧ vp_in x7 1024 ∧ T_X5_sum 19 (x6 &&& (x7 ^^^ (-1))) μ (fun (u6 : Int32) (μ7 : Mem) => vp_in ((x7 ||| x4) &&& x3) 1024 ∧ T_X4_goOn_135 r1 post P67 x3 x4 x5 x6 x7 x8 (mset μ7 ((μ 53 3).toNatClampNeg) ((x7 ||| x4) &&& x3).toNatClampNeg (if ((μ ((μ 53 2).toNatClampNeg) x7.toNatClampNeg) + u6) < (μ ((μ 53 3).toNatClampNeg) ((x7 ||| x4) &&& x3).toNatClampNeg) then ((μ ((μ 53 2).toNatClampNeg) x7.toNatClampNeg) + u6) else (μ ((μ 53 3).toNatClampNeg) ((x7 ||| x4) &&& x3).toNatClampNeg))))))))
def T_X4_goOn_67 (r1 : Nat) (post : Mem → Prop) (x3 : Int32) (x4 : Int32) (x5 : Int32) (x6 : Int32) (x7 : Int32) (x8 : Int32) (μ : Mem) : Prop :=
  ∀ P67 : Int32 → Int32 → Int32 → Int32 → Int32 → Int32 → Mem → Prop, (∀ (x3 : Int32) (x4 : Int32) (x5 : Int32) (x6 : Int32) (x7 : Int32) (x8 : Int32) (μ : Mem), B_X4_goOn_67 r1 post P67 x3 x4 x5 x6 x7 x8 μ → P67 x3 x4 x5 x6 x7 x8 μ) → P67 x3 x4 x5 x6 x7 x8 μ
theorem bv_X4_goOn_67 {X : Cx} {w : Wd} {l : Launch} {D : va_G} {A : Nat → Prop} (r1 : Nat) (g : Gd X w RX4 cX4_goOn 10 rm_X4_goOn) (hX : atX X l D A) (post : Mem → Prop) (hR : Rt X w shX 58 none (pV post)) (P67 : Int32 → Int32 → Int32 → Int32 → Int32 → Int32 → Mem → Prop) (hP67 : ∀ (x3 : Int32) (x4 : Int32) (x5 : Int32) (x6 : Int32) (x7 : Int32) (x8 : Int32) (μ : Mem), P67 x3 x4 x5 x6 x7 x8 μ → V X 67 [(0, .ref (w.1 53)), (3, .int x3), (4, .int x4), (5, .int x5), (6, .int x6), (7, .int x7), (8, .int x8)] [] (wls w shX 58 μ)) (x3 : Int32) (x4 : Int32) (x5 : Int32) (x6 : Int32) (x7 : Int32) (x8 : Int32) (μ : Mem) (h : B_X4_goOn_67 r1 post P67 x3 x4 x5 x6 x7 x8 μ) : V X 67 [(0, .ref (w.1 53)), (3, .int x3), (4, .int x4), (5, .int x5), (6, .int x6), (7, .int x7), (8, .int x8)] [] (wls w shX 58 μ) := by
  refine r_iload (pc := 67) 6 g dX4_goOn_67 rfl ?_
  refine r_if_le (pc := 69) 150 g dX4_goOn_69 rfl (fun q => ?_) (fun q => ?_)
  · have h := h.1 q
    exact r_vretv (pc := 150) g hR dX4_goOn_150 h
  · have h := h.2 q
    refine r_aload_n (pc := 72) 0 g dX4_goOn_72 rfl ?_
    refine r_getd (pc := 73) (μ := μ) g dX4_goOn_73 fa_RX4_9 shX_out sX_53 rfl ?_
    refine r_iload (pc := 76) 5 g dX4_goOn_76 rfl ?_
    obtain ⟨z1, h⟩ := h
    obtain ⟨b2, h⟩ := h
    refine r_iaload (pc := 78) (μ := μ) g dX4_goOn_78 shX_out z1 b2 ?_
    refine r_ldc (pc := 79) g dX4_goOn_79 k_854 ?_
    refine r_icmp_ge (pc := 81) 135 g dX4_goOn_81 rfl (fun q => ?_) (fun q => ?_)
    · have h := h.1 q
      refine r_sub [0, 1, 2, 3, 4, 5, 6] (lv' := [(0, .ref (w.1 53)), (3, .int x3), (4, .int x4), (5, .int x5), (6, .int x6), (7, .int x7), (8, .int x8)]) rfl ?_
      exact v_X4_goOn_135 r1 g hX post hR P67 hP67 x3 x4 x5 x6 x7 x8 μ h
    · have h := h.2 q
      refine r_iload (pc := 84) 5 g dX4_goOn_84 rfl ?_
      refine r_iload (pc := 86) 2 g dX4_goOn_86 rfl ?_
      refine r_ior (pc := 88) g dX4_goOn_88 ?_
      refine r_iload_n (pc := 89) 1 g dX4_goOn_89 rfl ?_
      refine r_iand (pc := 90) g dX4_goOn_90 ?_
      refine r_istore (pc := 91) (lv' := [(9, .int ((x7 ||| x4) &&& x3)), (0, .ref (w.1 53)), (3, .int x3), (4, .int x4), (5, .int x5), (6, .int x6), (7, .int x7), (8, .int x8)]) g dX4_goOn_91 rfl rfl ?_
      refine r_aload_n (pc := 93) 1 g dX4_goOn_93 rfl ?_
      refine r_getd (pc := 94) (μ := μ) g dX4_goOn_94 fa_RX4_15 shX_out sX_53 rfl ?_
      refine r_iload (pc := 97) 0 g dX4_goOn_97 rfl ?_
      refine r_aload_n (pc := 99) 1 g dX4_goOn_99 rfl ?_
      refine r_getd (pc := 100) (μ := μ) g dX4_goOn_100 fa_RX4_15 shX_out sX_53 rfl ?_
      refine r_iload (pc := 103) 0 g dX4_goOn_103 rfl ?_
      obtain ⟨z3, h⟩ := h
      obtain ⟨b4, h⟩ := h
      refine r_iaload (pc := 105) (μ := μ) g dX4_goOn_105 shX_out z3 b4 ?_
      refine r_aload_n (pc := 106) 1 g dX4_goOn_106 rfl ?_
      refine r_getd (pc := 107) (μ := μ) g dX4_goOn_107 fa_RX4_9 shX_out sX_53 rfl ?_
      refine r_iload (pc := 110) 6 g dX4_goOn_110 rfl ?_
      obtain ⟨b5, h⟩ := h
      refine r_iaload (pc := 112) (μ := μ) g dX4_goOn_112 shX_out z1 b5 ?_
      refine r_aload_n (pc := 113) 1 g dX4_goOn_113 rfl ?_
      refine r_getr (pc := 114) (μ := μ) g dX4_goOn_114 fa_RX4_18 shX_out sX_53 rfl ?_
      refine r_getr (pc := 117) (μ := μ) g dX4_goOn_117 fa_RX4_85 shX_out sX_13 rfl ?_
      refine r_iload (pc := 120) 5 g dX4_goOn_120 rfl ?_
      refine r_iload (pc := 122) 6 g dX4_goOn_122 rfl ?_
      refine r_iconst (pc := 124) g dX4_goOn_124 ci_m1 ?_
      refine r_ixor (pc := 125) g dX4_goOn_125 ?_
      refine r_iand (pc := 126) g dX4_goOn_126 ?_
      refine r_callVi (pc := 127) (st := [.int (μ ((μ 53 2).toNatClampNeg) x7.toNatClampNeg), .int (μ ((μ 53 3).toNatClampNeg) ((x7 ||| x4) &&& x3).toNatClampNeg), .int ((x7 ||| x4) &&& x3), .ref (w.1 ((μ 53 3).toNatClampNeg))]) g hX dX4_goOn_127 (m_X5_sum 19 (Or.inr rfl) (x6 &&& (x7 ^^^ (-1))) μ _ h) kb_RX4_65 kv_X5_sum shX_out (sc_0 (Or.inr rfl)) rfl rfl rfl rfl (fun u6 μ7 h => ?_)
      refine r_iadd (pc := 130) g dX4_goOn_130 ?_
      refine r_min (pc := 131) g dX4_goOn_131 kj_RX4_88 ⟨rfl, rfl⟩ ?_
      obtain ⟨b8, h⟩ := h
      refine r_iastore (pc := 134) (μ := μ7) g dX4_goOn_134 shX_out z3 b8 ?_
      refine r_sub [1, 2, 3, 4, 5, 6, 7] (lv' := [(0, .ref (w.1 53)), (3, .int x3), (4, .int x4), (5, .int x5), (6, .int x6), (7, .int x7), (8, .int x8)]) rfl ?_
      exact v_X4_goOn_135 r1 g hX post hR P67 hP67 x3 x4 x5 x6 x7 x8 (mset μ7 ((μ 53 3).toNatClampNeg) ((x7 ||| x4) &&& x3).toNatClampNeg (if ((μ ((μ 53 2).toNatClampNeg) x7.toNatClampNeg) + u6) < (μ ((μ 53 3).toNatClampNeg) ((x7 ||| x4) &&& x3).toNatClampNeg) then ((μ ((μ 53 2).toNatClampNeg) x7.toNatClampNeg) + u6) else (μ ((μ 53 3).toNatClampNeg) ((x7 ||| x4) &&& x3).toNatClampNeg))) h
theorem v_X4_goOn_67 {X : Cx} {w : Wd} {l : Launch} {D : va_G} {A : Nat → Prop} (r1 : Nat) (g : Gd X w RX4 cX4_goOn 10 rm_X4_goOn) (hX : atX X l D A) (post : Mem → Prop) (hR : Rt X w shX 58 none (pV post)) (x3 : Int32) (x4 : Int32) (x5 : Int32) (x6 : Int32) (x7 : Int32) (x8 : Int32) (μ : Mem) (h : T_X4_goOn_67 r1 post x3 x4 x5 x6 x7 x8 μ) : V X 67 [(0, .ref (w.1 53)), (3, .int x3), (4, .int x4), (5, .int x5), (6, .int x6), (7, .int x7), (8, .int x8)] [] (wls w shX 58 μ) :=
  h (fun x3 x4 x5 x6 x7 x8 μ => V X 67 [(0, .ref (w.1 53)), (3, .int x3), (4, .int x4), (5, .int x5), (6, .int x6), (7, .int x7), (8, .int x8)] [] (wls w shX 58 μ)) (fun x3 x4 x5 x6 x7 x8 μ h => bv_X4_goOn_67 r1 g hX post hR (fun x3 x4 x5 x6 x7 x8 μ => V X 67 [(0, .ref (w.1 53)), (3, .int x3), (4, .int x4), (5, .int x5), (6, .int x6), (7, .int x7), (8, .int x8)] [] (wls w shX 58 μ)) (fun _ _ _ _ _ _ _ h => h) x3 x4 x5 x6 x7 x8 μ h)
def T_X4_goOn (r1 : Nat) (x2 : Int32) (x3 : Int32) (μ : Mem) (post : Mem → Prop) : Prop :=
  T_X4_fillFar x3 μ (fun (μ2 : Mem) => shX r1 = .inl 9 ∧ vp_in (x2 - 1) 9 ∧ vp_in (μ2 r1 (x2 - 1).toNatClampNeg) 9 ∧ vp_in (x2 - 1) 9 ∧ vp_in x2 9 ∧ vp_in (μ2 r1 x2.toNatClampNeg) 9 ∧ T_J6_bitCount_0f7a4 ((μ2 34 (x2 - 1).toNatClampNeg) &&& ((μ2 14 (μ2 r1 (x2 - 1).toNatClampNeg).toNatClampNeg) ^^^ (-1))) μ2 (fun (u9 : Int32) (μ10 : Mem) => T_X4_goOn_67 r1 post x3 (μ2 14 (μ2 r1 (x2 - 1).toNatClampNeg).toNatClampNeg) ((μ2 34 (x2 - 1).toNatClampNeg) &&& ((μ2 14 (μ2 r1 (x2 - 1).toNatClampNeg).toNatClampNeg) ^^^ (-1))) (((μ2 34 (x2 - 1).toNatClampNeg) &&& ((μ2 14 (μ2 r1 (x2 - 1).toNatClampNeg).toNatClampNeg) ^^^ (-1))) &&& (μ2 14 (μ2 r1 x2.toNatClampNeg).toNatClampNeg)) ((μ2 34 (x2 - 1).toNatClampNeg) &&& ((μ2 14 (μ2 r1 (x2 - 1).toNatClampNeg).toNatClampNeg) ^^^ (-1))) ((1 : Int32) <<< (u9 &&& 31)) μ10))
theorem m_X4_goOn {w : Wd} {l : Launch} {D : va_G} {A : Nat → Prop} (r1 : Nat) (x2 : Int32) (x3 : Int32) (μ : Mem) (post : Mem → Prop) (h : T_X4_goOn r1 x2 x3 μ post) : MetX l D A w shX 58 yX4_goOn cX4_goOn 10 none rm_X4_goOn [.ref (w.1 53), .ref (w.1 r1), .int x2, .int x3] μ (pV post) := by
  refine metX_of (by decide) rfl (lv := [(0, .ref (w.1 53)), (1, .ref (w.1 r1)), (2, .int x2), (3, .int x3)]) rfl (fun X hX g hR => ?_)
  refine r_aload_n (pc := 0) 0 g dX4_goOn_0 rfl ?_
  refine r_iload_n (pc := 1) 3 g dX4_goOn_1 rfl ?_
  refine r_callVv (pc := 2) (st := []) g hX dX4_goOn_2 (m_X4_fillFar x3 μ _ h) kb_RX4_75 kv_X4_fillFar shX_out sX_53 rfl rfl rfl rfl (fun μ2 h => ?_)
  refine r_aload_n (pc := 5) 0 g dX4_goOn_5 rfl ?_
  refine r_getr (pc := 6) (μ := μ2) g dX4_goOn_6 fa_RX4_18 shX_out sX_53 rfl ?_
  refine r_getr (pc := 9) (μ := μ2) g dX4_goOn_9 fa_RX4_54 shX_out sX_13 rfl ?_
  refine r_aload_n (pc := 12) 1 g dX4_goOn_12 rfl ?_
  refine r_iload_n (pc := 13) 2 g dX4_goOn_13 rfl ?_
  refine r_iconst (pc := 14) g dX4_goOn_14 ci_1 ?_
  refine r_isub (pc := 15) g dX4_goOn_15 ?_
  obtain ⟨z3, h⟩ := h
  obtain ⟨b4, h⟩ := h
  refine r_iaload (pc := 16) (μ := μ2) g dX4_goOn_16 shX_out z3 b4 ?_
  obtain ⟨b5, h⟩ := h
  refine r_iaload (pc := 17) (μ := μ2) g dX4_goOn_17 shX_out sX_14 b5 ?_
  refine r_istore (pc := 18) (lv' := [(4, .int (μ2 14 (μ2 r1 (x2 - 1).toNatClampNeg).toNatClampNeg)), (0, .ref (w.1 53)), (1, .ref (w.1 r1)), (2, .int x2), (3, .int x3)]) g dX4_goOn_18 rfl rfl ?_
  refine r_aload_n (pc := 20) 1 g dX4_goOn_20 rfl ?_
  refine r_getr (pc := 21) (μ := μ2) g dX4_goOn_21 fa_RX4_22 shX_out sX_53 rfl ?_
  refine r_getr (pc := 24) (μ := μ2) g dX4_goOn_24 fa_RX4_51 shX_out sX_33 rfl ?_
  refine r_iload_n (pc := 27) 3 g dX4_goOn_27 rfl ?_
  refine r_iconst (pc := 28) g dX4_goOn_28 ci_1 ?_
  refine r_isub (pc := 29) g dX4_goOn_29 ?_
  obtain ⟨b6, h⟩ := h
  refine r_iaload (pc := 30) (μ := μ2) g dX4_goOn_30 shX_out sX_34 b6 ?_
  refine r_iload (pc := 31) 0 g dX4_goOn_31 rfl ?_
  refine r_iconst (pc := 33) g dX4_goOn_33 ci_m1 ?_
  refine r_ixor (pc := 34) g dX4_goOn_34 ?_
  refine r_iand (pc := 35) g dX4_goOn_35 ?_
  refine r_istore (pc := 36) (lv' := [(5, .int ((μ2 34 (x2 - 1).toNatClampNeg) &&& ((μ2 14 (μ2 r1 (x2 - 1).toNatClampNeg).toNatClampNeg) ^^^ (-1)))), (4, .int (μ2 14 (μ2 r1 (x2 - 1).toNatClampNeg).toNatClampNeg)), (0, .ref (w.1 53)), (1, .ref (w.1 r1)), (2, .int x2), (3, .int x3)]) g dX4_goOn_36 rfl rfl ?_
  refine r_iload (pc := 38) 0 g dX4_goOn_38 rfl ?_
  refine r_aload_n (pc := 40) 2 g dX4_goOn_40 rfl ?_
  refine r_getr (pc := 41) (μ := μ2) g dX4_goOn_41 fa_RX4_18 shX_out sX_53 rfl ?_
  refine r_getr (pc := 44) (μ := μ2) g dX4_goOn_44 fa_RX4_54 shX_out sX_13 rfl ?_
  refine r_aload_n (pc := 47) 3 g dX4_goOn_47 rfl ?_
  refine r_iload_n (pc := 48) 4 g dX4_goOn_48 rfl ?_
  obtain ⟨b7, h⟩ := h
  refine r_iaload (pc := 49) (μ := μ2) g dX4_goOn_49 shX_out z3 b7 ?_
  obtain ⟨b8, h⟩ := h
  refine r_iaload (pc := 50) (μ := μ2) g dX4_goOn_50 shX_out sX_14 b8 ?_
  refine r_iand (pc := 51) g dX4_goOn_51 ?_
  refine r_istore (pc := 52) (lv' := [(6, .int (((μ2 34 (x2 - 1).toNatClampNeg) &&& ((μ2 14 (μ2 r1 (x2 - 1).toNatClampNeg).toNatClampNeg) ^^^ (-1))) &&& (μ2 14 (μ2 r1 x2.toNatClampNeg).toNatClampNeg))), (5, .int ((μ2 34 (x2 - 1).toNatClampNeg) &&& ((μ2 14 (μ2 r1 (x2 - 1).toNatClampNeg).toNatClampNeg) ^^^ (-1)))), (4, .int (μ2 14 (μ2 r1 (x2 - 1).toNatClampNeg).toNatClampNeg)), (0, .ref (w.1 53)), (1, .ref (w.1 r1)), (2, .int x2), (3, .int x3)]) g dX4_goOn_52 rfl rfl ?_
  refine r_iload (pc := 54) 1 g dX4_goOn_54 rfl ?_
  refine r_istore (pc := 56) (lv' := [(7, .int ((μ2 34 (x2 - 1).toNatClampNeg) &&& ((μ2 14 (μ2 r1 (x2 - 1).toNatClampNeg).toNatClampNeg) ^^^ (-1)))), (6, .int (((μ2 34 (x2 - 1).toNatClampNeg) &&& ((μ2 14 (μ2 r1 (x2 - 1).toNatClampNeg).toNatClampNeg) ^^^ (-1))) &&& (μ2 14 (μ2 r1 x2.toNatClampNeg).toNatClampNeg))), (5, .int ((μ2 34 (x2 - 1).toNatClampNeg) &&& ((μ2 14 (μ2 r1 (x2 - 1).toNatClampNeg).toNatClampNeg) ^^^ (-1)))), (4, .int (μ2 14 (μ2 r1 (x2 - 1).toNatClampNeg).toNatClampNeg)), (0, .ref (w.1 53)), (1, .ref (w.1 r1)), (2, .int x2), (3, .int x3)]) g dX4_goOn_56 rfl rfl ?_
  refine r_iconst (pc := 58) g dX4_goOn_58 ci_1 ?_
  refine r_iload (pc := 59) 2 g dX4_goOn_59 rfl ?_
  refine r_callSi (pc := 61) (st := [.int 1]) g hX dX4_goOn_61 (m_J6_bitCount_0f7a4 ((μ2 34 (x2 - 1).toNatClampNeg) &&& ((μ2 14 (μ2 r1 (x2 - 1).toNatClampNeg).toNatClampNeg) ^^^ (-1))) μ2 _ h) kb_RX4_79 k_174 rfl rfl rfl rfl (fun u9 μ10 h => ?_)
  refine r_ishl (pc := 64) g dX4_goOn_64 ?_
  refine r_istore (pc := 65) (lv' := [(8, .int ((1 : Int32) <<< (u9 &&& 31))), (7, .int ((μ2 34 (x2 - 1).toNatClampNeg) &&& ((μ2 14 (μ2 r1 (x2 - 1).toNatClampNeg).toNatClampNeg) ^^^ (-1)))), (6, .int (((μ2 34 (x2 - 1).toNatClampNeg) &&& ((μ2 14 (μ2 r1 (x2 - 1).toNatClampNeg).toNatClampNeg) ^^^ (-1))) &&& (μ2 14 (μ2 r1 x2.toNatClampNeg).toNatClampNeg))), (5, .int ((μ2 34 (x2 - 1).toNatClampNeg) &&& ((μ2 14 (μ2 r1 (x2 - 1).toNatClampNeg).toNatClampNeg) ^^^ (-1)))), (4, .int (μ2 14 (μ2 r1 (x2 - 1).toNatClampNeg).toNatClampNeg)), (0, .ref (w.1 53)), (1, .ref (w.1 r1)), (2, .int x2), (3, .int x3)]) g dX4_goOn_65 rfl rfl ?_
  refine r_sub [5, 8, 4, 3, 2, 1, 0] (lv' := [(0, .ref (w.1 53)), (3, .int x3), (4, .int (μ2 14 (μ2 r1 (x2 - 1).toNatClampNeg).toNatClampNeg)), (5, .int ((μ2 34 (x2 - 1).toNatClampNeg) &&& ((μ2 14 (μ2 r1 (x2 - 1).toNatClampNeg).toNatClampNeg) ^^^ (-1)))), (6, .int (((μ2 34 (x2 - 1).toNatClampNeg) &&& ((μ2 14 (μ2 r1 (x2 - 1).toNatClampNeg).toNatClampNeg) ^^^ (-1))) &&& (μ2 14 (μ2 r1 x2.toNatClampNeg).toNatClampNeg))), (7, .int ((μ2 34 (x2 - 1).toNatClampNeg) &&& ((μ2 14 (μ2 r1 (x2 - 1).toNatClampNeg).toNatClampNeg) ^^^ (-1)))), (8, .int ((1 : Int32) <<< (u9 &&& 31)))]) rfl ?_
  exact v_X4_goOn_67 r1 g hX post hR x3 (μ2 14 (μ2 r1 (x2 - 1).toNatClampNeg).toNatClampNeg) ((μ2 34 (x2 - 1).toNatClampNeg) &&& ((μ2 14 (μ2 r1 (x2 - 1).toNatClampNeg).toNatClampNeg) ^^^ (-1))) (((μ2 34 (x2 - 1).toNatClampNeg) &&& ((μ2 14 (μ2 r1 (x2 - 1).toNatClampNeg).toNatClampNeg) ^^^ (-1))) &&& (μ2 14 (μ2 r1 x2.toNatClampNeg).toNatClampNeg)) ((μ2 34 (x2 - 1).toNatClampNeg) &&& ((μ2 14 (μ2 r1 (x2 - 1).toNatClampNeg).toNatClampNeg) ^^^ (-1))) ((1 : Int32) <<< (u9 &&& 31)) μ10 h
abbrev rm_X4_leastPrice : Room := { frames := 3, cells := 0, slots := 0, locals := 72 }
def B_X4_leastPrice_9 (r1 : Nat) (post : Int32 → Mem → Prop) (P9 : Int32 → Int32 → Mem → Prop) (x2 : Int32) (x3 : Int32) (μ : Mem) : Prop :=
  (((μ 13 4) ≤ x3 → shX ((μ 53 2).toNatClampNeg) = .inl 1024 ∧ vp_in 0 1024 ∧ post (μ ((μ 53 2).toNatClampNeg) (0 : Int32).toNatClampNeg) μ) ∧ (¬ (μ 13 4) ≤ x3 → vp_in x3 9 ∧ shX r1 = .inl 9 ∧ vp_in x3 9 ∧ vp_in (μ r1 x3.toNatClampNeg) 9 ∧ T_X4_goOn r1 x3 ((μ 34 x3.toNatClampNeg) &&& ((μ 14 (μ r1 x3.toNatClampNeg).toNatClampNeg) ^^^ (-1))) μ (fun (μ8 : Mem) => vp_in x3 9 ∧ vp_in (μ8 r1 x3.toNatClampNeg) 9 ∧ T_X5_sum 16 (μ8 14 (μ8 r1 x3.toNatClampNeg).toNatClampNeg) μ8 (fun (u11 : Int32) (μ12 : Mem) => T_X4_closeSome ((μ 34 x3.toNatClampNeg) &&& ((μ 14 (μ r1 x3.toNatClampNeg).toNatClampNeg) ^^^ (-1))) (x2 - u11) μ12 (fun (μ14 : Mem) => P9 x2 (x3 + 1) (mset (mset μ14 53 2 (μ14 53 3)) 53 3 (μ14 53 2)))))))
def T_X4_leastPrice_9 (r1 : Nat) (post : Int32 → Mem → Prop) (x2 : Int32) (x3 : Int32) (μ : Mem) : Prop :=
  ∀ P9 : Int32 → Int32 → Mem → Prop, (∀ (x2 : Int32) (x3 : Int32) (μ : Mem), B_X4_leastPrice_9 r1 post P9 x2 x3 μ → P9 x2 x3 μ) → P9 x2 x3 μ
theorem bv_X4_leastPrice_9 {X : Cx} {w : Wd} {l : Launch} {D : va_G} {A : Nat → Prop} (r1 : Nat) (g : Gd X w RX4 cX4_leastPrice 6 rm_X4_leastPrice) (hX : atX X l D A) (post : Int32 → Mem → Prop) (hR : Rt X w shX 58 (some .int) (pI post)) (P9 : Int32 → Int32 → Mem → Prop) (hP9 : ∀ (x2 : Int32) (x3 : Int32) (μ : Mem), P9 x2 x3 μ → V X 9 [(0, .ref (w.1 53)), (1, .ref (w.1 r1)), (2, .int x2), (3, .int x3)] [] (wls w shX 58 μ)) (x2 : Int32) (x3 : Int32) (μ : Mem) (h : B_X4_leastPrice_9 r1 post P9 x2 x3 μ) : V X 9 [(0, .ref (w.1 53)), (1, .ref (w.1 r1)), (2, .int x2), (3, .int x3)] [] (wls w shX 58 μ) := by
  refine r_iload_n (pc := 9) 3 g dX4_leastPrice_9 rfl ?_
  refine r_aload_n (pc := 10) 0 g dX4_leastPrice_10 rfl ?_
  refine r_getr (pc := 11) (μ := μ) g dX4_leastPrice_11 fa_RX4_18 shX_out sX_53 rfl ?_
  refine r_geti (pc := 14) (μ := μ) g dX4_leastPrice_14 fa_RX4_48 shX_out sX_13 rfl ?_
  refine r_icmp_ge (pc := 17) 108 g dX4_leastPrice_17 rfl (fun q => ?_) (fun q => ?_)
  · have h := h.1 q
    refine r_aload_n (pc := 108) 0 g dX4_leastPrice_108 rfl ?_
    refine r_getd (pc := 109) (μ := μ) g dX4_leastPrice_109 fa_RX4_9 shX_out sX_53 rfl ?_
    refine r_iconst (pc := 112) g dX4_leastPrice_112 ci_0 ?_
    obtain ⟨z1, h⟩ := h
    obtain ⟨b2, h⟩ := h
    refine r_iaload (pc := 113) (μ := μ) g dX4_leastPrice_113 shX_out z1 b2 ?_
    exact r_ireti (pc := 114) g hR dX4_leastPrice_114 h
  · have h := h.2 q
    refine r_aload_n (pc := 20) 0 g dX4_leastPrice_20 rfl ?_
    refine r_getr (pc := 21) (μ := μ) g dX4_leastPrice_21 fa_RX4_22 shX_out sX_53 rfl ?_
    refine r_getr (pc := 24) (μ := μ) g dX4_leastPrice_24 fa_RX4_51 shX_out sX_33 rfl ?_
    refine r_iload_n (pc := 27) 3 g dX4_leastPrice_27 rfl ?_
    obtain ⟨b3, h⟩ := h
    refine r_iaload (pc := 28) (μ := μ) g dX4_leastPrice_28 shX_out sX_34 b3 ?_
    refine r_aload_n (pc := 29) 0 g dX4_leastPrice_29 rfl ?_
    refine r_getr (pc := 30) (μ := μ) g dX4_leastPrice_30 fa_RX4_18 shX_out sX_53 rfl ?_
    refine r_getr (pc := 33) (μ := μ) g dX4_leastPrice_33 fa_RX4_54 shX_out sX_13 rfl ?_
    refine r_aload_n (pc := 36) 1 g dX4_leastPrice_36 rfl ?_
    refine r_iload_n (pc := 37) 3 g dX4_leastPrice_37 rfl ?_
    obtain ⟨z4, h⟩ := h
    obtain ⟨b5, h⟩ := h
    refine r_iaload (pc := 38) (μ := μ) g dX4_leastPrice_38 shX_out z4 b5 ?_
    obtain ⟨b6, h⟩ := h
    refine r_iaload (pc := 39) (μ := μ) g dX4_leastPrice_39 shX_out sX_14 b6 ?_
    refine r_iconst (pc := 40) g dX4_leastPrice_40 ci_m1 ?_
    refine r_ixor (pc := 41) g dX4_leastPrice_41 ?_
    refine r_iand (pc := 42) g dX4_leastPrice_42 ?_
    refine r_istore (pc := 43) (lv' := [(4, .int ((μ 34 x3.toNatClampNeg) &&& ((μ 14 (μ r1 x3.toNatClampNeg).toNatClampNeg) ^^^ (-1)))), (0, .ref (w.1 53)), (1, .ref (w.1 r1)), (2, .int x2), (3, .int x3)]) g dX4_leastPrice_43 rfl rfl ?_
    refine r_aload_n (pc := 45) 1 g dX4_leastPrice_45 rfl ?_
    refine r_aload_n (pc := 46) 2 g dX4_leastPrice_46 rfl ?_
    refine r_iload_n (pc := 47) 4 g dX4_leastPrice_47 rfl ?_
    refine r_iload (pc := 48) 0 g dX4_leastPrice_48 rfl ?_
    refine r_callVv (pc := 50) (st := []) g hX dX4_leastPrice_50 (m_X4_goOn r1 x3 ((μ 34 x3.toNatClampNeg) &&& ((μ 14 (μ r1 x3.toNatClampNeg).toNatClampNeg) ^^^ (-1))) μ _ h) kb_RX4_57 kv_X4_goOn shX_out sX_53 rfl rfl rfl rfl (fun μ8 h => ?_)
    refine r_aload_n (pc := 53) 1 g dX4_leastPrice_53 rfl ?_
    refine r_iload (pc := 54) 0 g dX4_leastPrice_54 rfl ?_
    refine r_iload_n (pc := 56) 3 g dX4_leastPrice_56 rfl ?_
    refine r_aload_n (pc := 57) 1 g dX4_leastPrice_57 rfl ?_
    refine r_getr (pc := 58) (μ := μ8) g dX4_leastPrice_58 fa_RX4_18 shX_out sX_53 rfl ?_
    refine r_getr (pc := 61) (μ := μ8) g dX4_leastPrice_61 fa_RX4_61 shX_out sX_13 rfl ?_
    refine r_aload_n (pc := 64) 1 g dX4_leastPrice_64 rfl ?_
    refine r_getr (pc := 65) (μ := μ8) g dX4_leastPrice_65 fa_RX4_18 shX_out sX_53 rfl ?_
    refine r_getr (pc := 68) (μ := μ8) g dX4_leastPrice_68 fa_RX4_54 shX_out sX_13 rfl ?_
    refine r_aload_n (pc := 71) 2 g dX4_leastPrice_71 rfl ?_
    refine r_iload_n (pc := 72) 4 g dX4_leastPrice_72 rfl ?_
    obtain ⟨b9, h⟩ := h
    refine r_iaload (pc := 73) (μ := μ8) g dX4_leastPrice_73 shX_out z4 b9 ?_
    obtain ⟨b10, h⟩ := h
    refine r_iaload (pc := 74) (μ := μ8) g dX4_leastPrice_74 shX_out sX_14 b10 ?_
    refine r_callVi (pc := 75) (st := [.int x2, .int ((μ 34 x3.toNatClampNeg) &&& ((μ 14 (μ r1 x3.toNatClampNeg).toNatClampNeg) ^^^ (-1))), .ref (w.1 53)]) g hX dX4_leastPrice_75 (m_X5_sum 16 (Or.inl rfl) (μ8 14 (μ8 r1 x3.toNatClampNeg).toNatClampNeg) μ8 _ h) kb_RX4_65 kv_X5_sum shX_out (sc_0 (Or.inl rfl)) rfl rfl rfl rfl (fun u11 μ12 h => ?_)
    refine r_isub (pc := 78) g dX4_leastPrice_78 ?_
    refine r_callVv (pc := 79) (st := []) g hX dX4_leastPrice_79 (m_X4_closeSome ((μ 34 x3.toNatClampNeg) &&& ((μ 14 (μ r1 x3.toNatClampNeg).toNatClampNeg) ^^^ (-1))) (x2 - u11) μ12 _ h) kb_RX4_71 kv_X4_closeSome shX_out sX_53 rfl rfl rfl rfl (fun μ14 h => ?_)
    refine r_aload_n (pc := 82) 1 g dX4_leastPrice_82 rfl ?_
    refine r_getd (pc := 83) (μ := μ14) g dX4_leastPrice_83 fa_RX4_9 shX_out sX_53 rfl ?_
    refine r_astore (pc := 86) (lv' := [(5, .ref (w.1 ((μ14 53 2).toNatClampNeg))), (4, .int ((μ 34 x3.toNatClampNeg) &&& ((μ 14 (μ r1 x3.toNatClampNeg).toNatClampNeg) ^^^ (-1)))), (0, .ref (w.1 53)), (1, .ref (w.1 r1)), (2, .int x2), (3, .int x3)]) g dX4_leastPrice_86 rfl rfl ?_
    refine r_aload_n (pc := 88) 2 g dX4_leastPrice_88 rfl ?_
    refine r_aload_n (pc := 89) 2 g dX4_leastPrice_89 rfl ?_
    refine r_getd (pc := 90) (μ := μ14) g dX4_leastPrice_90 fa_RX4_15 shX_out sX_53 rfl ?_
    refine r_putd (pc := 93) (μ := μ14) (x := μ14 53 3) g dX4_leastPrice_93 fp_RX4_9 shX_out sX_53 rfl ?_
    refine r_aload_n (pc := 96) 2 g dX4_leastPrice_96 rfl ?_
    refine r_aload (pc := 97) 0 g dX4_leastPrice_97 rfl ?_
    refine r_putd (pc := 99) (μ := mset μ14 53 2 (μ14 53 3)) (x := μ14 53 2) g dX4_leastPrice_99 fp_RX4_15 shX_out sX_53 rfl ?_
    refine r_iinc (pc := 102) (lv' := [(3, .int (x3 + 1)), (5, .ref (w.1 ((μ14 53 2).toNatClampNeg))), (4, .int ((μ 34 x3.toNatClampNeg) &&& ((μ 14 (μ r1 x3.toNatClampNeg).toNatClampNeg) ^^^ (-1)))), (0, .ref (w.1 53)), (1, .ref (w.1 r1)), (2, .int x2)]) 5 g dX4_leastPrice_102 rfl ci_1 rfl rfl ?_
    refine r_goto (pc := 105) 9 g dX4_leastPrice_105 rfl ?_
    refine r_sub [3, 4, 5, 0] (lv' := [(0, .ref (w.1 53)), (1, .ref (w.1 r1)), (2, .int x2), (3, .int (x3 + 1))]) rfl ?_
    exact hP9 x2 (x3 + 1) (mset (mset μ14 53 2 (μ14 53 3)) 53 3 (μ14 53 2)) h
theorem v_X4_leastPrice_9 {X : Cx} {w : Wd} {l : Launch} {D : va_G} {A : Nat → Prop} (r1 : Nat) (g : Gd X w RX4 cX4_leastPrice 6 rm_X4_leastPrice) (hX : atX X l D A) (post : Int32 → Mem → Prop) (hR : Rt X w shX 58 (some .int) (pI post)) (x2 : Int32) (x3 : Int32) (μ : Mem) (h : T_X4_leastPrice_9 r1 post x2 x3 μ) : V X 9 [(0, .ref (w.1 53)), (1, .ref (w.1 r1)), (2, .int x2), (3, .int x3)] [] (wls w shX 58 μ) :=
  h (fun x2 x3 μ => V X 9 [(0, .ref (w.1 53)), (1, .ref (w.1 r1)), (2, .int x2), (3, .int x3)] [] (wls w shX 58 μ)) (fun x2 x3 μ h => bv_X4_leastPrice_9 r1 g hX post hR (fun x2 x3 μ => V X 9 [(0, .ref (w.1 53)), (1, .ref (w.1 r1)), (2, .int x2), (3, .int x3)] [] (wls w shX 58 μ)) (fun _ _ _ h => h) x2 x3 μ h)
def T_X4_leastPrice (r1 : Nat) (x2 : Int32) (μ : Mem) (post : Int32 → Mem → Prop) : Prop :=
  shX ((μ 53 2).toNatClampNeg) = .inl 1024 ∧ vp_in 0 1024 ∧ T_X4_leastPrice_9 r1 post x2 1 (mset μ ((μ 53 2).toNatClampNeg) (0 : Int32).toNatClampNeg 0)
theorem m_X4_leastPrice {w : Wd} {l : Launch} {D : va_G} {A : Nat → Prop} (r1 : Nat) (x2 : Int32) (μ : Mem) (post : Int32 → Mem → Prop) (h : T_X4_leastPrice r1 x2 μ post) : MetX l D A w shX 58 yX4_leastPrice cX4_leastPrice 6 (some .int) rm_X4_leastPrice [.ref (w.1 53), .ref (w.1 r1), .int x2] μ (pI post) := by
  refine metX_of (by decide) rfl (lv := [(0, .ref (w.1 53)), (1, .ref (w.1 r1)), (2, .int x2)]) rfl (fun X hX g hR => ?_)
  refine r_aload_n (pc := 0) 0 g dX4_leastPrice_0 rfl ?_
  refine r_getd (pc := 1) (μ := μ) g dX4_leastPrice_1 fa_RX4_9 shX_out sX_53 rfl ?_
  refine r_iconst (pc := 4) g dX4_leastPrice_4 ci_0 ?_
  refine r_iconst (pc := 5) g dX4_leastPrice_5 ci_0 ?_
  obtain ⟨z1, h⟩ := h
  obtain ⟨b2, h⟩ := h
  refine r_iastore (pc := 6) (μ := μ) g dX4_leastPrice_6 shX_out z1 b2 ?_
  refine r_iconst (pc := 7) g dX4_leastPrice_7 ci_1 ?_
  refine r_istore_n (pc := 8) (lv' := [(3, .int 1), (0, .ref (w.1 53)), (1, .ref (w.1 r1)), (2, .int x2)]) g dX4_leastPrice_8 rfl rfl ?_
  refine r_sub [1, 2, 3, 0] (lv' := [(0, .ref (w.1 53)), (1, .ref (w.1 r1)), (2, .int x2), (3, .int 1)]) rfl ?_
  exact v_X4_leastPrice_9 r1 g hX post hR x2 1 (mset μ ((μ 53 2).toNatClampNeg) (0 : Int32).toNatClampNeg 0) h
abbrev rm_X4_leastRoom : Room := { frames := 4, cells := 0, slots := 0, locals := 97 }
def B_X4_leastRoom_21 (r1 : Nat) (post : Int32 → Mem → Prop) (P21 : Int32 → Int32 → Int32 → Mem → Prop) (x2 : Int32) (x3 : Int32) (x4 : Int32) (μ : Mem) : Prop :=
  ((x4 ≤ x3 → post x3 μ) ∧ (¬ x4 ≤ x3 → T_X4_leastPrice r1 ((x3 + x4) / 2) μ (fun (u1 : Int32) (μ2 : Mem) => ((x2 < u1 → P21 x2 (((x3 + x4) / 2) + 1) x4 μ2) ∧ (¬ x2 < u1 → P21 x2 x3 ((x3 + x4) / 2) μ2)))))
def T_X4_leastRoom_21 (r1 : Nat) (post : Int32 → Mem → Prop) (x2 : Int32) (x3 : Int32) (x4 : Int32) (μ : Mem) : Prop :=
  ∀ P21 : Int32 → Int32 → Int32 → Mem → Prop, (∀ (x2 : Int32) (x3 : Int32) (x4 : Int32) (μ : Mem), B_X4_leastRoom_21 r1 post P21 x2 x3 x4 μ → P21 x2 x3 x4 μ) → P21 x2 x3 x4 μ
theorem bv_X4_leastRoom_21 {X : Cx} {w : Wd} {l : Launch} {D : va_G} {A : Nat → Prop} (r1 : Nat) (g : Gd X w RX4 cX4_leastRoom 6 rm_X4_leastRoom) (hX : atX X l D A) (post : Int32 → Mem → Prop) (hR : Rt X w shX 58 (some .int) (pI post)) (P21 : Int32 → Int32 → Int32 → Mem → Prop) (hP21 : ∀ (x2 : Int32) (x3 : Int32) (x4 : Int32) (μ : Mem), P21 x2 x3 x4 μ → V X 21 [(0, .ref (w.1 53)), (1, .ref (w.1 r1)), (2, .int x2), (3, .int x3), (4, .int x4)] [] (wls w shX 58 μ)) (x2 : Int32) (x3 : Int32) (x4 : Int32) (μ : Mem) (h : B_X4_leastRoom_21 r1 post P21 x2 x3 x4 μ) : V X 21 [(0, .ref (w.1 53)), (1, .ref (w.1 r1)), (2, .int x2), (3, .int x3), (4, .int x4)] [] (wls w shX 58 μ) := by
  refine r_iload_n (pc := 21) 3 g dX4_leastRoom_21 rfl ?_
  refine r_iload (pc := 22) 4 g dX4_leastRoom_22 rfl ?_
  refine r_icmp_ge (pc := 24) 61 g dX4_leastRoom_24 rfl (fun q => ?_) (fun q => ?_)
  · have h := h.1 q
    refine r_iload_n (pc := 61) 3 g dX4_leastRoom_61 rfl ?_
    exact r_ireti (pc := 62) g hR dX4_leastRoom_62 h
  · have h := h.2 q
    refine r_iload_n (pc := 27) 3 g dX4_leastRoom_27 rfl ?_
    refine r_iload (pc := 28) 4 g dX4_leastRoom_28 rfl ?_
    refine r_iadd (pc := 30) g dX4_leastRoom_30 ?_
    refine r_iconst (pc := 31) g dX4_leastRoom_31 ci_2 ?_
    refine r_idiv (pc := 32) g dX4_leastRoom_32 (by decide) ?_
    refine r_istore (pc := 33) (lv' := [(5, .int ((x3 + x4) / 2)), (0, .ref (w.1 53)), (1, .ref (w.1 r1)), (2, .int x2), (3, .int x3), (4, .int x4)]) g dX4_leastRoom_33 rfl rfl ?_
    refine r_aload_n (pc := 35) 1 g dX4_leastRoom_35 rfl ?_
    refine r_aload_n (pc := 36) 2 g dX4_leastRoom_36 rfl ?_
    refine r_iload (pc := 37) 0 g dX4_leastRoom_37 rfl ?_
    refine r_callVi (pc := 39) (st := []) g hX dX4_leastRoom_39 (m_X4_leastPrice r1 ((x3 + x4) / 2) μ _ h) kb_RX4_44 kv_X4_leastPrice shX_out sX_53 rfl rfl rfl rfl (fun u1 μ2 h => ?_)
    refine r_iload_n (pc := 42) 3 g dX4_leastRoom_42 rfl ?_
    refine r_icmp_gt (pc := 43) 53 g dX4_leastRoom_43 rfl (fun q => ?_) (fun q => ?_)
    · have h := h.1 q
      refine r_iload (pc := 53) 0 g dX4_leastRoom_53 rfl ?_
      refine r_iconst (pc := 55) g dX4_leastRoom_55 ci_1 ?_
      refine r_iadd (pc := 56) g dX4_leastRoom_56 ?_
      refine r_istore_n (pc := 57) (lv' := [(3, .int (((x3 + x4) / 2) + 1)), (5, .int ((x3 + x4) / 2)), (0, .ref (w.1 53)), (1, .ref (w.1 r1)), (2, .int x2), (4, .int x4)]) g dX4_leastRoom_57 rfl rfl ?_
      refine r_goto (pc := 58) 21 g dX4_leastRoom_58 rfl ?_
      refine r_sub [2, 3, 4, 0, 5] (lv' := [(0, .ref (w.1 53)), (1, .ref (w.1 r1)), (2, .int x2), (3, .int (((x3 + x4) / 2) + 1)), (4, .int x4)]) rfl ?_
      exact hP21 x2 (((x3 + x4) / 2) + 1) x4 μ2 h
    · have h := h.2 q
      refine r_iload (pc := 46) 0 g dX4_leastRoom_46 rfl ?_
      refine r_istore (pc := 48) (lv' := [(4, .int ((x3 + x4) / 2)), (5, .int ((x3 + x4) / 2)), (0, .ref (w.1 53)), (1, .ref (w.1 r1)), (2, .int x2), (3, .int x3)]) g dX4_leastRoom_48 rfl rfl ?_
      refine r_goto (pc := 50) 58 g dX4_leastRoom_50 rfl ?_
      refine r_goto (pc := 58) 21 g dX4_leastRoom_58 rfl ?_
      refine r_sub [2, 3, 4, 5, 0] (lv' := [(0, .ref (w.1 53)), (1, .ref (w.1 r1)), (2, .int x2), (3, .int x3), (4, .int ((x3 + x4) / 2))]) rfl ?_
      exact hP21 x2 x3 ((x3 + x4) / 2) μ2 h
theorem v_X4_leastRoom_21 {X : Cx} {w : Wd} {l : Launch} {D : va_G} {A : Nat → Prop} (r1 : Nat) (g : Gd X w RX4 cX4_leastRoom 6 rm_X4_leastRoom) (hX : atX X l D A) (post : Int32 → Mem → Prop) (hR : Rt X w shX 58 (some .int) (pI post)) (x2 : Int32) (x3 : Int32) (x4 : Int32) (μ : Mem) (h : T_X4_leastRoom_21 r1 post x2 x3 x4 μ) : V X 21 [(0, .ref (w.1 53)), (1, .ref (w.1 r1)), (2, .int x2), (3, .int x3), (4, .int x4)] [] (wls w shX 58 μ) :=
  h (fun x2 x3 x4 μ => V X 21 [(0, .ref (w.1 53)), (1, .ref (w.1 r1)), (2, .int x2), (3, .int x3), (4, .int x4)] [] (wls w shX 58 μ)) (fun x2 x3 x4 μ h => bv_X4_leastRoom_21 r1 g hX post hR (fun x2 x3 x4 μ => V X 21 [(0, .ref (w.1 53)), (1, .ref (w.1 r1)), (2, .int x2), (3, .int x3), (4, .int x4)] [] (wls w shX 58 μ)) (fun _ _ _ _ h => h) x2 x3 x4 μ h)
def T_X4_leastRoom (r1 : Nat) (x2 : Int32) (μ : Mem) (post : Int32 → Mem → Prop) : Prop :=
  T_X10_greatestNeed μ (fun (u1 : Int32) (μ2 : Mem) => T_X4_leastRoom_21 r1 post x2 u1 (if u1 < (μ2 33 1) then (μ2 33 1) else u1) μ2)
theorem m_X4_leastRoom {w : Wd} {l : Launch} {D : va_G} {A : Nat → Prop} (r1 : Nat) (x2 : Int32) (μ : Mem) (post : Int32 → Mem → Prop) (h : T_X4_leastRoom r1 x2 μ post) : MetX l D A w shX 58 yX4_leastRoom cX4_leastRoom 6 (some .int) rm_X4_leastRoom [.ref (w.1 53), .ref (w.1 r1), .int x2] μ (pI post) := by
  refine metX_of (by decide) rfl (lv := [(0, .ref (w.1 53)), (1, .ref (w.1 r1)), (2, .int x2)]) rfl (fun X hX g hR => ?_)
  refine r_aload_n (pc := 0) 0 g dX4_leastRoom_0 rfl ?_
  refine r_getr (pc := 1) (μ := μ) g dX4_leastRoom_1 fa_RX4_18 shX_out sX_53 rfl ?_
  refine r_callVi (pc := 4) (st := []) g hX dX4_leastRoom_4 (m_X10_greatestNeed μ _ h) kb_RX4_26 kv_X10_greatestNeed shX_out sX_13 rfl rfl rfl rfl (fun u1 μ2 h => ?_)
  refine r_istore_n (pc := 7) (lv' := [(3, .int u1), (0, .ref (w.1 53)), (1, .ref (w.1 r1)), (2, .int x2)]) g dX4_leastRoom_7 rfl rfl ?_
  refine r_iload_n (pc := 8) 0 g dX4_leastRoom_8 rfl ?_
  refine r_aload_n (pc := 9) 1 g dX4_leastRoom_9 rfl ?_
  refine r_getr (pc := 10) (μ := μ2) g dX4_leastRoom_10 fa_RX4_22 shX_out sX_53 rfl ?_
  refine r_geti (pc := 13) (μ := μ2) g dX4_leastRoom_13 fa_RX4_32 shX_out sX_33 rfl ?_
  refine r_max (pc := 16) g dX4_leastRoom_16 kj_RX4_38 ⟨rfl, rfl⟩ ?_
  refine r_istore (pc := 19) (lv' := [(4, .int (if u1 < (μ2 33 1) then (μ2 33 1) else u1)), (3, .int u1), (0, .ref (w.1 53)), (1, .ref (w.1 r1)), (2, .int x2)]) g dX4_leastRoom_19 rfl rfl ?_
  refine r_sub [2, 3, 4, 1, 0] (lv' := [(0, .ref (w.1 53)), (1, .ref (w.1 r1)), (2, .int x2), (3, .int u1), (4, .int (if u1 < (μ2 33 1) then (μ2 33 1) else u1))]) rfl ?_
  exact v_X4_leastRoom_21 r1 g hX post hR x2 u1 (if u1 < (μ2 33 1) then (μ2 33 1) else u1) μ2 h
abbrev rm_X5_change : Room := { frames := 1, cells := 0, slots := 0, locals := 21 }
def B_X5_change_36 (c : Nat) (post : Int32 → Mem → Prop) (P36 : Int32 → Int32 → Nat → Int32 → Int32 → Mem → Prop) (x2 : Int32) (x3 : Int32) (q4 : Nat) (x5 : Int32) (x6 : Int32) (μ : Mem) : Prop :=
  ((32 ≤ x6 → post x3 μ) ∧ (¬ 32 ≤ x6 → (((x6 &&& x5) = 0 → P36 x2 x3 q4 x5 (x6 + 1) μ) ∧ (¬ (x6 &&& x5) = 0 → shX q4 = .inl 32 ∧ vp_in x6 32 ∧ vp_in x6 32 ∧ P36 x2 x3 q4 x5 (x6 + 1) (mset μ q4 x6.toNatClampNeg ((μ q4 x6.toNatClampNeg) + (x2 - x3)))))))
def T_X5_change_36 (c : Nat) (post : Int32 → Mem → Prop) (x2 : Int32) (x3 : Int32) (q4 : Nat) (x5 : Int32) (x6 : Int32) (μ : Mem) : Prop :=
  ∀ P36 : Int32 → Int32 → Nat → Int32 → Int32 → Mem → Prop, (∀ (x2 : Int32) (x3 : Int32) (q4 : Nat) (x5 : Int32) (x6 : Int32) (μ : Mem), B_X5_change_36 c post P36 x2 x3 q4 x5 x6 μ → P36 x2 x3 q4 x5 x6 μ) → P36 x2 x3 q4 x5 x6 μ
theorem bv_X5_change_36 {X : Cx} {w : Wd} {l : Launch} {D : va_G} {A : Nat → Prop} (c : Nat) (hc : isScale c) (g : Gd X w RX5 cX5_change 7 rm_X5_change) (hX : atX X l D A) (post : Int32 → Mem → Prop) (hR : Rt X w shX 58 (some .int) (pI post)) (P36 : Int32 → Int32 → Nat → Int32 → Int32 → Mem → Prop) (hP36 : ∀ (x2 : Int32) (x3 : Int32) (q4 : Nat) (x5 : Int32) (x6 : Int32) (μ : Mem), P36 x2 x3 q4 x5 x6 μ → V X 36 [(2, .int x2), (3, .int x3), (4, .ref (w.1 q4)), (5, .int x5), (6, .int x6)] [] (wls w shX 58 μ)) (x2 : Int32) (x3 : Int32) (q4 : Nat) (x5 : Int32) (x6 : Int32) (μ : Mem) (h : B_X5_change_36 c post P36 x2 x3 q4 x5 x6 μ) : V X 36 [(2, .int x2), (3, .int x3), (4, .ref (w.1 q4)), (5, .int x5), (6, .int x6)] [] (wls w shX 58 μ) := by
  refine r_iload (pc := 36) 4 g dX5_change_36 rfl ?_
  refine r_bipush (pc := 38) g dX5_change_38 cb_32 ?_
  refine r_icmp_ge (pc := 40) 68 g dX5_change_40 rfl (fun q => ?_) (fun q => ?_)
  · have h := h.1 q
    refine r_iload_n (pc := 68) 1 g dX5_change_68 rfl ?_
    exact r_ireti (pc := 69) g hR dX5_change_69 h
  · have h := h.2 q
    refine r_iload (pc := 43) 4 g dX5_change_43 rfl ?_
    refine r_iload (pc := 45) 3 g dX5_change_45 rfl ?_
    refine r_iand (pc := 47) g dX5_change_47 ?_
    refine r_if_eq (pc := 48) 62 g dX5_change_48 rfl (fun q => ?_) (fun q => ?_)
    · have h := h.1 q
      refine r_iinc (pc := 62) (lv' := [(6, .int (x6 + 1)), (2, .int x2), (3, .int x3), (4, .ref (w.1 q4)), (5, .int x5)]) 4 g dX5_change_62 rfl ci_1 rfl rfl ?_
      refine r_goto (pc := 65) 36 g dX5_change_65 rfl ?_
      refine r_sub [1, 2, 3, 4, 0] (lv' := [(2, .int x2), (3, .int x3), (4, .ref (w.1 q4)), (5, .int x5), (6, .int (x6 + 1))]) rfl ?_
      exact hP36 x2 x3 q4 x5 (x6 + 1) μ h
    · have h := h.2 q
      refine r_aload (pc := 51) 2 g dX5_change_51 rfl ?_
      refine r_iload (pc := 53) 4 g dX5_change_53 rfl ?_
      refine r_dup2 (pc := 55) g dX5_change_55 rfl rfl ?_
      obtain ⟨z1, h⟩ := h
      obtain ⟨b2, h⟩ := h
      refine r_iaload (pc := 56) (μ := μ) g dX5_change_56 shX_out z1 b2 ?_
      refine r_iload_n (pc := 57) 0 g dX5_change_57 rfl ?_
      refine r_iload_n (pc := 58) 1 g dX5_change_58 rfl ?_
      refine r_isub (pc := 59) g dX5_change_59 ?_
      refine r_iadd (pc := 60) g dX5_change_60 ?_
      obtain ⟨b3, h⟩ := h
      refine r_iastore (pc := 61) (μ := μ) g dX5_change_61 shX_out z1 b3 ?_
      refine r_iinc (pc := 62) (lv' := [(6, .int (x6 + 1)), (2, .int x2), (3, .int x3), (4, .ref (w.1 q4)), (5, .int x5)]) 4 g dX5_change_62 rfl ci_1 rfl rfl ?_
      refine r_goto (pc := 65) 36 g dX5_change_65 rfl ?_
      refine r_sub [1, 2, 3, 4, 0] (lv' := [(2, .int x2), (3, .int x3), (4, .ref (w.1 q4)), (5, .int x5), (6, .int (x6 + 1))]) rfl ?_
      exact hP36 x2 x3 q4 x5 (x6 + 1) (mset μ q4 x6.toNatClampNeg ((μ q4 x6.toNatClampNeg) + (x2 - x3))) h
theorem v_X5_change_36 {X : Cx} {w : Wd} {l : Launch} {D : va_G} {A : Nat → Prop} (c : Nat) (hc : isScale c) (g : Gd X w RX5 cX5_change 7 rm_X5_change) (hX : atX X l D A) (post : Int32 → Mem → Prop) (hR : Rt X w shX 58 (some .int) (pI post)) (x2 : Int32) (x3 : Int32) (q4 : Nat) (x5 : Int32) (x6 : Int32) (μ : Mem) (h : T_X5_change_36 c post x2 x3 q4 x5 x6 μ) : V X 36 [(2, .int x2), (3, .int x3), (4, .ref (w.1 q4)), (5, .int x5), (6, .int x6)] [] (wls w shX 58 μ) :=
  h (fun x2 x3 q4 x5 x6 μ => V X 36 [(2, .int x2), (3, .int x3), (4, .ref (w.1 q4)), (5, .int x5), (6, .int x6)] [] (wls w shX 58 μ)) (fun x2 x3 q4 x5 x6 μ h => bv_X5_change_36 c hc g hX post hR (fun x2 x3 q4 x5 x6 μ => V X 36 [(2, .int x2), (3, .int x3), (4, .ref (w.1 q4)), (5, .int x5), (6, .int x6)] [] (wls w shX 58 μ)) (fun _ _ _ _ _ _ h => h) x2 x3 q4 x5 x6 μ h)
def T_X5_change_24 (c : Nat) (post : Int32 → Mem → Prop) (x1 : Int32) (x2 : Int32) (x3 : Int32) (t0 : Nat) (μ : Mem) : Prop :=
  T_X5_change_36 c post x2 x3 t0 ((1 : Int32) <<< ((x1 - x1 / 5 * 5) &&& 31)) 0 μ
theorem v_X5_change_24 {X : Cx} {w : Wd} {l : Launch} {D : va_G} {A : Nat → Prop} (c : Nat) (hc : isScale c) (g : Gd X w RX5 cX5_change 7 rm_X5_change) (hX : atX X l D A) (post : Int32 → Mem → Prop) (hR : Rt X w shX 58 (some .int) (pI post)) (x1 : Int32) (x2 : Int32) (x3 : Int32) (t0 : Nat) (μ : Mem) (h : T_X5_change_24 c post x1 x2 x3 t0 μ) : V X 24 [(1, .int x1), (2, .int x2), (3, .int x3)] [.ref (w.1 t0)] (wls w shX 58 μ) := by
  refine r_astore (pc := 24) (lv' := [(4, .ref (w.1 t0)), (1, .int x1), (2, .int x2), (3, .int x3)]) g dX5_change_24 rfl rfl ?_
  refine r_iconst (pc := 26) g dX5_change_26 ci_1 ?_
  refine r_iload_n (pc := 27) 1 g dX5_change_27 rfl ?_
  refine r_iconst (pc := 28) g dX5_change_28 ci_5 ?_
  refine r_irem (pc := 29) g dX5_change_29 (by decide) ?_
  refine r_ishl (pc := 30) g dX5_change_30 ?_
  refine r_istore (pc := 31) (lv' := [(5, .int ((1 : Int32) <<< ((x1 - x1 / 5 * 5) &&& 31))), (4, .ref (w.1 t0)), (1, .int x1), (2, .int x2), (3, .int x3)]) g dX5_change_31 rfl rfl ?_
  refine r_iconst (pc := 33) g dX5_change_33 ci_0 ?_
  refine r_istore (pc := 34) (lv' := [(6, .int 0), (5, .int ((1 : Int32) <<< ((x1 - x1 / 5 * 5) &&& 31))), (4, .ref (w.1 t0)), (1, .int x1), (2, .int x2), (3, .int x3)]) g dX5_change_34 rfl rfl ?_
  refine r_sub [4, 5, 2, 1, 0] (lv' := [(2, .int x2), (3, .int x3), (4, .ref (w.1 t0)), (5, .int ((1 : Int32) <<< ((x1 - x1 / 5 * 5) &&& 31))), (6, .int 0)]) rfl ?_
  exact v_X5_change_36 c hc g hX post hR x2 x3 t0 ((1 : Int32) <<< ((x1 - x1 / 5 * 5) &&& 31)) 0 μ h
def T_X5_change (c : Nat) (x1 : Int32) (x2 : Int32) (μ : Mem) (post : Int32 → Mem → Prop) : Prop :=
  T_X5_sum c ((1 : Int32) <<< (x1 &&& 31)) μ (fun (u1 : Int32) (μ2 : Mem) => ((5 ≤ x1 → T_X5_change_24 c post x1 x2 u1 (c + 2) μ2) ∧ (¬ 5 ≤ x1 → T_X5_change_24 c post x1 x2 u1 (c + 1) μ2)))
theorem m_X5_change {w : Wd} {l : Launch} {D : va_G} {A : Nat → Prop} (c : Nat) (hc : isScale c) (x1 : Int32) (x2 : Int32) (μ : Mem) (post : Int32 → Mem → Prop) (h : T_X5_change c x1 x2 μ post) : MetX l D A w shX 58 yX5_change cX5_change 7 (some .int) rm_X5_change [.ref (w.1 c), .int x1, .int x2] μ (pI post) := by
  refine metX_of (by decide) rfl (lv := [(0, .ref (w.1 c)), (1, .int x1), (2, .int x2)]) rfl (fun X hX g hR => ?_)
  refine r_aload_n (pc := 0) 0 g dX5_change_0 rfl ?_
  refine r_iconst (pc := 1) g dX5_change_1 ci_1 ?_
  refine r_iload_n (pc := 2) 1 g dX5_change_2 rfl ?_
  refine r_ishl (pc := 3) g dX5_change_3 ?_
  refine r_callVi (pc := 4) (st := []) g hX dX5_change_4 (m_X5_sum c hc ((1 : Int32) <<< (x1 &&& 31)) μ _ h) kb_RX5_22 kv_X5_sum shX_out (sc_0 hc) rfl rfl rfl rfl (fun u1 μ2 h => ?_)
  refine r_istore_n (pc := 7) (lv' := [(3, .int u1), (0, .ref (w.1 c)), (1, .int x1), (2, .int x2)]) g dX5_change_7 rfl rfl ?_
  refine r_iload_n (pc := 8) 2 g dX5_change_8 rfl ?_
  refine r_iconst (pc := 9) g dX5_change_9 ci_5 ?_
  refine r_icmp_ge (pc := 10) 20 g dX5_change_10 rfl (fun q => ?_) (fun q => ?_)
  · have h := h.1 q
    refine r_aload_n (pc := 20) 1 g dX5_change_20 rfl ?_
    refine r_getr (pc := 21) (μ := μ2) g dX5_change_21 fa_RX5_13 shX_out (sc_0 hc) rfl ?_
    refine r_sub [2, 3, 0] (lv' := [(1, .int x1), (2, .int x2), (3, .int u1)]) rfl ?_
    exact v_X5_change_24 c hc g hX post hR x1 x2 u1 (c + 2) μ2 h
  · have h := h.2 q
    refine r_aload_n (pc := 13) 1 g dX5_change_13 rfl ?_
    refine r_getr (pc := 14) (μ := μ2) g dX5_change_14 fa_RX5_9 shX_out (sc_0 hc) rfl ?_
    refine r_goto (pc := 17) 24 g dX5_change_17 rfl ?_
    refine r_sub [2, 3, 0] (lv' := [(1, .int x1), (2, .int x2), (3, .int u1)]) rfl ?_
    exact v_X5_change_24 c hc g hX post hR x1 x2 u1 (c + 1) μ2 h
abbrev rm_X6_mayCome : Room := { frames := 0, cells := 0, slots := 0, locals := 0 }
def T_X6_mayCome (c : Nat) (x1 : Int32) (x2 : Int32) (μ : Mem) (post : Int32 → Mem → Prop) : Prop :=
  ((¬ ((x2 >>> (x1 &&& 31)) &&& 1) = 0 → post 0 μ) ∧ (((x2 >>> (x1 &&& 31)) &&& 1) = 0 → vp_in x1 9 ∧ ((¬ ((μ (c + 2) x1.toNatClampNeg) &&& (x2 ^^^ (-1))) = 0 → post 0 μ) ∧ (((μ (c + 2) x1.toNatClampNeg) &&& (x2 ^^^ (-1))) = 0 → post 1 μ))))
theorem m_X6_mayCome {w : Wd} {l : Launch} {D : va_G} {A : Nat → Prop} (c : Nat) (hc : isSearch c) (x1 : Int32) (x2 : Int32) (μ : Mem) (post : Int32 → Mem → Prop) (h : T_X6_mayCome c x1 x2 μ post) : MetX l D A w shX 58 yX6_mayCome cX6_mayCome 3 (some .boolean) rm_X6_mayCome [.ref (w.1 c), .int x1, .int x2] μ (pI post) := by
  refine metX_of (by decide) rfl (lv := [(0, .ref (w.1 c)), (1, .int x1), (2, .int x2)]) rfl (fun X hX g hR => ?_)
  refine r_iload_n (pc := 0) 2 g dX6_mayCome_0 rfl ?_
  refine r_iload_n (pc := 1) 1 g dX6_mayCome_1 rfl ?_
  refine r_ishr (pc := 2) g dX6_mayCome_2 ?_
  refine r_iconst (pc := 3) g dX6_mayCome_3 ci_1 ?_
  refine r_iand (pc := 4) g dX6_mayCome_4 ?_
  refine r_if_ne (pc := 5) 25 g dX6_mayCome_5 rfl (fun q => ?_) (fun q => ?_)
  · have h := h.1 q
    refine r_iconst (pc := 25) g dX6_mayCome_25 ci_0 ?_
    exact r_zreti (pc := 26) g hR dX6_mayCome_26 (Or.inl rfl) h
  · have h := h.2 q
    refine r_aload_n (pc := 8) 0 g dX6_mayCome_8 rfl ?_
    refine r_getr (pc := 9) (μ := μ) g dX6_mayCome_9 fa_RX6_15 shX_out (sr_0 hc) rfl ?_
    refine r_iload_n (pc := 12) 1 g dX6_mayCome_12 rfl ?_
    obtain ⟨b1, h⟩ := h
    refine r_iaload (pc := 13) (μ := μ) g dX6_mayCome_13 shX_out (sr_2 hc) b1 ?_
    refine r_iload_n (pc := 14) 2 g dX6_mayCome_14 rfl ?_
    refine r_iconst (pc := 15) g dX6_mayCome_15 ci_m1 ?_
    refine r_ixor (pc := 16) g dX6_mayCome_16 ?_
    refine r_iand (pc := 17) g dX6_mayCome_17 ?_
    refine r_if_ne (pc := 18) 25 g dX6_mayCome_18 rfl (fun q => ?_) (fun q => ?_)
    · have h := h.1 q
      refine r_iconst (pc := 25) g dX6_mayCome_25 ci_0 ?_
      exact r_zreti (pc := 26) g hR dX6_mayCome_26 (Or.inl rfl) h
    · have h := h.2 q
      refine r_iconst (pc := 21) g dX6_mayCome_21 ci_1 ?_
      refine r_goto (pc := 22) 26 g dX6_mayCome_22 rfl ?_
      exact r_zreti (pc := 26) g hR dX6_mayCome_26 (Or.inr rfl) h
abbrev rm_X6_wide : Room := { frames := 1, cells := 0, slots := 0, locals := 21 }
def T_X6_wide (c : Nat) (x1 : Int32) (x2 : Int32) (μ : Mem) (post : Int32 → Mem → Prop) : Prop :=
  vp_in (x2 ||| ((1 : Int32) <<< (x1 &&& 31))) 512 ∧ vp_in ((μ c 7) &&& (x2 ^^^ (-1))) 512 ∧ T_X5_sum 16 ((μ (c + 3) (x2 ||| ((1 : Int32) <<< (x1 &&& 31))).toNatClampNeg) &&& (μ (c + 3) ((μ c 7) &&& (x2 ^^^ (-1))).toNatClampNeg)) μ (fun (u3 : Int32) (μ4 : Mem) => post u3 μ4)
theorem m_X6_wide {w : Wd} {l : Launch} {D : va_G} {A : Nat → Prop} (c : Nat) (hc : isSearch c) (x1 : Int32) (x2 : Int32) (μ : Mem) (post : Int32 → Mem → Prop) (h : T_X6_wide c x1 x2 μ post) : MetX l D A w shX 58 yX6_wide cX6_wide 3 (some .int) rm_X6_wide [.ref (w.1 c), .int x1, .int x2] μ (pI post) := by
  refine metX_of (by decide) rfl (lv := [(0, .ref (w.1 c)), (1, .int x1), (2, .int x2)]) rfl (fun X hX g hR => ?_)
  refine r_aload_n (pc := 0) 0 g dX6_wide_0 rfl ?_
  refine r_getr (pc := 1) (μ := μ) g dX6_wide_1 fa_RX6_31 shX_out (sr_0 hc) rfl ?_
  refine r_getr (pc := 4) (μ := μ) g dX6_wide_4 fa_RX6_76 shX_out sX_13 rfl ?_
  refine r_aload_n (pc := 7) 0 g dX6_wide_7 rfl ?_
  refine r_getr (pc := 8) (μ := μ) g dX6_wide_8 fa_RX6_18 shX_out (sr_0 hc) rfl ?_
  refine r_iload_n (pc := 11) 2 g dX6_wide_11 rfl ?_
  refine r_iconst (pc := 12) g dX6_wide_12 ci_1 ?_
  refine r_iload_n (pc := 13) 1 g dX6_wide_13 rfl ?_
  refine r_ishl (pc := 14) g dX6_wide_14 ?_
  refine r_ior (pc := 15) g dX6_wide_15 ?_
  obtain ⟨b1, h⟩ := h
  refine r_iaload (pc := 16) (μ := μ) g dX6_wide_16 shX_out (sr_3 hc) b1 ?_
  refine r_aload_n (pc := 17) 0 g dX6_wide_17 rfl ?_
  refine r_getr (pc := 18) (μ := μ) g dX6_wide_18 fa_RX6_18 shX_out (sr_0 hc) rfl ?_
  refine r_aload_n (pc := 21) 0 g dX6_wide_21 rfl ?_
  refine r_geti (pc := 22) (μ := μ) g dX6_wide_22 fa_RX6_70 shX_out (sr_0 hc) rfl ?_
  refine r_iload_n (pc := 25) 2 g dX6_wide_25 rfl ?_
  refine r_iconst (pc := 26) g dX6_wide_26 ci_m1 ?_
  refine r_ixor (pc := 27) g dX6_wide_27 ?_
  refine r_iand (pc := 28) g dX6_wide_28 ?_
  obtain ⟨b2, h⟩ := h
  refine r_iaload (pc := 29) (μ := μ) g dX6_wide_29 shX_out (sr_3 hc) b2 ?_
  refine r_iand (pc := 30) g dX6_wide_30 ?_
  refine r_callVi (pc := 31) (st := []) g hX dX6_wide_31 (m_X5_sum 16 (Or.inl rfl) ((μ (c + 3) (x2 ||| ((1 : Int32) <<< (x1 &&& 31))).toNatClampNeg) &&& (μ (c + 3) ((μ c 7) &&& (x2 ^^^ (-1))).toNatClampNeg)) μ _ h) kb_RX6_80 kv_X5_sum shX_out (sc_0 (Or.inl rfl)) rfl rfl rfl rfl (fun u3 μ4 h => ?_)
  exact r_ireti (pc := 34) g hR dX6_wide_34 h
abbrev rm_X6_fillLeast : Room := { frames := 2, cells := 0, slots := 0, locals := 43 }
def B_X6_fillLeast_26 (c : Nat) (post : Mem → Prop) (P17 : Int32 → Int32 → Mem → Prop) (P26 : Int32 → Int32 → Int32 → Int32 → Mem → Prop) (x1 : Int32) (x2 : Int32) (x3 : Int32) (x4 : Int32) (μ : Mem) : Prop :=
  (((μ c 6) ≤ x4 → vp_in x2 512 ∧ P17 x1 (x2 + (-1)) (mset μ (c + 4) x2.toNatClampNeg x3)) ∧ (¬ (μ c 6) ≤ x4 → T_X6_mayCome c x4 x2 μ (fun (u2 : Int32) (μ3 : Mem) => ((u2 = 0 → P26 x1 x2 x3 (x4 + 1) μ3) ∧ (¬ u2 = 0 → vp_in (x2 ||| ((1 : Int32) <<< (x4 &&& 31))) 512 ∧ ((x3 ≤ (μ3 (c + 4) (x2 ||| ((1 : Int32) <<< (x4 &&& 31))).toNatClampNeg) → P26 x1 x2 x3 (x4 + 1) μ3) ∧ (¬ x3 ≤ (μ3 (c + 4) (x2 ||| ((1 : Int32) <<< (x4 &&& 31))).toNatClampNeg) → vp_in (x2 ||| ((1 : Int32) <<< (x4 &&& 31))) 512 ∧ T_X6_wide c x4 x2 μ3 (fun (u6 : Int32) (μ7 : Mem) => P26 x1 x2 (if (if (μ3 (c + 4) (x2 ||| ((1 : Int32) <<< (x4 &&& 31))).toNatClampNeg) < u6 then u6 else (μ3 (c + 4) (x2 ||| ((1 : Int32) <<< (x4 &&& 31))).toNatClampNeg)) < x3 then (if (μ3 (c + 4) (x2 ||| ((1 : Int32) <<< (x4 &&& 31))).toNatClampNeg) < u6 then u6 else (μ3 (c + 4) (x2 ||| ((1 : Int32) <<< (x4 &&& 31))).toNatClampNeg)) else x3) (x4 + 1) μ7))))))))
def T_X6_fillLeast_26 (c : Nat) (post : Mem → Prop) (P17 : Int32 → Int32 → Mem → Prop) (x1 : Int32) (x2 : Int32) (x3 : Int32) (x4 : Int32) (μ : Mem) : Prop :=
  ∀ P26 : Int32 → Int32 → Int32 → Int32 → Mem → Prop, (∀ (x1 : Int32) (x2 : Int32) (x3 : Int32) (x4 : Int32) (μ : Mem), B_X6_fillLeast_26 c post P17 P26 x1 x2 x3 x4 μ → P26 x1 x2 x3 x4 μ) → P26 x1 x2 x3 x4 μ
theorem bv_X6_fillLeast_26 {X : Cx} {w : Wd} {l : Launch} {D : va_G} {A : Nat → Prop} (c : Nat) (hc : isSearch c) (g : Gd X w RX6 cX6_fillLeast 5 rm_X6_fillLeast) (hX : atX X l D A) (post : Mem → Prop) (hR : Rt X w shX 58 none (pV post)) (P17 : Int32 → Int32 → Mem → Prop) (hP17 : ∀ (x1 : Int32) (x2 : Int32) (μ : Mem), P17 x1 x2 μ → V X 17 [(0, .ref (w.1 c)), (1, .int x1), (2, .int x2)] [] (wls w shX 58 μ)) (P26 : Int32 → Int32 → Int32 → Int32 → Mem → Prop) (hP26 : ∀ (x1 : Int32) (x2 : Int32) (x3 : Int32) (x4 : Int32) (μ : Mem), P26 x1 x2 x3 x4 μ → V X 26 [(0, .ref (w.1 c)), (1, .int x1), (2, .int x2), (3, .int x3), (4, .int x4)] [] (wls w shX 58 μ)) (x1 : Int32) (x2 : Int32) (x3 : Int32) (x4 : Int32) (μ : Mem) (h : B_X6_fillLeast_26 c post P17 P26 x1 x2 x3 x4 μ) : V X 26 [(0, .ref (w.1 c)), (1, .int x1), (2, .int x2), (3, .int x3), (4, .int x4)] [] (wls w shX 58 μ) := by
  refine r_iload (pc := 26) 4 g dX6_fillLeast_26 rfl ?_
  refine r_aload_n (pc := 28) 0 g dX6_fillLeast_28 rfl ?_
  refine r_geti (pc := 29) (μ := μ) g dX6_fillLeast_29 fa_RX6_61 shX_out (sr_0 hc) rfl ?_
  refine r_icmp_ge (pc := 32) 92 g dX6_fillLeast_32 rfl (fun q => ?_) (fun q => ?_)
  · have h := h.1 q
    refine r_aload_n (pc := 92) 0 g dX6_fillLeast_92 rfl ?_
    refine r_getr (pc := 93) (μ := μ) g dX6_fillLeast_93 fa_RX6_21 shX_out (sr_0 hc) rfl ?_
    refine r_iload_n (pc := 96) 2 g dX6_fillLeast_96 rfl ?_
    refine r_iload_n (pc := 97) 3 g dX6_fillLeast_97 rfl ?_
    obtain ⟨b1, h⟩ := h
    refine r_iastore (pc := 98) (μ := μ) g dX6_fillLeast_98 shX_out (sr_4 hc) b1 ?_
    refine r_iinc (pc := 99) (lv' := [(2, .int (x2 + (-1))), (0, .ref (w.1 c)), (1, .int x1), (3, .int x3), (4, .int x4)]) 2 g dX6_fillLeast_99 rfl ci_m1 rfl rfl ?_
    refine r_goto (pc := 102) 17 g dX6_fillLeast_102 rfl ?_
    refine r_sub [1, 2, 0] (lv' := [(0, .ref (w.1 c)), (1, .int x1), (2, .int (x2 + (-1)))]) rfl ?_
    exact hP17 x1 (x2 + (-1)) (mset μ (c + 4) x2.toNatClampNeg x3) h
  · have h := h.2 q
    refine r_aload_n (pc := 35) 0 g dX6_fillLeast_35 rfl ?_
    refine r_iload (pc := 36) 4 g dX6_fillLeast_36 rfl ?_
    refine r_iload_n (pc := 38) 2 g dX6_fillLeast_38 rfl ?_
    refine r_callVi (pc := 39) (st := []) g hX dX6_fillLeast_39 (m_X6_mayCome c hc x4 x2 μ _ h) kb_RX6_85 kv_X6_mayCome shX_out (sr_0 hc) rfl rfl rfl rfl (fun u2 μ3 h => ?_)
    refine r_if_eq (pc := 42) 86 g dX6_fillLeast_42 rfl (fun q => ?_) (fun q => ?_)
    · have h := h.1 q
      refine r_iinc (pc := 86) (lv' := [(4, .int (x4 + 1)), (0, .ref (w.1 c)), (1, .int x1), (2, .int x2), (3, .int x3)]) 4 g dX6_fillLeast_86 rfl ci_1 rfl rfl ?_
      refine r_goto (pc := 89) 26 g dX6_fillLeast_89 rfl ?_
      refine r_sub [1, 2, 3, 4, 0] (lv' := [(0, .ref (w.1 c)), (1, .int x1), (2, .int x2), (3, .int x3), (4, .int (x4 + 1))]) rfl ?_
      exact hP26 x1 x2 x3 (x4 + 1) μ3 h
    · have h := h.2 q
      refine r_aload_n (pc := 45) 0 g dX6_fillLeast_45 rfl ?_
      refine r_getr (pc := 46) (μ := μ3) g dX6_fillLeast_46 fa_RX6_21 shX_out (sr_0 hc) rfl ?_
      refine r_iload_n (pc := 49) 2 g dX6_fillLeast_49 rfl ?_
      refine r_iconst (pc := 50) g dX6_fillLeast_50 ci_1 ?_
      refine r_iload (pc := 51) 4 g dX6_fillLeast_51 rfl ?_
      refine r_ishl (pc := 53) g dX6_fillLeast_53 ?_
      refine r_ior (pc := 54) g dX6_fillLeast_54 ?_
      obtain ⟨b4, h⟩ := h
      refine r_iaload (pc := 55) (μ := μ3) g dX6_fillLeast_55 shX_out (sr_4 hc) b4 ?_
      refine r_iload_n (pc := 56) 3 g dX6_fillLeast_56 rfl ?_
      refine r_icmp_ge (pc := 57) 86 g dX6_fillLeast_57 rfl (fun q => ?_) (fun q => ?_)
      · have h := h.1 q
        refine r_iinc (pc := 86) (lv' := [(4, .int (x4 + 1)), (0, .ref (w.1 c)), (1, .int x1), (2, .int x2), (3, .int x3)]) 4 g dX6_fillLeast_86 rfl ci_1 rfl rfl ?_
        refine r_goto (pc := 89) 26 g dX6_fillLeast_89 rfl ?_
        refine r_sub [1, 2, 3, 4, 0] (lv' := [(0, .ref (w.1 c)), (1, .int x1), (2, .int x2), (3, .int x3), (4, .int (x4 + 1))]) rfl ?_
        exact hP26 x1 x2 x3 (x4 + 1) μ3 h
      · have h := h.2 q
        refine r_iload_n (pc := 60) 3 g dX6_fillLeast_60 rfl ?_
        refine r_aload_n (pc := 61) 0 g dX6_fillLeast_61 rfl ?_
        refine r_getr (pc := 62) (μ := μ3) g dX6_fillLeast_62 fa_RX6_21 shX_out (sr_0 hc) rfl ?_
        refine r_iload_n (pc := 65) 2 g dX6_fillLeast_65 rfl ?_
        refine r_iconst (pc := 66) g dX6_fillLeast_66 ci_1 ?_
        refine r_iload (pc := 67) 4 g dX6_fillLeast_67 rfl ?_
        refine r_ishl (pc := 69) g dX6_fillLeast_69 ?_
        refine r_ior (pc := 70) g dX6_fillLeast_70 ?_
        obtain ⟨b5, h⟩ := h
        refine r_iaload (pc := 71) (μ := μ3) g dX6_fillLeast_71 shX_out (sr_4 hc) b5 ?_
        refine r_aload_n (pc := 72) 0 g dX6_fillLeast_72 rfl ?_
        refine r_iload (pc := 73) 4 g dX6_fillLeast_73 rfl ?_
        refine r_iload_n (pc := 75) 2 g dX6_fillLeast_75 rfl ?_
        refine r_callVi (pc := 76) (st := [.int (μ3 (c + 4) (x2 ||| ((1 : Int32) <<< (x4 &&& 31))).toNatClampNeg), .int x3]) g hX dX6_fillLeast_76 (m_X6_wide c hc x4 x2 μ3 _ h) kb_RX6_89 kv_X6_wide shX_out (sr_0 hc) rfl rfl rfl rfl (fun u6 μ7 h => ?_)
        refine r_max (pc := 79) g dX6_fillLeast_79 kj_RX6_92 ⟨rfl, rfl⟩ ?_
        refine r_min (pc := 82) g dX6_fillLeast_82 kj_RX6_97 ⟨rfl, rfl⟩ ?_
        refine r_istore_n (pc := 85) (lv' := [(3, .int (if (if (μ3 (c + 4) (x2 ||| ((1 : Int32) <<< (x4 &&& 31))).toNatClampNeg) < u6 then u6 else (μ3 (c + 4) (x2 ||| ((1 : Int32) <<< (x4 &&& 31))).toNatClampNeg)) < x3 then (if (μ3 (c + 4) (x2 ||| ((1 : Int32) <<< (x4 &&& 31))).toNatClampNeg) < u6 then u6 else (μ3 (c + 4) (x2 ||| ((1 : Int32) <<< (x4 &&& 31))).toNatClampNeg)) else x3)), (0, .ref (w.1 c)), (1, .int x1), (2, .int x2), (4, .int x4)]) g dX6_fillLeast_85 rfl rfl ?_
        refine r_iinc (pc := 86) (lv' := [(4, .int (x4 + 1)), (3, .int (if (if (μ3 (c + 4) (x2 ||| ((1 : Int32) <<< (x4 &&& 31))).toNatClampNeg) < u6 then u6 else (μ3 (c + 4) (x2 ||| ((1 : Int32) <<< (x4 &&& 31))).toNatClampNeg)) < x3 then (if (μ3 (c + 4) (x2 ||| ((1 : Int32) <<< (x4 &&& 31))).toNatClampNeg) < u6 then u6 else (μ3 (c + 4) (x2 ||| ((1 : Int32) <<< (x4 &&& 31))).toNatClampNeg)) else x3)), (0, .ref (w.1 c)), (1, .int x1), (2, .int x2)]) 4 g dX6_fillLeast_86 rfl ci_1 rfl rfl ?_
        refine r_goto (pc := 89) 26 g dX6_fillLeast_89 rfl ?_
        refine r_sub [2, 3, 4, 1, 0] (lv' := [(0, .ref (w.1 c)), (1, .int x1), (2, .int x2), (3, .int (if (if (μ3 (c + 4) (x2 ||| ((1 : Int32) <<< (x4 &&& 31))).toNatClampNeg) < u6 then u6 else (μ3 (c + 4) (x2 ||| ((1 : Int32) <<< (x4 &&& 31))).toNatClampNeg)) < x3 then (if (μ3 (c + 4) (x2 ||| ((1 : Int32) <<< (x4 &&& 31))).toNatClampNeg) < u6 then u6 else (μ3 (c + 4) (x2 ||| ((1 : Int32) <<< (x4 &&& 31))).toNatClampNeg)) else x3)), (4, .int (x4 + 1))]) rfl ?_
        exact hP26 x1 x2 (if (if (μ3 (c + 4) (x2 ||| ((1 : Int32) <<< (x4 &&& 31))).toNatClampNeg) < u6 then u6 else (μ3 (c + 4) (x2 ||| ((1 : Int32) <<< (x4 &&& 31))).toNatClampNeg)) < x3 then (if (μ3 (c + 4) (x2 ||| ((1 : Int32) <<< (x4 &&& 31))).toNatClampNeg) < u6 then u6 else (μ3 (c + 4) (x2 ||| ((1 : Int32) <<< (x4 &&& 31))).toNatClampNeg)) else x3) (x4 + 1) μ7 h
theorem v_X6_fillLeast_26 {X : Cx} {w : Wd} {l : Launch} {D : va_G} {A : Nat → Prop} (c : Nat) (hc : isSearch c) (g : Gd X w RX6 cX6_fillLeast 5 rm_X6_fillLeast) (hX : atX X l D A) (post : Mem → Prop) (hR : Rt X w shX 58 none (pV post)) (P17 : Int32 → Int32 → Mem → Prop) (hP17 : ∀ (x1 : Int32) (x2 : Int32) (μ : Mem), P17 x1 x2 μ → V X 17 [(0, .ref (w.1 c)), (1, .int x1), (2, .int x2)] [] (wls w shX 58 μ)) (x1 : Int32) (x2 : Int32) (x3 : Int32) (x4 : Int32) (μ : Mem) (h : T_X6_fillLeast_26 c post P17 x1 x2 x3 x4 μ) : V X 26 [(0, .ref (w.1 c)), (1, .int x1), (2, .int x2), (3, .int x3), (4, .int x4)] [] (wls w shX 58 μ) :=
  h (fun x1 x2 x3 x4 μ => V X 26 [(0, .ref (w.1 c)), (1, .int x1), (2, .int x2), (3, .int x3), (4, .int x4)] [] (wls w shX 58 μ)) (fun x1 x2 x3 x4 μ h => bv_X6_fillLeast_26 c hc g hX post hR P17 hP17 (fun x1 x2 x3 x4 μ => V X 26 [(0, .ref (w.1 c)), (1, .int x1), (2, .int x2), (3, .int x3), (4, .int x4)] [] (wls w shX 58 μ)) (fun _ _ _ _ _ h => h) x1 x2 x3 x4 μ h)
def B_X6_fillLeast_17 (c : Nat) (post : Mem → Prop) (P17 : Int32 → Int32 → Mem → Prop) (x1 : Int32) (x2 : Int32) (μ : Mem) : Prop :=
  ((x2 < 0 → post μ) ∧ (¬ x2 < 0 → T_X6_fillLeast_26 c post P17 x1 x2 x1 0 μ))
def T_X6_fillLeast_17 (c : Nat) (post : Mem → Prop) (x1 : Int32) (x2 : Int32) (μ : Mem) : Prop :=
  ∀ P17 : Int32 → Int32 → Mem → Prop, (∀ (x1 : Int32) (x2 : Int32) (μ : Mem), B_X6_fillLeast_17 c post P17 x1 x2 μ → P17 x1 x2 μ) → P17 x1 x2 μ
theorem bv_X6_fillLeast_17 {X : Cx} {w : Wd} {l : Launch} {D : va_G} {A : Nat → Prop} (c : Nat) (hc : isSearch c) (g : Gd X w RX6 cX6_fillLeast 5 rm_X6_fillLeast) (hX : atX X l D A) (post : Mem → Prop) (hR : Rt X w shX 58 none (pV post)) (P17 : Int32 → Int32 → Mem → Prop) (hP17 : ∀ (x1 : Int32) (x2 : Int32) (μ : Mem), P17 x1 x2 μ → V X 17 [(0, .ref (w.1 c)), (1, .int x1), (2, .int x2)] [] (wls w shX 58 μ)) (x1 : Int32) (x2 : Int32) (μ : Mem) (h : B_X6_fillLeast_17 c post P17 x1 x2 μ) : V X 17 [(0, .ref (w.1 c)), (1, .int x1), (2, .int x2)] [] (wls w shX 58 μ) := by
  refine r_iload_n (pc := 17) 2 g dX6_fillLeast_17 rfl ?_
  refine r_if_lt (pc := 18) 105 g dX6_fillLeast_18 rfl (fun q => ?_) (fun q => ?_)
  · have h := h.1 q
    exact r_vretv (pc := 105) g hR dX6_fillLeast_105 h
  · have h := h.2 q
    refine r_iload_n (pc := 21) 1 g dX6_fillLeast_21 rfl ?_
    refine r_istore_n (pc := 22) (lv' := [(3, .int x1), (0, .ref (w.1 c)), (1, .int x1), (2, .int x2)]) g dX6_fillLeast_22 rfl rfl ?_
    refine r_iconst (pc := 23) g dX6_fillLeast_23 ci_0 ?_
    refine r_istore (pc := 24) (lv' := [(4, .int 0), (3, .int x1), (0, .ref (w.1 c)), (1, .int x1), (2, .int x2)]) g dX6_fillLeast_24 rfl rfl ?_
    refine r_sub [2, 3, 4, 1, 0] (lv' := [(0, .ref (w.1 c)), (1, .int x1), (2, .int x2), (3, .int x1), (4, .int 0)]) rfl ?_
    exact v_X6_fillLeast_26 c hc g hX post hR P17 hP17 x1 x2 x1 0 μ h
theorem v_X6_fillLeast_17 {X : Cx} {w : Wd} {l : Launch} {D : va_G} {A : Nat → Prop} (c : Nat) (hc : isSearch c) (g : Gd X w RX6 cX6_fillLeast 5 rm_X6_fillLeast) (hX : atX X l D A) (post : Mem → Prop) (hR : Rt X w shX 58 none (pV post)) (x1 : Int32) (x2 : Int32) (μ : Mem) (h : T_X6_fillLeast_17 c post x1 x2 μ) : V X 17 [(0, .ref (w.1 c)), (1, .int x1), (2, .int x2)] [] (wls w shX 58 μ) :=
  h (fun x1 x2 μ => V X 17 [(0, .ref (w.1 c)), (1, .int x1), (2, .int x2)] [] (wls w shX 58 μ)) (fun x1 x2 μ h => bv_X6_fillLeast_17 c hc g hX post hR (fun x1 x2 μ => V X 17 [(0, .ref (w.1 c)), (1, .int x1), (2, .int x2)] [] (wls w shX 58 μ)) (fun _ _ _ h => h) x1 x2 μ h)
def T_X6_fillLeast (c : Nat) (x1 : Int32) (μ : Mem) (post : Mem → Prop) : Prop :=
  vp_in (μ c 7) 512 ∧ T_X6_fillLeast_17 c post x1 (((mset μ (c + 4) (μ c 7).toNatClampNeg 0) c 7) - 1) (mset μ (c + 4) (μ c 7).toNatClampNeg 0)
theorem m_X6_fillLeast {w : Wd} {l : Launch} {D : va_G} {A : Nat → Prop} (c : Nat) (hc : isSearch c) (x1 : Int32) (μ : Mem) (post : Mem → Prop) (h : T_X6_fillLeast c x1 μ post) : MetX l D A w shX 58 yX6_fillLeast cX6_fillLeast 5 none rm_X6_fillLeast [.ref (w.1 c), .int x1] μ (pV post) := by
  refine metX_of (by decide) rfl (lv := [(0, .ref (w.1 c)), (1, .int x1)]) rfl (fun X hX g hR => ?_)
  refine r_aload_n (pc := 0) 0 g dX6_fillLeast_0 rfl ?_
  refine r_getr (pc := 1) (μ := μ) g dX6_fillLeast_1 fa_RX6_21 shX_out (sr_0 hc) rfl ?_
  refine r_aload_n (pc := 4) 0 g dX6_fillLeast_4 rfl ?_
  refine r_geti (pc := 5) (μ := μ) g dX6_fillLeast_5 fa_RX6_70 shX_out (sr_0 hc) rfl ?_
  refine r_iconst (pc := 8) g dX6_fillLeast_8 ci_0 ?_
  obtain ⟨b1, h⟩ := h
  refine r_iastore (pc := 9) (μ := μ) g dX6_fillLeast_9 shX_out (sr_4 hc) b1 ?_
  refine r_aload_n (pc := 10) 0 g dX6_fillLeast_10 rfl ?_
  refine r_geti (pc := 11) (μ := mset μ (c + 4) (μ c 7).toNatClampNeg 0) g dX6_fillLeast_11 fa_RX6_70 shX_out (sr_0 hc) rfl ?_
  refine r_iconst (pc := 14) g dX6_fillLeast_14 ci_1 ?_
  refine r_isub (pc := 15) g dX6_fillLeast_15 ?_
  refine r_istore_n (pc := 16) (lv' := [(2, .int (((mset μ (c + 4) (μ c 7).toNatClampNeg 0) c 7) - 1)), (0, .ref (w.1 c)), (1, .int x1)]) g dX6_fillLeast_16 rfl rfl ?_
  refine r_sub [1, 2, 0] (lv' := [(0, .ref (w.1 c)), (1, .int x1), (2, .int (((mset μ (c + 4) (μ c 7).toNatClampNeg 0) c 7) - 1))]) rfl ?_
  exact v_X6_fillLeast_17 c hc g hX post hR x1 (((mset μ (c + 4) (μ c 7).toNatClampNeg 0) c 7) - 1) (mset μ (c + 4) (μ c 7).toNatClampNeg 0) h
abbrev rm_X6_squeeze : Room := { frames := 0, cells := 0, slots := 0, locals := 0 }
def B_X6_squeeze_8 (c : Nat) (post : Int32 → Mem → Prop) (P8 : Int32 → Int32 → Int32 → Int32 → Int32 → Mem → Prop) (x1 : Int32) (x2 : Int32) (x3 : Int32) (x4 : Int32) (x5 : Int32) (μ : Mem) : Prop :=
  (((μ 13 4) ≤ x5 → post x3 μ) ∧ (¬ (μ 13 4) ≤ x5 → ((((x2 >>> (x5 &&& 31)) &&& 1) = 0 → P8 x1 x2 x3 x4 (x5 + 1) μ) ∧ (¬ ((x2 >>> (x5 &&& 31)) &&& 1) = 0 → P8 x1 x2 (x3 ||| (((x1 >>> (x5 &&& 31)) &&& 1) <<< (x4 &&& 31))) (x4 + 1) (x5 + 1) μ))))
def T_X6_squeeze_8 (c : Nat) (post : Int32 → Mem → Prop) (x1 : Int32) (x2 : Int32) (x3 : Int32) (x4 : Int32) (x5 : Int32) (μ : Mem) : Prop :=
  ∀ P8 : Int32 → Int32 → Int32 → Int32 → Int32 → Mem → Prop, (∀ (x1 : Int32) (x2 : Int32) (x3 : Int32) (x4 : Int32) (x5 : Int32) (μ : Mem), B_X6_squeeze_8 c post P8 x1 x2 x3 x4 x5 μ → P8 x1 x2 x3 x4 x5 μ) → P8 x1 x2 x3 x4 x5 μ
theorem bv_X6_squeeze_8 {X : Cx} {w : Wd} {l : Launch} {D : va_G} {A : Nat → Prop} (c : Nat) (hc : isSearch c) (g : Gd X w RX6 cX6_squeeze 6 rm_X6_squeeze) (hX : atX X l D A) (post : Int32 → Mem → Prop) (hR : Rt X w shX 58 (some .int) (pI post)) (P8 : Int32 → Int32 → Int32 → Int32 → Int32 → Mem → Prop) (hP8 : ∀ (x1 : Int32) (x2 : Int32) (x3 : Int32) (x4 : Int32) (x5 : Int32) (μ : Mem), P8 x1 x2 x3 x4 x5 μ → V X 8 [(0, .ref (w.1 c)), (1, .int x1), (2, .int x2), (3, .int x3), (4, .int x4), (5, .int x5)] [] (wls w shX 58 μ)) (x1 : Int32) (x2 : Int32) (x3 : Int32) (x4 : Int32) (x5 : Int32) (μ : Mem) (h : B_X6_squeeze_8 c post P8 x1 x2 x3 x4 x5 μ) : V X 8 [(0, .ref (w.1 c)), (1, .int x1), (2, .int x2), (3, .int x3), (4, .int x4), (5, .int x5)] [] (wls w shX 58 μ) := by
  refine r_iload (pc := 8) 5 g dX6_squeeze_8 rfl ?_
  refine r_aload_n (pc := 10) 0 g dX6_squeeze_10 rfl ?_
  refine r_getr (pc := 11) (μ := μ) g dX6_squeeze_11 fa_RX6_31 shX_out (sr_0 hc) rfl ?_
  refine r_geti (pc := 14) (μ := μ) g dX6_squeeze_14 fa_RX6_64 shX_out sX_13 rfl ?_
  refine r_icmp_ge (pc := 17) 50 g dX6_squeeze_17 rfl (fun q => ?_) (fun q => ?_)
  · have h := h.1 q
    refine r_iload_n (pc := 50) 3 g dX6_squeeze_50 rfl ?_
    exact r_ireti (pc := 51) g hR dX6_squeeze_51 h
  · have h := h.2 q
    refine r_iload_n (pc := 20) 2 g dX6_squeeze_20 rfl ?_
    refine r_iload (pc := 21) 5 g dX6_squeeze_21 rfl ?_
    refine r_ishr (pc := 23) g dX6_squeeze_23 ?_
    refine r_iconst (pc := 24) g dX6_squeeze_24 ci_1 ?_
    refine r_iand (pc := 25) g dX6_squeeze_25 ?_
    refine r_if_eq (pc := 26) 44 g dX6_squeeze_26 rfl (fun q => ?_) (fun q => ?_)
    · have h := h.1 q
      refine r_iinc (pc := 44) (lv' := [(5, .int (x5 + 1)), (0, .ref (w.1 c)), (1, .int x1), (2, .int x2), (3, .int x3), (4, .int x4)]) 5 g dX6_squeeze_44 rfl ci_1 rfl rfl ?_
      refine r_goto (pc := 47) 8 g dX6_squeeze_47 rfl ?_
      refine r_sub [1, 2, 3, 4, 5, 0] (lv' := [(0, .ref (w.1 c)), (1, .int x1), (2, .int x2), (3, .int x3), (4, .int x4), (5, .int (x5 + 1))]) rfl ?_
      exact hP8 x1 x2 x3 x4 (x5 + 1) μ h
    · have h := h.2 q
      refine r_iload_n (pc := 29) 3 g dX6_squeeze_29 rfl ?_
      refine r_iload_n (pc := 30) 1 g dX6_squeeze_30 rfl ?_
      refine r_iload (pc := 31) 5 g dX6_squeeze_31 rfl ?_
      refine r_ishr (pc := 33) g dX6_squeeze_33 ?_
      refine r_iconst (pc := 34) g dX6_squeeze_34 ci_1 ?_
      refine r_iand (pc := 35) g dX6_squeeze_35 ?_
      refine r_iload (pc := 36) 4 g dX6_squeeze_36 rfl ?_
      refine r_ishl (pc := 38) g dX6_squeeze_38 ?_
      refine r_ior (pc := 39) g dX6_squeeze_39 ?_
      refine r_istore_n (pc := 40) (lv' := [(3, .int (x3 ||| (((x1 >>> (x5 &&& 31)) &&& 1) <<< (x4 &&& 31)))), (0, .ref (w.1 c)), (1, .int x1), (2, .int x2), (4, .int x4), (5, .int x5)]) g dX6_squeeze_40 rfl rfl ?_
      refine r_iinc (pc := 41) (lv' := [(4, .int (x4 + 1)), (3, .int (x3 ||| (((x1 >>> (x5 &&& 31)) &&& 1) <<< (x4 &&& 31)))), (0, .ref (w.1 c)), (1, .int x1), (2, .int x2), (5, .int x5)]) 4 g dX6_squeeze_41 rfl ci_1 rfl rfl ?_
      refine r_iinc (pc := 44) (lv' := [(5, .int (x5 + 1)), (4, .int (x4 + 1)), (3, .int (x3 ||| (((x1 >>> (x5 &&& 31)) &&& 1) <<< (x4 &&& 31)))), (0, .ref (w.1 c)), (1, .int x1), (2, .int x2)]) 5 g dX6_squeeze_44 rfl ci_1 rfl rfl ?_
      refine r_goto (pc := 47) 8 g dX6_squeeze_47 rfl ?_
      refine r_sub [3, 4, 5, 2, 1, 0] (lv' := [(0, .ref (w.1 c)), (1, .int x1), (2, .int x2), (3, .int (x3 ||| (((x1 >>> (x5 &&& 31)) &&& 1) <<< (x4 &&& 31)))), (4, .int (x4 + 1)), (5, .int (x5 + 1))]) rfl ?_
      exact hP8 x1 x2 (x3 ||| (((x1 >>> (x5 &&& 31)) &&& 1) <<< (x4 &&& 31))) (x4 + 1) (x5 + 1) μ h
theorem v_X6_squeeze_8 {X : Cx} {w : Wd} {l : Launch} {D : va_G} {A : Nat → Prop} (c : Nat) (hc : isSearch c) (g : Gd X w RX6 cX6_squeeze 6 rm_X6_squeeze) (hX : atX X l D A) (post : Int32 → Mem → Prop) (hR : Rt X w shX 58 (some .int) (pI post)) (x1 : Int32) (x2 : Int32) (x3 : Int32) (x4 : Int32) (x5 : Int32) (μ : Mem) (h : T_X6_squeeze_8 c post x1 x2 x3 x4 x5 μ) : V X 8 [(0, .ref (w.1 c)), (1, .int x1), (2, .int x2), (3, .int x3), (4, .int x4), (5, .int x5)] [] (wls w shX 58 μ) :=
  h (fun x1 x2 x3 x4 x5 μ => V X 8 [(0, .ref (w.1 c)), (1, .int x1), (2, .int x2), (3, .int x3), (4, .int x4), (5, .int x5)] [] (wls w shX 58 μ)) (fun x1 x2 x3 x4 x5 μ h => bv_X6_squeeze_8 c hc g hX post hR (fun x1 x2 x3 x4 x5 μ => V X 8 [(0, .ref (w.1 c)), (1, .int x1), (2, .int x2), (3, .int x3), (4, .int x4), (5, .int x5)] [] (wls w shX 58 μ)) (fun _ _ _ _ _ _ h => h) x1 x2 x3 x4 x5 μ h)
def T_X6_squeeze (c : Nat) (x1 : Int32) (x2 : Int32) (μ : Mem) (post : Int32 → Mem → Prop) : Prop :=
  T_X6_squeeze_8 c post x1 x2 0 0 0 μ
theorem m_X6_squeeze {w : Wd} {l : Launch} {D : va_G} {A : Nat → Prop} (c : Nat) (hc : isSearch c) (x1 : Int32) (x2 : Int32) (μ : Mem) (post : Int32 → Mem → Prop) (h : T_X6_squeeze c x1 x2 μ post) : MetX l D A w shX 58 yX6_squeeze cX6_squeeze 6 (some .int) rm_X6_squeeze [.ref (w.1 c), .int x1, .int x2] μ (pI post) := by
  refine metX_of (by decide) rfl (lv := [(0, .ref (w.1 c)), (1, .int x1), (2, .int x2)]) rfl (fun X hX g hR => ?_)
  refine r_iconst (pc := 0) g dX6_squeeze_0 ci_0 ?_
  refine r_istore_n (pc := 1) (lv' := [(3, .int 0), (0, .ref (w.1 c)), (1, .int x1), (2, .int x2)]) g dX6_squeeze_1 rfl rfl ?_
  refine r_iconst (pc := 2) g dX6_squeeze_2 ci_0 ?_
  refine r_istore (pc := 3) (lv' := [(4, .int 0), (3, .int 0), (0, .ref (w.1 c)), (1, .int x1), (2, .int x2)]) g dX6_squeeze_3 rfl rfl ?_
  refine r_iconst (pc := 5) g dX6_squeeze_5 ci_0 ?_
  refine r_istore (pc := 6) (lv' := [(5, .int 0), (4, .int 0), (3, .int 0), (0, .ref (w.1 c)), (1, .int x1), (2, .int x2)]) g dX6_squeeze_6 rfl rfl ?_
  refine r_sub [3, 4, 5, 2, 1, 0] (lv' := [(0, .ref (w.1 c)), (1, .int x1), (2, .int x2), (3, .int 0), (4, .int 0), (5, .int 0)]) rfl ?_
  exact v_X6_squeeze_8 c hc g hX post hR x1 x2 0 0 0 μ h
abbrev rm_X6_load : Room := { frames := 1, cells := 0, slots := 0, locals := 25 }
def B_X6_load_124 (c : Nat) (post : Mem → Prop) (P109 : Int32 → Mem → Prop) (P124 : Int32 → Int32 → Int32 → Mem → Prop) (x2 : Int32) (x3 : Int32) (x4 : Int32) (μ : Mem) : Prop :=
  ((x3 ≤ x4 → P109 (x2 + 1) μ) ∧ (¬ x3 ≤ x4 → vp_in x4 512 ∧ vp_in x2 9 ∧ vp_in (x4 ||| x3) 512 ∧ P124 x2 x3 (x4 + 1) (mset μ (c + 3) (x4 ||| x3).toNatClampNeg ((μ (c + 3) x4.toNatClampNeg) ||| (μ (c + 1) x2.toNatClampNeg)))))
def T_X6_load_124 (c : Nat) (post : Mem → Prop) (P109 : Int32 → Mem → Prop) (x2 : Int32) (x3 : Int32) (x4 : Int32) (μ : Mem) : Prop :=
  ∀ P124 : Int32 → Int32 → Int32 → Mem → Prop, (∀ (x2 : Int32) (x3 : Int32) (x4 : Int32) (μ : Mem), B_X6_load_124 c post P109 P124 x2 x3 x4 μ → P124 x2 x3 x4 μ) → P124 x2 x3 x4 μ
theorem bv_X6_load_124 {X : Cx} {w : Wd} {l : Launch} {D : va_G} {A : Nat → Prop} (c : Nat) (hc : isSearch c) (g : Gd X w RX6 cX6_load 5 rm_X6_load) (hX : atX X l D A) (post : Mem → Prop) (hR : Rt X w shX 58 none (pV post)) (P109 : Int32 → Mem → Prop) (hP109 : ∀ (x2 : Int32) (μ : Mem), P109 x2 μ → V X 109 [(0, .ref (w.1 c)), (2, .int x2)] [] (wls w shX 58 μ)) (P124 : Int32 → Int32 → Int32 → Mem → Prop) (hP124 : ∀ (x2 : Int32) (x3 : Int32) (x4 : Int32) (μ : Mem), P124 x2 x3 x4 μ → V X 124 [(0, .ref (w.1 c)), (2, .int x2), (3, .int x3), (4, .int x4)] [] (wls w shX 58 μ)) (x2 : Int32) (x3 : Int32) (x4 : Int32) (μ : Mem) (h : B_X6_load_124 c post P109 P124 x2 x3 x4 μ) : V X 124 [(0, .ref (w.1 c)), (2, .int x2), (3, .int x3), (4, .int x4)] [] (wls w shX 58 μ) := by
  refine r_iload (pc := 124) 3 g dX6_load_124 rfl ?_
  refine r_iload_n (pc := 126) 2 g dX6_load_126 rfl ?_
  refine r_icmp_ge (pc := 127) 159 g dX6_load_127 rfl (fun q => ?_) (fun q => ?_)
  · have h := h.1 q
    refine r_iinc (pc := 159) (lv' := [(2, .int (x2 + 1)), (0, .ref (w.1 c)), (3, .int x3), (4, .int x4)]) 1 g dX6_load_159 rfl ci_1 rfl rfl ?_
    refine r_goto (pc := 162) 109 g dX6_load_162 rfl ?_
    refine r_sub [1, 0] (lv' := [(0, .ref (w.1 c)), (2, .int (x2 + 1))]) rfl ?_
    exact hP109 (x2 + 1) μ h
  · have h := h.2 q
    refine r_aload_n (pc := 130) 0 g dX6_load_130 rfl ?_
    refine r_getr (pc := 131) (μ := μ) g dX6_load_131 fa_RX6_18 shX_out (sr_0 hc) rfl ?_
    refine r_iload (pc := 134) 3 g dX6_load_134 rfl ?_
    refine r_iload_n (pc := 136) 2 g dX6_load_136 rfl ?_
    refine r_ior (pc := 137) g dX6_load_137 ?_
    refine r_aload_n (pc := 138) 0 g dX6_load_138 rfl ?_
    refine r_getr (pc := 139) (μ := μ) g dX6_load_139 fa_RX6_18 shX_out (sr_0 hc) rfl ?_
    refine r_iload (pc := 142) 3 g dX6_load_142 rfl ?_
    obtain ⟨b1, h⟩ := h
    refine r_iaload (pc := 144) (μ := μ) g dX6_load_144 shX_out (sr_3 hc) b1 ?_
    refine r_aload_n (pc := 145) 0 g dX6_load_145 rfl ?_
    refine r_getr (pc := 146) (μ := μ) g dX6_load_146 fa_RX6_9 shX_out (sr_0 hc) rfl ?_
    refine r_iload_n (pc := 149) 1 g dX6_load_149 rfl ?_
    obtain ⟨b2, h⟩ := h
    refine r_iaload (pc := 150) (μ := μ) g dX6_load_150 shX_out (sr_1 hc) b2 ?_
    refine r_ior (pc := 151) g dX6_load_151 ?_
    obtain ⟨b3, h⟩ := h
    refine r_iastore (pc := 152) (μ := μ) g dX6_load_152 shX_out (sr_3 hc) b3 ?_
    refine r_iinc (pc := 153) (lv' := [(4, .int (x4 + 1)), (0, .ref (w.1 c)), (2, .int x2), (3, .int x3)]) 3 g dX6_load_153 rfl ci_1 rfl rfl ?_
    refine r_goto (pc := 156) 124 g dX6_load_156 rfl ?_
    refine r_sub [1, 2, 3, 0] (lv' := [(0, .ref (w.1 c)), (2, .int x2), (3, .int x3), (4, .int (x4 + 1))]) rfl ?_
    exact hP124 x2 x3 (x4 + 1) (mset μ (c + 3) (x4 ||| x3).toNatClampNeg ((μ (c + 3) x4.toNatClampNeg) ||| (μ (c + 1) x2.toNatClampNeg))) h
theorem v_X6_load_124 {X : Cx} {w : Wd} {l : Launch} {D : va_G} {A : Nat → Prop} (c : Nat) (hc : isSearch c) (g : Gd X w RX6 cX6_load 5 rm_X6_load) (hX : atX X l D A) (post : Mem → Prop) (hR : Rt X w shX 58 none (pV post)) (P109 : Int32 → Mem → Prop) (hP109 : ∀ (x2 : Int32) (μ : Mem), P109 x2 μ → V X 109 [(0, .ref (w.1 c)), (2, .int x2)] [] (wls w shX 58 μ)) (x2 : Int32) (x3 : Int32) (x4 : Int32) (μ : Mem) (h : T_X6_load_124 c post P109 x2 x3 x4 μ) : V X 124 [(0, .ref (w.1 c)), (2, .int x2), (3, .int x3), (4, .int x4)] [] (wls w shX 58 μ) :=
  h (fun x2 x3 x4 μ => V X 124 [(0, .ref (w.1 c)), (2, .int x2), (3, .int x3), (4, .int x4)] [] (wls w shX 58 μ)) (fun x2 x3 x4 μ h => bv_X6_load_124 c hc g hX post hR P109 hP109 (fun x2 x3 x4 μ => V X 124 [(0, .ref (w.1 c)), (2, .int x2), (3, .int x3), (4, .int x4)] [] (wls w shX 58 μ)) (fun _ _ _ _ h => h) x2 x3 x4 μ h)
def B_X6_load_109 (c : Nat) (post : Mem → Prop) (P109 : Int32 → Mem → Prop) (x2 : Int32) (μ : Mem) : Prop :=
  (((μ c 6) ≤ x2 → post μ) ∧ (¬ (μ c 6) ≤ x2 → T_X6_load_124 c post P109 x2 ((1 : Int32) <<< (x2 &&& 31)) 0 μ))
def T_X6_load_109 (c : Nat) (post : Mem → Prop) (x2 : Int32) (μ : Mem) : Prop :=
  ∀ P109 : Int32 → Mem → Prop, (∀ (x2 : Int32) (μ : Mem), B_X6_load_109 c post P109 x2 μ → P109 x2 μ) → P109 x2 μ
theorem bv_X6_load_109 {X : Cx} {w : Wd} {l : Launch} {D : va_G} {A : Nat → Prop} (c : Nat) (hc : isSearch c) (g : Gd X w RX6 cX6_load 5 rm_X6_load) (hX : atX X l D A) (post : Mem → Prop) (hR : Rt X w shX 58 none (pV post)) (P109 : Int32 → Mem → Prop) (hP109 : ∀ (x2 : Int32) (μ : Mem), P109 x2 μ → V X 109 [(0, .ref (w.1 c)), (2, .int x2)] [] (wls w shX 58 μ)) (x2 : Int32) (μ : Mem) (h : B_X6_load_109 c post P109 x2 μ) : V X 109 [(0, .ref (w.1 c)), (2, .int x2)] [] (wls w shX 58 μ) := by
  refine r_iload_n (pc := 109) 1 g dX6_load_109 rfl ?_
  refine r_aload_n (pc := 110) 0 g dX6_load_110 rfl ?_
  refine r_geti (pc := 111) (μ := μ) g dX6_load_111 fa_RX6_61 shX_out (sr_0 hc) rfl ?_
  refine r_icmp_ge (pc := 114) 165 g dX6_load_114 rfl (fun q => ?_) (fun q => ?_)
  · have h := h.1 q
    exact r_vretv (pc := 165) g hR dX6_load_165 h
  · have h := h.2 q
    refine r_iconst (pc := 117) g dX6_load_117 ci_1 ?_
    refine r_iload_n (pc := 118) 1 g dX6_load_118 rfl ?_
    refine r_ishl (pc := 119) g dX6_load_119 ?_
    refine r_istore_n (pc := 120) (lv' := [(3, .int ((1 : Int32) <<< (x2 &&& 31))), (0, .ref (w.1 c)), (2, .int x2)]) g dX6_load_120 rfl rfl ?_
    refine r_iconst (pc := 121) g dX6_load_121 ci_0 ?_
    refine r_istore (pc := 122) (lv' := [(4, .int 0), (3, .int ((1 : Int32) <<< (x2 &&& 31))), (0, .ref (w.1 c)), (2, .int x2)]) g dX6_load_122 rfl rfl ?_
    refine r_sub [2, 3, 1, 0] (lv' := [(0, .ref (w.1 c)), (2, .int x2), (3, .int ((1 : Int32) <<< (x2 &&& 31))), (4, .int 0)]) rfl ?_
    exact v_X6_load_124 c hc g hX post hR P109 hP109 x2 ((1 : Int32) <<< (x2 &&& 31)) 0 μ h
theorem v_X6_load_109 {X : Cx} {w : Wd} {l : Launch} {D : va_G} {A : Nat → Prop} (c : Nat) (hc : isSearch c) (g : Gd X w RX6 cX6_load 5 rm_X6_load) (hX : atX X l D A) (post : Mem → Prop) (hR : Rt X w shX 58 none (pV post)) (x2 : Int32) (μ : Mem) (h : T_X6_load_109 c post x2 μ) : V X 109 [(0, .ref (w.1 c)), (2, .int x2)] [] (wls w shX 58 μ) :=
  h (fun x2 μ => V X 109 [(0, .ref (w.1 c)), (2, .int x2)] [] (wls w shX 58 μ)) (fun x2 μ h => bv_X6_load_109 c hc g hX post hR (fun x2 μ => V X 109 [(0, .ref (w.1 c)), (2, .int x2)] [] (wls w shX 58 μ)) (fun _ _ h => h) x2 μ h)
def B_X6_load_7 (c : Nat) (post : Mem → Prop) (P7 : Int32 → Int32 → Mem → Prop) (x1 : Int32) (x2 : Int32) (μ : Mem) : Prop :=
  (((μ 13 4) ≤ x2 → vp_in 0 512 ∧ T_X6_load_109 c post 0 (mset (mset (mset μ c 7 (((1 : Int32) <<< ((μ c 6) &&& 31)) - 1)) c 8 (-1)) (c + 3) (0 : Int32).toNatClampNeg 0)) ∧ (¬ (μ 13 4) ≤ x2 → ((((x1 >>> (x2 &&& 31)) &&& 1) = 0 → P7 x1 (x2 + 1) μ) ∧ (¬ ((x1 >>> (x2 &&& 31)) &&& 1) = 0 → vp_in x2 9 ∧ vp_in (μ c 6) 9 ∧ vp_in x2 9 ∧ T_X6_squeeze c ((mset μ (c + 1) (μ c 6).toNatClampNeg (μ 14 x2.toNatClampNeg)) 15 x2.toNatClampNeg) x1 (mset μ (c + 1) (μ c 6).toNatClampNeg (μ 14 x2.toNatClampNeg)) (fun (u5 : Int32) (μ6 : Mem) => vp_in ((mset μ (c + 1) (μ c 6).toNatClampNeg (μ 14 x2.toNatClampNeg)) c 6) 9 ∧ P7 x1 (x2 + 1) (mset (mset μ6 (c + 2) ((mset μ (c + 1) (μ c 6).toNatClampNeg (μ 14 x2.toNatClampNeg)) c 6).toNatClampNeg u5) c 6 (((mset μ6 (c + 2) ((mset μ (c + 1) (μ c 6).toNatClampNeg (μ 14 x2.toNatClampNeg)) c 6).toNatClampNeg u5) c 6) + 1)))))))
def T_X6_load_7 (c : Nat) (post : Mem → Prop) (x1 : Int32) (x2 : Int32) (μ : Mem) : Prop :=
  ∀ P7 : Int32 → Int32 → Mem → Prop, (∀ (x1 : Int32) (x2 : Int32) (μ : Mem), B_X6_load_7 c post P7 x1 x2 μ → P7 x1 x2 μ) → P7 x1 x2 μ
theorem bv_X6_load_7 {X : Cx} {w : Wd} {l : Launch} {D : va_G} {A : Nat → Prop} (c : Nat) (hc : isSearch c) (g : Gd X w RX6 cX6_load 5 rm_X6_load) (hX : atX X l D A) (post : Mem → Prop) (hR : Rt X w shX 58 none (pV post)) (P7 : Int32 → Int32 → Mem → Prop) (hP7 : ∀ (x1 : Int32) (x2 : Int32) (μ : Mem), P7 x1 x2 μ → V X 7 [(0, .ref (w.1 c)), (1, .int x1), (2, .int x2)] [] (wls w shX 58 μ)) (x1 : Int32) (x2 : Int32) (μ : Mem) (h : B_X6_load_7 c post P7 x1 x2 μ) : V X 7 [(0, .ref (w.1 c)), (1, .int x1), (2, .int x2)] [] (wls w shX 58 μ) := by
  refine r_iload_n (pc := 7) 2 g dX6_load_7 rfl ?_
  refine r_aload_n (pc := 8) 0 g dX6_load_8 rfl ?_
  refine r_getr (pc := 9) (μ := μ) g dX6_load_9 fa_RX6_31 shX_out (sr_0 hc) rfl ?_
  refine r_geti (pc := 12) (μ := μ) g dX6_load_12 fa_RX6_64 shX_out sX_13 rfl ?_
  refine r_icmp_ge (pc := 15) 83 g dX6_load_15 rfl (fun q => ?_) (fun q => ?_)
  · have h := h.1 q
    refine r_aload_n (pc := 83) 0 g dX6_load_83 rfl ?_
    refine r_iconst (pc := 84) g dX6_load_84 ci_1 ?_
    refine r_aload_n (pc := 85) 0 g dX6_load_85 rfl ?_
    refine r_geti (pc := 86) (μ := μ) g dX6_load_86 fa_RX6_61 shX_out (sr_0 hc) rfl ?_
    refine r_ishl (pc := 89) g dX6_load_89 ?_
    refine r_iconst (pc := 90) g dX6_load_90 ci_1 ?_
    refine r_isub (pc := 91) g dX6_load_91 ?_
    refine r_puti (pc := 92) (μ := μ) g dX6_load_92 fp_RX6_70 shX_out (sr_0 hc) rfl ?_
    refine r_aload_n (pc := 95) 0 g dX6_load_95 rfl ?_
    refine r_iconst (pc := 96) g dX6_load_96 ci_m1 ?_
    refine r_puti (pc := 97) (μ := mset μ c 7 (((1 : Int32) <<< ((μ c 6) &&& 31)) - 1)) g dX6_load_97 fp_RX6_73 shX_out (sr_0 hc) rfl ?_
    refine r_aload_n (pc := 100) 0 g dX6_load_100 rfl ?_
    refine r_getr (pc := 101) (μ := mset (mset μ c 7 (((1 : Int32) <<< ((μ c 6) &&& 31)) - 1)) c 8 (-1)) g dX6_load_101 fa_RX6_18 shX_out (sr_0 hc) rfl ?_
    refine r_iconst (pc := 104) g dX6_load_104 ci_0 ?_
    refine r_iconst (pc := 105) g dX6_load_105 ci_0 ?_
    obtain ⟨b1, h⟩ := h
    refine r_iastore (pc := 106) (μ := mset (mset μ c 7 (((1 : Int32) <<< ((μ c 6) &&& 31)) - 1)) c 8 (-1)) g dX6_load_106 shX_out (sr_3 hc) b1 ?_
    refine r_iconst (pc := 107) g dX6_load_107 ci_0 ?_
    refine r_istore_n (pc := 108) (lv' := [(2, .int 0), (0, .ref (w.1 c)), (1, .int x1)]) g dX6_load_108 rfl rfl ?_
    refine r_sub [1, 0] (lv' := [(0, .ref (w.1 c)), (2, .int 0)]) rfl ?_
    exact v_X6_load_109 c hc g hX post hR 0 (mset (mset (mset μ c 7 (((1 : Int32) <<< ((μ c 6) &&& 31)) - 1)) c 8 (-1)) (c + 3) (0 : Int32).toNatClampNeg 0) h
  · have h := h.2 q
    refine r_iload_n (pc := 18) 1 g dX6_load_18 rfl ?_
    refine r_iload_n (pc := 19) 2 g dX6_load_19 rfl ?_
    refine r_ishr (pc := 20) g dX6_load_20 ?_
    refine r_iconst (pc := 21) g dX6_load_21 ci_1 ?_
    refine r_iand (pc := 22) g dX6_load_22 ?_
    refine r_if_eq (pc := 23) 77 g dX6_load_23 rfl (fun q => ?_) (fun q => ?_)
    · have h := h.1 q
      refine r_iinc (pc := 77) (lv' := [(2, .int (x2 + 1)), (0, .ref (w.1 c)), (1, .int x1)]) 2 g dX6_load_77 rfl ci_1 rfl rfl ?_
      refine r_goto (pc := 80) 7 g dX6_load_80 rfl ?_
      refine r_sub [1, 2, 0] (lv' := [(0, .ref (w.1 c)), (1, .int x1), (2, .int (x2 + 1))]) rfl ?_
      exact hP7 x1 (x2 + 1) μ h
    · have h := h.2 q
      refine r_aload_n (pc := 26) 0 g dX6_load_26 rfl ?_
      refine r_getr (pc := 27) (μ := μ) g dX6_load_27 fa_RX6_9 shX_out (sr_0 hc) rfl ?_
      refine r_aload_n (pc := 30) 0 g dX6_load_30 rfl ?_
      refine r_geti (pc := 31) (μ := μ) g dX6_load_31 fa_RX6_61 shX_out (sr_0 hc) rfl ?_
      refine r_aload_n (pc := 34) 0 g dX6_load_34 rfl ?_
      refine r_getr (pc := 35) (μ := μ) g dX6_load_35 fa_RX6_31 shX_out (sr_0 hc) rfl ?_
      refine r_getr (pc := 38) (μ := μ) g dX6_load_38 fa_RX6_65 shX_out sX_13 rfl ?_
      refine r_iload_n (pc := 41) 2 g dX6_load_41 rfl ?_
      obtain ⟨b2, h⟩ := h
      refine r_iaload (pc := 42) (μ := μ) g dX6_load_42 shX_out sX_14 b2 ?_
      obtain ⟨b3, h⟩ := h
      refine r_iastore (pc := 43) (μ := μ) g dX6_load_43 shX_out (sr_1 hc) b3 ?_
      refine r_aload_n (pc := 44) 0 g dX6_load_44 rfl ?_
      refine r_getr (pc := 45) (μ := mset μ (c + 1) (μ c 6).toNatClampNeg (μ 14 x2.toNatClampNeg)) g dX6_load_45 fa_RX6_15 shX_out (sr_0 hc) rfl ?_
      refine r_aload_n (pc := 48) 0 g dX6_load_48 rfl ?_
      refine r_geti (pc := 49) (μ := mset μ (c + 1) (μ c 6).toNatClampNeg (μ 14 x2.toNatClampNeg)) g dX6_load_49 fa_RX6_61 shX_out (sr_0 hc) rfl ?_
      refine r_aload_n (pc := 52) 0 g dX6_load_52 rfl ?_
      refine r_aload_n (pc := 53) 0 g dX6_load_53 rfl ?_
      refine r_getr (pc := 54) (μ := mset μ (c + 1) (μ c 6).toNatClampNeg (μ 14 x2.toNatClampNeg)) g dX6_load_54 fa_RX6_31 shX_out (sr_0 hc) rfl ?_
      refine r_getr (pc := 57) (μ := mset μ (c + 1) (μ c 6).toNatClampNeg (μ 14 x2.toNatClampNeg)) g dX6_load_57 fa_RX6_66 shX_out sX_13 rfl ?_
      refine r_iload_n (pc := 60) 2 g dX6_load_60 rfl ?_
      obtain ⟨b4, h⟩ := h
      refine r_iaload (pc := 61) (μ := mset μ (c + 1) (μ c 6).toNatClampNeg (μ 14 x2.toNatClampNeg)) g dX6_load_61 shX_out sX_15 b4 ?_
      refine r_iload_n (pc := 62) 1 g dX6_load_62 rfl ?_
      refine r_callVi (pc := 63) (st := [.int ((mset μ (c + 1) (μ c 6).toNatClampNeg (μ 14 x2.toNatClampNeg)) c 6), .ref (w.1 (c + 2))]) g hX dX6_load_63 (m_X6_squeeze c hc ((mset μ (c + 1) (μ c 6).toNatClampNeg (μ 14 x2.toNatClampNeg)) 15 x2.toNatClampNeg) x1 (mset μ (c + 1) (μ c 6).toNatClampNeg (μ 14 x2.toNatClampNeg)) _ h) kb_RX6_67 kv_X6_squeeze shX_out (sr_0 hc) rfl rfl rfl rfl (fun u5 μ6 h => ?_)
      obtain ⟨b7, h⟩ := h
      refine r_iastore (pc := 66) (μ := μ6) g dX6_load_66 shX_out (sr_2 hc) b7 ?_
      refine r_aload_n (pc := 67) 0 g dX6_load_67 rfl ?_
      refine r_dup (pc := 68) g dX6_load_68 rfl ?_
      refine r_geti (pc := 69) (μ := mset μ6 (c + 2) ((mset μ (c + 1) (μ c 6).toNatClampNeg (μ 14 x2.toNatClampNeg)) c 6).toNatClampNeg u5) g dX6_load_69 fa_RX6_61 shX_out (sr_0 hc) rfl ?_
      refine r_iconst (pc := 72) g dX6_load_72 ci_1 ?_
      refine r_iadd (pc := 73) g dX6_load_73 ?_
      refine r_puti (pc := 74) (μ := mset μ6 (c + 2) ((mset μ (c + 1) (μ c 6).toNatClampNeg (μ 14 x2.toNatClampNeg)) c 6).toNatClampNeg u5) g dX6_load_74 fp_RX6_61 shX_out (sr_0 hc) rfl ?_
      refine r_iinc (pc := 77) (lv' := [(2, .int (x2 + 1)), (0, .ref (w.1 c)), (1, .int x1)]) 2 g dX6_load_77 rfl ci_1 rfl rfl ?_
      refine r_goto (pc := 80) 7 g dX6_load_80 rfl ?_
      refine r_sub [1, 2, 0] (lv' := [(0, .ref (w.1 c)), (1, .int x1), (2, .int (x2 + 1))]) rfl ?_
      exact hP7 x1 (x2 + 1) (mset (mset μ6 (c + 2) ((mset μ (c + 1) (μ c 6).toNatClampNeg (μ 14 x2.toNatClampNeg)) c 6).toNatClampNeg u5) c 6 (((mset μ6 (c + 2) ((mset μ (c + 1) (μ c 6).toNatClampNeg (μ 14 x2.toNatClampNeg)) c 6).toNatClampNeg u5) c 6) + 1)) h
theorem v_X6_load_7 {X : Cx} {w : Wd} {l : Launch} {D : va_G} {A : Nat → Prop} (c : Nat) (hc : isSearch c) (g : Gd X w RX6 cX6_load 5 rm_X6_load) (hX : atX X l D A) (post : Mem → Prop) (hR : Rt X w shX 58 none (pV post)) (x1 : Int32) (x2 : Int32) (μ : Mem) (h : T_X6_load_7 c post x1 x2 μ) : V X 7 [(0, .ref (w.1 c)), (1, .int x1), (2, .int x2)] [] (wls w shX 58 μ) :=
  h (fun x1 x2 μ => V X 7 [(0, .ref (w.1 c)), (1, .int x1), (2, .int x2)] [] (wls w shX 58 μ)) (fun x1 x2 μ h => bv_X6_load_7 c hc g hX post hR (fun x1 x2 μ => V X 7 [(0, .ref (w.1 c)), (1, .int x1), (2, .int x2)] [] (wls w shX 58 μ)) (fun _ _ _ h => h) x1 x2 μ h)
def T_X6_load (c : Nat) (x1 : Int32) (μ : Mem) (post : Mem → Prop) : Prop :=
  T_X6_load_7 c post x1 0 (mset μ c 6 0)
theorem m_X6_load {w : Wd} {l : Launch} {D : va_G} {A : Nat → Prop} (c : Nat) (hc : isSearch c) (x1 : Int32) (μ : Mem) (post : Mem → Prop) (h : T_X6_load c x1 μ post) : MetX l D A w shX 58 yX6_load cX6_load 5 none rm_X6_load [.ref (w.1 c), .int x1] μ (pV post) := by
  refine metX_of (by decide) rfl (lv := [(0, .ref (w.1 c)), (1, .int x1)]) rfl (fun X hX g hR => ?_)
  refine r_aload_n (pc := 0) 0 g dX6_load_0 rfl ?_
  refine r_iconst (pc := 1) g dX6_load_1 ci_0 ?_
  refine r_puti (pc := 2) (μ := μ) g dX6_load_2 fp_RX6_61 shX_out (sr_0 hc) rfl ?_
  refine r_iconst (pc := 5) g dX6_load_5 ci_0 ?_
  refine r_istore_n (pc := 6) (lv' := [(2, .int 0), (0, .ref (w.1 c)), (1, .int x1)]) g dX6_load_6 rfl rfl ?_
  refine r_sub [1, 2, 0] (lv' := [(0, .ref (w.1 c)), (1, .int x1), (2, .int 0)]) rfl ?_
  exact v_X6_load_7 c hc g hX post hR x1 0 (mset μ c 6 0) h
abbrev rm_X6_leastMost : Room := { frames := 3, cells := 0, slots := 0, locals := 67 }
def T_X6_leastMost (c : Nat) (x1 : Int32) (x2 : Int32) (μ : Mem) (post : Int32 → Mem → Prop) : Prop :=
  T_X6_load c x1 μ (fun (μ2 : Mem) => T_X6_fillLeast c x2 μ2 (fun (μ4 : Mem) => vp_in 0 512 ∧ post (μ4 (c + 4) (0 : Int32).toNatClampNeg) μ4))
theorem m_X6_leastMost {w : Wd} {l : Launch} {D : va_G} {A : Nat → Prop} (c : Nat) (hc : isSearch c) (x1 : Int32) (x2 : Int32) (μ : Mem) (post : Int32 → Mem → Prop) (h : T_X6_leastMost c x1 x2 μ post) : MetX l D A w shX 58 yX6_leastMost cX6_leastMost 3 (some .int) rm_X6_leastMost [.ref (w.1 c), .int x1, .int x2] μ (pI post) := by
  refine metX_of (by decide) rfl (lv := [(0, .ref (w.1 c)), (1, .int x1), (2, .int x2)]) rfl (fun X hX g hR => ?_)
  refine r_aload_n (pc := 0) 0 g dX6_leastMost_0 rfl ?_
  refine r_iload_n (pc := 1) 1 g dX6_leastMost_1 rfl ?_
  refine r_callVv (pc := 2) (st := []) g hX dX6_leastMost_2 (m_X6_load c hc x1 μ _ h) kb_RX6_47 kv_X6_load shX_out (sr_0 hc) rfl rfl rfl rfl (fun μ2 h => ?_)
  refine r_aload_n (pc := 5) 0 g dX6_leastMost_5 rfl ?_
  refine r_iload_n (pc := 6) 2 g dX6_leastMost_6 rfl ?_
  refine r_callVv (pc := 7) (st := []) g hX dX6_leastMost_7 (m_X6_fillLeast c hc x2 μ2 _ h) kb_RX6_51 kv_X6_fillLeast shX_out (sr_0 hc) rfl rfl rfl rfl (fun μ4 h => ?_)
  refine r_aload_n (pc := 10) 0 g dX6_leastMost_10 rfl ?_
  refine r_getr (pc := 11) (μ := μ4) g dX6_leastMost_11 fa_RX6_21 shX_out (sr_0 hc) rfl ?_
  refine r_iconst (pc := 14) g dX6_leastMost_14 ci_0 ?_
  obtain ⟨b5, h⟩ := h
  refine r_iaload (pc := 15) (μ := μ4) g dX6_leastMost_15 shX_out (sr_4 hc) b5 ?_
  exact r_ireti (pc := 16) g hR dX6_leastMost_16 h
abbrev rm_X6_refresh : Room := { frames := 4, cells := 0, slots := 0, locals := 89 }
def T_X6_refresh (c : Nat) (μ : Mem) (post : Mem → Prop) : Prop :=
  (((μ c 9) = (μ 13 5) → post μ) ∧ (¬ (μ c 9) = (μ 13 5) → T_X10_all μ (fun (u1 : Int32) (μ2 : Mem) => T_X6_leastMost c u1 1000000 μ2 (fun (u3 : Int32) (μ4 : Mem) => post (mset μ4 c 9 (μ4 13 5))))))
theorem m_X6_refresh {w : Wd} {l : Launch} {D : va_G} {A : Nat → Prop} (c : Nat) (hc : isSearch c) (μ : Mem) (post : Mem → Prop) (h : T_X6_refresh c μ post) : MetX l D A w shX 58 yX6_refresh cX6_refresh 1 none rm_X6_refresh [.ref (w.1 c)] μ (pV post) := by
  refine metX_of (by decide) rfl (lv := [(0, .ref (w.1 c))]) rfl (fun X hX g hR => ?_)
  refine r_aload_n (pc := 0) 0 g dX6_refresh_0 rfl ?_
  refine r_geti (pc := 1) (μ := μ) g dX6_refresh_1 fa_RX6_27 shX_out (sr_0 hc) rfl ?_
  refine r_aload_n (pc := 4) 0 g dX6_refresh_4 rfl ?_
  refine r_getr (pc := 5) (μ := μ) g dX6_refresh_5 fa_RX6_31 shX_out (sr_0 hc) rfl ?_
  refine r_geti (pc := 8) (μ := μ) g dX6_refresh_8 fa_RX6_35 shX_out sX_13 rfl ?_
  refine r_icmp_eq (pc := 11) 39 g dX6_refresh_11 rfl (fun q => ?_) (fun q => ?_)
  · have h := h.1 q
    exact r_vretv (pc := 39) g hR dX6_refresh_39 h
  · have h := h.2 q
    refine r_aload_n (pc := 14) 0 g dX6_refresh_14 rfl ?_
    refine r_aload_n (pc := 15) 0 g dX6_refresh_15 rfl ?_
    refine r_getr (pc := 16) (μ := μ) g dX6_refresh_16 fa_RX6_31 shX_out (sr_0 hc) rfl ?_
    refine r_callVi (pc := 19) (st := [.ref (w.1 c)]) g hX dX6_refresh_19 (m_X10_all μ _ h) kb_RX6_38 kv_X10_all shX_out sX_13 rfl rfl rfl rfl (fun u1 μ2 h => ?_)
    refine r_ldc (pc := 22) g dX6_refresh_22 k_637 ?_
    refine r_callVi (pc := 24) (st := []) g hX dX6_refresh_24 (m_X6_leastMost c hc u1 1000000 μ2 _ h) kb_RX6_43 kv_X6_leastMost shX_out (sr_0 hc) rfl rfl rfl rfl (fun u3 μ4 h => ?_)
    refine r_pop (pc := 27) g dX6_refresh_27 rfl ?_
    refine r_aload_n (pc := 28) 0 g dX6_refresh_28 rfl ?_
    refine r_aload_n (pc := 29) 0 g dX6_refresh_29 rfl ?_
    refine r_getr (pc := 30) (μ := μ4) g dX6_refresh_30 fa_RX6_31 shX_out (sr_0 hc) rfl ?_
    refine r_geti (pc := 33) (μ := μ4) g dX6_refresh_33 fa_RX6_35 shX_out sX_13 rfl ?_
    refine r_puti (pc := 36) (μ := μ4) g dX6_refresh_36 fp_RX6_27 shX_out (sr_0 hc) rfl ?_
    exact r_vretv (pc := 39) g hR dX6_refresh_39 h
abbrev rm_X6_leastMostUnbound : Room := { frames := 3, cells := 0, slots := 0, locals := 67 }
def T_X6_leastMostUnbound (c : Nat) (x1 : Int32) (x2 : Int32) (μ : Mem) (post : Int32 → Mem → Prop) : Prop :=
  T_X10_all μ (fun (u1 : Int32) (μ2 : Mem) => T_X6_load c u1 μ2 (fun (μ4 : Mem) => vp_in x2 9 ∧ vp_in x2 9 ∧ T_X6_fillLeast c 1000000 (mset μ4 (c + 2) x2.toNatClampNeg ((μ4 (c + 2) x2.toNatClampNeg) &&& (((1 : Int32) <<< (x1 &&& 31)) ^^^ (-1)))) (fun (μ8 : Mem) => vp_in 0 512 ∧ post (μ8 (c + 4) (0 : Int32).toNatClampNeg) μ8)))
theorem m_X6_leastMostUnbound {w : Wd} {l : Launch} {D : va_G} {A : Nat → Prop} (c : Nat) (hc : isSearch c) (x1 : Int32) (x2 : Int32) (μ : Mem) (post : Int32 → Mem → Prop) (h : T_X6_leastMostUnbound c x1 x2 μ post) : MetX l D A w shX 58 yX6_leastMostUnbound cX6_leastMostUnbound 3 (some .int) rm_X6_leastMostUnbound [.ref (w.1 c), .int x1, .int x2] μ (pI post) := by
  refine metX_of (by decide) rfl (lv := [(0, .ref (w.1 c)), (1, .int x1), (2, .int x2)]) rfl (fun X hX g hR => ?_)
  refine r_aload_n (pc := 0) 0 g dX6_leastMostUnbound_0 rfl ?_
  refine r_aload_n (pc := 1) 0 g dX6_leastMostUnbound_1 rfl ?_
  refine r_getr (pc := 2) (μ := μ) g dX6_leastMostUnbound_2 fa_RX6_31 shX_out (sr_0 hc) rfl ?_
  refine r_callVi (pc := 5) (st := [.ref (w.1 c)]) g hX dX6_leastMostUnbound_5 (m_X10_all μ _ h) kb_RX6_38 kv_X10_all shX_out sX_13 rfl rfl rfl rfl (fun u1 μ2 h => ?_)
  refine r_callVv (pc := 8) (st := []) g hX dX6_leastMostUnbound_8 (m_X6_load c hc u1 μ2 _ h) kb_RX6_47 kv_X6_load shX_out (sr_0 hc) rfl rfl rfl rfl (fun μ4 h => ?_)
  refine r_aload_n (pc := 11) 0 g dX6_leastMostUnbound_11 rfl ?_
  refine r_getr (pc := 12) (μ := μ4) g dX6_leastMostUnbound_12 fa_RX6_15 shX_out (sr_0 hc) rfl ?_
  refine r_iload_n (pc := 15) 2 g dX6_leastMostUnbound_15 rfl ?_
  refine r_dup2 (pc := 16) g dX6_leastMostUnbound_16 rfl rfl ?_
  obtain ⟨b5, h⟩ := h
  refine r_iaload (pc := 17) (μ := μ4) g dX6_leastMostUnbound_17 shX_out (sr_2 hc) b5 ?_
  refine r_iconst (pc := 18) g dX6_leastMostUnbound_18 ci_1 ?_
  refine r_iload_n (pc := 19) 1 g dX6_leastMostUnbound_19 rfl ?_
  refine r_ishl (pc := 20) g dX6_leastMostUnbound_20 ?_
  refine r_iconst (pc := 21) g dX6_leastMostUnbound_21 ci_m1 ?_
  refine r_ixor (pc := 22) g dX6_leastMostUnbound_22 ?_
  refine r_iand (pc := 23) g dX6_leastMostUnbound_23 ?_
  obtain ⟨b6, h⟩ := h
  refine r_iastore (pc := 24) (μ := μ4) g dX6_leastMostUnbound_24 shX_out (sr_2 hc) b6 ?_
  refine r_aload_n (pc := 25) 0 g dX6_leastMostUnbound_25 rfl ?_
  refine r_ldc (pc := 26) g dX6_leastMostUnbound_26 k_637 ?_
  refine r_callVv (pc := 28) (st := []) g hX dX6_leastMostUnbound_28 (m_X6_fillLeast c hc 1000000 (mset μ4 (c + 2) x2.toNatClampNeg ((μ4 (c + 2) x2.toNatClampNeg) &&& (((1 : Int32) <<< (x1 &&& 31)) ^^^ (-1)))) _ h) kb_RX6_51 kv_X6_fillLeast shX_out (sr_0 hc) rfl rfl rfl rfl (fun μ8 h => ?_)
  refine r_aload_n (pc := 31) 0 g dX6_leastMostUnbound_31 rfl ?_
  refine r_getr (pc := 32) (μ := μ8) g dX6_leastMostUnbound_32 fa_RX6_21 shX_out (sr_0 hc) rfl ?_
  refine r_iconst (pc := 35) g dX6_leastMostUnbound_35 ci_0 ?_
  obtain ⟨b9, h⟩ := h
  refine r_iaload (pc := 36) (μ := μ8) g dX6_leastMostUnbound_36 shX_out (sr_4 hc) b9 ?_
  exact r_ireti (pc := 37) g hR dX6_leastMostUnbound_37 h
abbrev rm_X6_leastFrom : Room := { frames := 0, cells := 0, slots := 0, locals := 0 }
def T_X6_leastFrom (c : Nat) (x1 : Int32) (μ : Mem) (post : Int32 → Mem → Prop) : Prop :=
  vp_in x1 512 ∧ post (μ (c + 4) x1.toNatClampNeg) μ
theorem m_X6_leastFrom {w : Wd} {l : Launch} {D : va_G} {A : Nat → Prop} (c : Nat) (hc : isSearch c) (x1 : Int32) (μ : Mem) (post : Int32 → Mem → Prop) (h : T_X6_leastFrom c x1 μ post) : MetX l D A w shX 58 yX6_leastFrom cX6_leastFrom 2 (some .int) rm_X6_leastFrom [.ref (w.1 c), .int x1] μ (pI post) := by
  refine metX_of (by decide) rfl (lv := [(0, .ref (w.1 c)), (1, .int x1)]) rfl (fun X hX g hR => ?_)
  refine r_aload_n (pc := 0) 0 g dX6_leastFrom_0 rfl ?_
  refine r_getr (pc := 1) (μ := μ) g dX6_leastFrom_1 fa_RX6_21 shX_out (sr_0 hc) rfl ?_
  refine r_iload_n (pc := 4) 1 g dX6_leastFrom_4 rfl ?_
  obtain ⟨b1, h⟩ := h
  refine r_iaload (pc := 5) (μ := μ) g dX6_leastFrom_5 shX_out (sr_4 hc) b1 ?_
  exact r_ireti (pc := 6) g hR dX6_leastFrom_6 h
abbrev rm_X6_leastLong : Room := { frames := 2, cells := 0, slots := 0, locals := 43 }
def B_X6_leastLong_5 (c : Nat) (post : Int32 → Mem → Prop) (P5 : Int32 → Int32 → Int32 → Mem → Prop) (x1 : Int32) (x2 : Int32) (x3 : Int32) (μ : Mem) : Prop :=
  (((μ c 6) ≤ x3 → post x2 μ) ∧ (¬ (μ c 6) ≤ x3 → T_X6_mayCome c x3 x1 μ (fun (u1 : Int32) (μ2 : Mem) => ((u1 = 0 → P5 x1 x2 (x3 + 1) μ2) ∧ (¬ u1 = 0 → vp_in (x1 ||| ((1 : Int32) <<< (x3 &&& 31))) 512 ∧ ((x2 ≤ (μ2 (c + 5) (x1 ||| ((1 : Int32) <<< (x3 &&& 31))).toNatClampNeg) → P5 x1 x2 (x3 + 1) μ2) ∧ (¬ x2 ≤ (μ2 (c + 5) (x1 ||| ((1 : Int32) <<< (x3 &&& 31))).toNatClampNeg) → T_X6_wide c x3 x1 μ2 (fun (u4 : Int32) (μ5 : Mem) => (((μ5 c 8) < u4 → P5 x1 x2 (x3 + 1) μ5) ∧ (¬ (μ5 c 8) < u4 → vp_in (x1 ||| ((1 : Int32) <<< (x3 &&& 31))) 512 ∧ P5 x1 (if (u4 + (μ5 (c + 5) (x1 ||| ((1 : Int32) <<< (x3 &&& 31))).toNatClampNeg)) < x2 then (u4 + (μ5 (c + 5) (x1 ||| ((1 : Int32) <<< (x3 &&& 31))).toNatClampNeg)) else x2) (x3 + 1) μ5))))))))))
def T_X6_leastLong_5 (c : Nat) (post : Int32 → Mem → Prop) (x1 : Int32) (x2 : Int32) (x3 : Int32) (μ : Mem) : Prop :=
  ∀ P5 : Int32 → Int32 → Int32 → Mem → Prop, (∀ (x1 : Int32) (x2 : Int32) (x3 : Int32) (μ : Mem), B_X6_leastLong_5 c post P5 x1 x2 x3 μ → P5 x1 x2 x3 μ) → P5 x1 x2 x3 μ
theorem bv_X6_leastLong_5 {X : Cx} {w : Wd} {l : Launch} {D : va_G} {A : Nat → Prop} (c : Nat) (hc : isSearch c) (g : Gd X w RX6 cX6_leastLong 5 rm_X6_leastLong) (hX : atX X l D A) (post : Int32 → Mem → Prop) (hR : Rt X w shX 58 (some .int) (pI post)) (P5 : Int32 → Int32 → Int32 → Mem → Prop) (hP5 : ∀ (x1 : Int32) (x2 : Int32) (x3 : Int32) (μ : Mem), P5 x1 x2 x3 μ → V X 5 [(0, .ref (w.1 c)), (1, .int x1), (2, .int x2), (3, .int x3)] [] (wls w shX 58 μ)) (x1 : Int32) (x2 : Int32) (x3 : Int32) (μ : Mem) (h : B_X6_leastLong_5 c post P5 x1 x2 x3 μ) : V X 5 [(0, .ref (w.1 c)), (1, .int x1), (2, .int x2), (3, .int x3)] [] (wls w shX 58 μ) := by
  refine r_iload_n (pc := 5) 3 g dX6_leastLong_5 rfl ?_
  refine r_aload_n (pc := 6) 0 g dX6_leastLong_6 rfl ?_
  refine r_geti (pc := 7) (μ := μ) g dX6_leastLong_7 fa_RX6_61 shX_out (sr_0 hc) rfl ?_
  refine r_icmp_ge (pc := 10) 77 g dX6_leastLong_10 rfl (fun q => ?_) (fun q => ?_)
  · have h := h.1 q
    refine r_iload_n (pc := 77) 2 g dX6_leastLong_77 rfl ?_
    exact r_ireti (pc := 78) g hR dX6_leastLong_78 h
  · have h := h.2 q
    refine r_aload_n (pc := 13) 0 g dX6_leastLong_13 rfl ?_
    refine r_iload_n (pc := 14) 3 g dX6_leastLong_14 rfl ?_
    refine r_iload_n (pc := 15) 1 g dX6_leastLong_15 rfl ?_
    refine r_callVi (pc := 16) (st := []) g hX dX6_leastLong_16 (m_X6_mayCome c hc x3 x1 μ _ h) kb_RX6_85 kv_X6_mayCome shX_out (sr_0 hc) rfl rfl rfl rfl (fun u1 μ2 h => ?_)
    refine r_if_eq (pc := 19) 71 g dX6_leastLong_19 rfl (fun q => ?_) (fun q => ?_)
    · have h := h.1 q
      refine r_iinc (pc := 71) (lv' := [(3, .int (x3 + 1)), (0, .ref (w.1 c)), (1, .int x1), (2, .int x2)]) 3 g dX6_leastLong_71 rfl ci_1 rfl rfl ?_
      refine r_goto (pc := 74) 5 g dX6_leastLong_74 rfl ?_
      refine r_sub [1, 2, 3, 0] (lv' := [(0, .ref (w.1 c)), (1, .int x1), (2, .int x2), (3, .int (x3 + 1))]) rfl ?_
      exact hP5 x1 x2 (x3 + 1) μ2 h
    · have h := h.2 q
      refine r_aload_n (pc := 22) 0 g dX6_leastLong_22 rfl ?_
      refine r_getr (pc := 23) (μ := μ2) g dX6_leastLong_23 fa_RX6_24 shX_out (sr_0 hc) rfl ?_
      refine r_iload_n (pc := 26) 1 g dX6_leastLong_26 rfl ?_
      refine r_iconst (pc := 27) g dX6_leastLong_27 ci_1 ?_
      refine r_iload_n (pc := 28) 3 g dX6_leastLong_28 rfl ?_
      refine r_ishl (pc := 29) g dX6_leastLong_29 ?_
      refine r_ior (pc := 30) g dX6_leastLong_30 ?_
      obtain ⟨b3, h⟩ := h
      refine r_iaload (pc := 31) (μ := μ2) g dX6_leastLong_31 shX_out (sr_5 hc) b3 ?_
      refine r_iload_n (pc := 32) 2 g dX6_leastLong_32 rfl ?_
      refine r_icmp_ge (pc := 33) 71 g dX6_leastLong_33 rfl (fun q => ?_) (fun q => ?_)
      · have h := h.1 q
        refine r_iinc (pc := 71) (lv' := [(3, .int (x3 + 1)), (0, .ref (w.1 c)), (1, .int x1), (2, .int x2)]) 3 g dX6_leastLong_71 rfl ci_1 rfl rfl ?_
        refine r_goto (pc := 74) 5 g dX6_leastLong_74 rfl ?_
        refine r_sub [1, 2, 3, 0] (lv' := [(0, .ref (w.1 c)), (1, .int x1), (2, .int x2), (3, .int (x3 + 1))]) rfl ?_
        exact hP5 x1 x2 (x3 + 1) μ2 h
      · have h := h.2 q
        refine r_aload_n (pc := 36) 0 g dX6_leastLong_36 rfl ?_
        refine r_iload_n (pc := 37) 3 g dX6_leastLong_37 rfl ?_
        refine r_iload_n (pc := 38) 1 g dX6_leastLong_38 rfl ?_
        refine r_callVi (pc := 39) (st := []) g hX dX6_leastLong_39 (m_X6_wide c hc x3 x1 μ2 _ h) kb_RX6_89 kv_X6_wide shX_out (sr_0 hc) rfl rfl rfl rfl (fun u4 μ5 h => ?_)
        refine r_istore (pc := 42) (lv' := [(4, .int u4), (0, .ref (w.1 c)), (1, .int x1), (2, .int x2), (3, .int x3)]) g dX6_leastLong_42 rfl rfl ?_
        refine r_iload (pc := 44) 0 g dX6_leastLong_44 rfl ?_
        refine r_aload_n (pc := 46) 1 g dX6_leastLong_46 rfl ?_
        refine r_geti (pc := 47) (μ := μ5) g dX6_leastLong_47 fa_RX6_73 shX_out (sr_0 hc) rfl ?_
        refine r_icmp_gt (pc := 50) 71 g dX6_leastLong_50 rfl (fun q => ?_) (fun q => ?_)
        · have h := h.1 q
          refine r_iinc (pc := 71) (lv' := [(3, .int (x3 + 1)), (4, .int u4), (0, .ref (w.1 c)), (1, .int x1), (2, .int x2)]) 4 g dX6_leastLong_71 rfl ci_1 rfl rfl ?_
          refine r_goto (pc := 74) 5 g dX6_leastLong_74 rfl ?_
          refine r_sub [2, 3, 4, 0] (lv' := [(0, .ref (w.1 c)), (1, .int x1), (2, .int x2), (3, .int (x3 + 1))]) rfl ?_
          exact hP5 x1 x2 (x3 + 1) μ5 h
        · have h := h.2 q
          refine r_iload_n (pc := 53) 3 g dX6_leastLong_53 rfl ?_
          refine r_iload (pc := 54) 0 g dX6_leastLong_54 rfl ?_
          refine r_aload_n (pc := 56) 1 g dX6_leastLong_56 rfl ?_
          refine r_getr (pc := 57) (μ := μ5) g dX6_leastLong_57 fa_RX6_24 shX_out (sr_0 hc) rfl ?_
          refine r_iload_n (pc := 60) 2 g dX6_leastLong_60 rfl ?_
          refine r_iconst (pc := 61) g dX6_leastLong_61 ci_1 ?_
          refine r_iload_n (pc := 62) 4 g dX6_leastLong_62 rfl ?_
          refine r_ishl (pc := 63) g dX6_leastLong_63 ?_
          refine r_ior (pc := 64) g dX6_leastLong_64 ?_
          obtain ⟨b6, h⟩ := h
          refine r_iaload (pc := 65) (μ := μ5) g dX6_leastLong_65 shX_out (sr_5 hc) b6 ?_
          refine r_iadd (pc := 66) g dX6_leastLong_66 ?_
          refine r_min (pc := 67) g dX6_leastLong_67 kj_RX6_97 ⟨rfl, rfl⟩ ?_
          refine r_istore_n (pc := 70) (lv' := [(2, .int (if (u4 + (μ5 (c + 5) (x1 ||| ((1 : Int32) <<< (x3 &&& 31))).toNatClampNeg)) < x2 then (u4 + (μ5 (c + 5) (x1 ||| ((1 : Int32) <<< (x3 &&& 31))).toNatClampNeg)) else x2)), (4, .int u4), (0, .ref (w.1 c)), (1, .int x1), (3, .int x3)]) g dX6_leastLong_70 rfl rfl ?_
          refine r_iinc (pc := 71) (lv' := [(3, .int (x3 + 1)), (2, .int (if (u4 + (μ5 (c + 5) (x1 ||| ((1 : Int32) <<< (x3 &&& 31))).toNatClampNeg)) < x2 then (u4 + (μ5 (c + 5) (x1 ||| ((1 : Int32) <<< (x3 &&& 31))).toNatClampNeg)) else x2)), (4, .int u4), (0, .ref (w.1 c)), (1, .int x1)]) 4 g dX6_leastLong_71 rfl ci_1 rfl rfl ?_
          refine r_goto (pc := 74) 5 g dX6_leastLong_74 rfl ?_
          refine r_sub [3, 4, 1, 0] (lv' := [(0, .ref (w.1 c)), (1, .int x1), (2, .int (if (u4 + (μ5 (c + 5) (x1 ||| ((1 : Int32) <<< (x3 &&& 31))).toNatClampNeg)) < x2 then (u4 + (μ5 (c + 5) (x1 ||| ((1 : Int32) <<< (x3 &&& 31))).toNatClampNeg)) else x2)), (3, .int (x3 + 1))]) rfl ?_
          exact hP5 x1 (if (u4 + (μ5 (c + 5) (x1 ||| ((1 : Int32) <<< (x3 &&& 31))).toNatClampNeg)) < x2 then (u4 + (μ5 (c + 5) (x1 ||| ((1 : Int32) <<< (x3 &&& 31))).toNatClampNeg)) else x2) (x3 + 1) μ5 h
theorem v_X6_leastLong_5 {X : Cx} {w : Wd} {l : Launch} {D : va_G} {A : Nat → Prop} (c : Nat) (hc : isSearch c) (g : Gd X w RX6 cX6_leastLong 5 rm_X6_leastLong) (hX : atX X l D A) (post : Int32 → Mem → Prop) (hR : Rt X w shX 58 (some .int) (pI post)) (x1 : Int32) (x2 : Int32) (x3 : Int32) (μ : Mem) (h : T_X6_leastLong_5 c post x1 x2 x3 μ) : V X 5 [(0, .ref (w.1 c)), (1, .int x1), (2, .int x2), (3, .int x3)] [] (wls w shX 58 μ) :=
  h (fun x1 x2 x3 μ => V X 5 [(0, .ref (w.1 c)), (1, .int x1), (2, .int x2), (3, .int x3)] [] (wls w shX 58 μ)) (fun x1 x2 x3 μ h => bv_X6_leastLong_5 c hc g hX post hR (fun x1 x2 x3 μ => V X 5 [(0, .ref (w.1 c)), (1, .int x1), (2, .int x2), (3, .int x3)] [] (wls w shX 58 μ)) (fun _ _ _ _ h => h) x1 x2 x3 μ h)
def T_X6_leastLong (c : Nat) (x1 : Int32) (μ : Mem) (post : Int32 → Mem → Prop) : Prop :=
  T_X6_leastLong_5 c post x1 1000000 0 μ
theorem m_X6_leastLong {w : Wd} {l : Launch} {D : va_G} {A : Nat → Prop} (c : Nat) (hc : isSearch c) (x1 : Int32) (μ : Mem) (post : Int32 → Mem → Prop) (h : T_X6_leastLong c x1 μ post) : MetX l D A w shX 58 yX6_leastLong cX6_leastLong 5 (some .int) rm_X6_leastLong [.ref (w.1 c), .int x1] μ (pI post) := by
  refine metX_of (by decide) rfl (lv := [(0, .ref (w.1 c)), (1, .int x1)]) rfl (fun X hX g hR => ?_)
  refine r_ldc (pc := 0) g dX6_leastLong_0 k_637 ?_
  refine r_istore_n (pc := 2) (lv' := [(2, .int 1000000), (0, .ref (w.1 c)), (1, .int x1)]) g dX6_leastLong_2 rfl rfl ?_
  refine r_iconst (pc := 3) g dX6_leastLong_3 ci_0 ?_
  refine r_istore_n (pc := 4) (lv' := [(3, .int 0), (2, .int 1000000), (0, .ref (w.1 c)), (1, .int x1)]) g dX6_leastLong_4 rfl rfl ?_
  refine r_sub [2, 3, 1, 0] (lv' := [(0, .ref (w.1 c)), (1, .int x1), (2, .int 1000000), (3, .int 0)]) rfl ?_
  exact v_X6_leastLong_5 c hc g hX post hR x1 1000000 0 μ h
abbrev rm_X6_fillLongs : Room := { frames := 3, cells := 0, slots := 0, locals := 67 }
def B_X6_fillLongs_31 (c : Nat) (post : Mem → Prop) (P31 : Int32 → Mem → Prop) (x2 : Int32) (μ : Mem) : Prop :=
  ((x2 < 0 → post μ) ∧ (¬ x2 < 0 → T_X6_leastLong c x2 μ (fun (u1 : Int32) (μ2 : Mem) => vp_in x2 512 ∧ P31 (x2 + (-1)) (mset μ2 (c + 5) x2.toNatClampNeg u1))))
def T_X6_fillLongs_31 (c : Nat) (post : Mem → Prop) (x2 : Int32) (μ : Mem) : Prop :=
  ∀ P31 : Int32 → Mem → Prop, (∀ (x2 : Int32) (μ : Mem), B_X6_fillLongs_31 c post P31 x2 μ → P31 x2 μ) → P31 x2 μ
theorem bv_X6_fillLongs_31 {X : Cx} {w : Wd} {l : Launch} {D : va_G} {A : Nat → Prop} (c : Nat) (hc : isSearch c) (g : Gd X w RX6 cX6_fillLongs 3 rm_X6_fillLongs) (hX : atX X l D A) (post : Mem → Prop) (hR : Rt X w shX 58 none (pV post)) (P31 : Int32 → Mem → Prop) (hP31 : ∀ (x2 : Int32) (μ : Mem), P31 x2 μ → V X 31 [(0, .ref (w.1 c)), (2, .int x2)] [] (wls w shX 58 μ)) (x2 : Int32) (μ : Mem) (h : B_X6_fillLongs_31 c post P31 x2 μ) : V X 31 [(0, .ref (w.1 c)), (2, .int x2)] [] (wls w shX 58 μ) := by
  refine r_iload_n (pc := 31) 1 g dX6_fillLongs_31 rfl ?_
  refine r_if_lt (pc := 32) 52 g dX6_fillLongs_32 rfl (fun q => ?_) (fun q => ?_)
  · have h := h.1 q
    exact r_vretv (pc := 52) g hR dX6_fillLongs_52 h
  · have h := h.2 q
    refine r_aload_n (pc := 35) 0 g dX6_fillLongs_35 rfl ?_
    refine r_getr (pc := 36) (μ := μ) g dX6_fillLongs_36 fa_RX6_24 shX_out (sr_0 hc) rfl ?_
    refine r_iload_n (pc := 39) 1 g dX6_fillLongs_39 rfl ?_
    refine r_aload_n (pc := 40) 0 g dX6_fillLongs_40 rfl ?_
    refine r_iload_n (pc := 41) 1 g dX6_fillLongs_41 rfl ?_
    refine r_callVi (pc := 42) (st := [.int x2, .ref (w.1 (c + 5))]) g hX dX6_fillLongs_42 (m_X6_leastLong c hc x2 μ _ h) kb_RX6_100 kv_X6_leastLong shX_out (sr_0 hc) rfl rfl rfl rfl (fun u1 μ2 h => ?_)
    obtain ⟨b3, h⟩ := h
    refine r_iastore (pc := 45) (μ := μ2) g dX6_fillLongs_45 shX_out (sr_5 hc) b3 ?_
    refine r_iinc (pc := 46) (lv' := [(2, .int (x2 + (-1))), (0, .ref (w.1 c))]) 1 g dX6_fillLongs_46 rfl ci_m1 rfl rfl ?_
    refine r_goto (pc := 49) 31 g dX6_fillLongs_49 rfl ?_
    refine r_sub [1, 0] (lv' := [(0, .ref (w.1 c)), (2, .int (x2 + (-1)))]) rfl ?_
    exact hP31 (x2 + (-1)) (mset μ2 (c + 5) x2.toNatClampNeg u1) h
theorem v_X6_fillLongs_31 {X : Cx} {w : Wd} {l : Launch} {D : va_G} {A : Nat → Prop} (c : Nat) (hc : isSearch c) (g : Gd X w RX6 cX6_fillLongs 3 rm_X6_fillLongs) (hX : atX X l D A) (post : Mem → Prop) (hR : Rt X w shX 58 none (pV post)) (x2 : Int32) (μ : Mem) (h : T_X6_fillLongs_31 c post x2 μ) : V X 31 [(0, .ref (w.1 c)), (2, .int x2)] [] (wls w shX 58 μ) :=
  h (fun x2 μ => V X 31 [(0, .ref (w.1 c)), (2, .int x2)] [] (wls w shX 58 μ)) (fun x2 μ h => bv_X6_fillLongs_31 c hc g hX post hR (fun x2 μ => V X 31 [(0, .ref (w.1 c)), (2, .int x2)] [] (wls w shX 58 μ)) (fun _ _ h => h) x2 μ h)
def T_X6_fillLongs (c : Nat) (x1 : Int32) (μ : Mem) (post : Mem → Prop) : Prop :=
  ((¬ (μ c 8) = x1 → vp_in ((mset μ c 8 x1) c 7) 512 ∧ T_X6_fillLongs_31 c post (((mset (mset μ c 8 x1) (c + 5) ((mset μ c 8 x1) c 7).toNatClampNeg 0) c 7) - 1) (mset (mset μ c 8 x1) (c + 5) ((mset μ c 8 x1) c 7).toNatClampNeg 0)) ∧ ((μ c 8) = x1 → post μ))
theorem m_X6_fillLongs {w : Wd} {l : Launch} {D : va_G} {A : Nat → Prop} (c : Nat) (hc : isSearch c) (x1 : Int32) (μ : Mem) (post : Mem → Prop) (h : T_X6_fillLongs c x1 μ post) : MetX l D A w shX 58 yX6_fillLongs cX6_fillLongs 3 none rm_X6_fillLongs [.ref (w.1 c), .int x1] μ (pV post) := by
  refine metX_of (by decide) rfl (lv := [(0, .ref (w.1 c)), (1, .int x1)]) rfl (fun X hX g hR => ?_)
  refine r_aload_n (pc := 0) 0 g dX6_fillLongs_0 rfl ?_
  refine r_geti (pc := 1) (μ := μ) g dX6_fillLongs_1 fa_RX6_73 shX_out (sr_0 hc) rfl ?_
  refine r_iload_n (pc := 4) 1 g dX6_fillLongs_4 rfl ?_
  refine r_icmp_ne (pc := 5) 9 g dX6_fillLongs_5 rfl (fun q => ?_) (fun q => ?_)
  · have h := h.1 q
    refine r_aload_n (pc := 9) 0 g dX6_fillLongs_9 rfl ?_
    refine r_iload_n (pc := 10) 1 g dX6_fillLongs_10 rfl ?_
    refine r_puti (pc := 11) (μ := μ) g dX6_fillLongs_11 fp_RX6_73 shX_out (sr_0 hc) rfl ?_
    refine r_aload_n (pc := 14) 0 g dX6_fillLongs_14 rfl ?_
    refine r_getr (pc := 15) (μ := mset μ c 8 x1) g dX6_fillLongs_15 fa_RX6_24 shX_out (sr_0 hc) rfl ?_
    refine r_aload_n (pc := 18) 0 g dX6_fillLongs_18 rfl ?_
    refine r_geti (pc := 19) (μ := mset μ c 8 x1) g dX6_fillLongs_19 fa_RX6_70 shX_out (sr_0 hc) rfl ?_
    refine r_iconst (pc := 22) g dX6_fillLongs_22 ci_0 ?_
    obtain ⟨b1, h⟩ := h
    refine r_iastore (pc := 23) (μ := mset μ c 8 x1) g dX6_fillLongs_23 shX_out (sr_5 hc) b1 ?_
    refine r_aload_n (pc := 24) 0 g dX6_fillLongs_24 rfl ?_
    refine r_geti (pc := 25) (μ := mset (mset μ c 8 x1) (c + 5) ((mset μ c 8 x1) c 7).toNatClampNeg 0) g dX6_fillLongs_25 fa_RX6_70 shX_out (sr_0 hc) rfl ?_
    refine r_iconst (pc := 28) g dX6_fillLongs_28 ci_1 ?_
    refine r_isub (pc := 29) g dX6_fillLongs_29 ?_
    refine r_istore_n (pc := 30) (lv' := [(2, .int (((mset (mset μ c 8 x1) (c + 5) ((mset μ c 8 x1) c 7).toNatClampNeg 0) c 7) - 1)), (0, .ref (w.1 c)), (1, .int x1)]) g dX6_fillLongs_30 rfl rfl ?_
    refine r_sub [1, 0] (lv' := [(0, .ref (w.1 c)), (2, .int (((mset (mset μ c 8 x1) (c + 5) ((mset μ c 8 x1) c 7).toNatClampNeg 0) c 7) - 1))]) rfl ?_
    exact v_X6_fillLongs_31 c hc g hX post hR (((mset (mset μ c 8 x1) (c + 5) ((mset μ c 8 x1) c 7).toNatClampNeg 0) c 7) - 1) (mset (mset μ c 8 x1) (c + 5) ((mset μ c 8 x1) c 7).toNatClampNeg 0) h
  · have h := h.2 q
    exact r_vretv (pc := 8) g hR dX6_fillLongs_8 h
abbrev rm_X6_longFrom : Room := { frames := 4, cells := 0, slots := 0, locals := 89 }
def T_X6_longFrom (c : Nat) (x1 : Int32) (μ : Mem) (post : Int32 → Mem → Prop) : Prop :=
  vp_in x1 512 ∧ T_X6_fillLongs c (μ (c + 4) x1.toNatClampNeg) μ (fun (μ3 : Mem) => vp_in x1 512 ∧ post (μ3 (c + 5) x1.toNatClampNeg) μ3)
theorem m_X6_longFrom {w : Wd} {l : Launch} {D : va_G} {A : Nat → Prop} (c : Nat) (hc : isSearch c) (x1 : Int32) (μ : Mem) (post : Int32 → Mem → Prop) (h : T_X6_longFrom c x1 μ post) : MetX l D A w shX 58 yX6_longFrom cX6_longFrom 2 (some .int) rm_X6_longFrom [.ref (w.1 c), .int x1] μ (pI post) := by
  refine metX_of (by decide) rfl (lv := [(0, .ref (w.1 c)), (1, .int x1)]) rfl (fun X hX g hR => ?_)
  refine r_aload_n (pc := 0) 0 g dX6_longFrom_0 rfl ?_
  refine r_aload_n (pc := 1) 0 g dX6_longFrom_1 rfl ?_
  refine r_getr (pc := 2) (μ := μ) g dX6_longFrom_2 fa_RX6_21 shX_out (sr_0 hc) rfl ?_
  refine r_iload_n (pc := 5) 1 g dX6_longFrom_5 rfl ?_
  obtain ⟨b1, h⟩ := h
  refine r_iaload (pc := 6) (μ := μ) g dX6_longFrom_6 shX_out (sr_4 hc) b1 ?_
  refine r_callVv (pc := 7) (st := []) g hX dX6_longFrom_7 (m_X6_fillLongs c hc (μ (c + 4) x1.toNatClampNeg) μ _ h) kb_RX6_54 kv_X6_fillLongs shX_out (sr_0 hc) rfl rfl rfl rfl (fun μ3 h => ?_)
  refine r_aload_n (pc := 10) 0 g dX6_longFrom_10 rfl ?_
  refine r_getr (pc := 11) (μ := μ3) g dX6_longFrom_11 fa_RX6_24 shX_out (sr_0 hc) rfl ?_
  refine r_iload_n (pc := 14) 1 g dX6_longFrom_14 rfl ?_
  obtain ⟨b4, h⟩ := h
  refine r_iaload (pc := 15) (μ := μ3) g dX6_longFrom_15 shX_out (sr_5 hc) b4 ?_
  exact r_ireti (pc := 16) g hR dX6_longFrom_16 h
abbrev rm_X6_nextBehind : Room := { frames := 2, cells := 0, slots := 0, locals := 43 }
def B_X6_nextBehind_2 (c : Nat) (post : Int32 → Mem → Prop) (P2 : Int32 → Int32 → Mem → Prop) (x1 : Int32) (x2 : Int32) (μ : Mem) : Prop :=
  (((μ c 6) ≤ x2 → post (-9) μ) ∧ (¬ (μ c 6) ≤ x2 → T_X6_mayCome c x2 x1 μ (fun (u1 : Int32) (μ2 : Mem) => ((u1 = 0 → P2 x1 (x2 + 1) μ2) ∧ (¬ u1 = 0 → T_X6_wide c x2 x1 μ2 (fun (u3 : Int32) (μ4 : Mem) => (((μ4 c 8) < u3 → P2 x1 (x2 + 1) μ4) ∧ (¬ (μ4 c 8) < u3 → vp_in (x1 ||| ((1 : Int32) <<< (x2 &&& 31))) 512 ∧ vp_in x1 512 ∧ ((¬ (u3 + (μ4 (c + 5) (x1 ||| ((1 : Int32) <<< (x2 &&& 31))).toNatClampNeg)) = (μ4 (c + 5) x1.toNatClampNeg) → P2 x1 (x2 + 1) μ4) ∧ ((u3 + (μ4 (c + 5) (x1 ||| ((1 : Int32) <<< (x2 &&& 31))).toNatClampNeg)) = (μ4 (c + 5) x1.toNatClampNeg) → post x2 μ4))))))))))
def T_X6_nextBehind_2 (c : Nat) (post : Int32 → Mem → Prop) (x1 : Int32) (x2 : Int32) (μ : Mem) : Prop :=
  ∀ P2 : Int32 → Int32 → Mem → Prop, (∀ (x1 : Int32) (x2 : Int32) (μ : Mem), B_X6_nextBehind_2 c post P2 x1 x2 μ → P2 x1 x2 μ) → P2 x1 x2 μ
theorem bv_X6_nextBehind_2 {X : Cx} {w : Wd} {l : Launch} {D : va_G} {A : Nat → Prop} (c : Nat) (hc : isSearch c) (g : Gd X w RX6 cX6_nextBehind 4 rm_X6_nextBehind) (hX : atX X l D A) (post : Int32 → Mem → Prop) (hR : Rt X w shX 58 (some .int) (pI post)) (P2 : Int32 → Int32 → Mem → Prop) (hP2 : ∀ (x1 : Int32) (x2 : Int32) (μ : Mem), P2 x1 x2 μ → V X 2 [(0, .ref (w.1 c)), (1, .int x1), (2, .int x2)] [] (wls w shX 58 μ)) (x1 : Int32) (x2 : Int32) (μ : Mem) (h : B_X6_nextBehind_2 c post P2 x1 x2 μ) : V X 2 [(0, .ref (w.1 c)), (1, .int x1), (2, .int x2)] [] (wls w shX 58 μ) := by
  refine r_iload_n (pc := 2) 2 g dX6_nextBehind_2 rfl ?_
  refine r_aload_n (pc := 3) 0 g dX6_nextBehind_3 rfl ?_
  refine r_geti (pc := 4) (μ := μ) g dX6_nextBehind_4 fa_RX6_61 shX_out (sr_0 hc) rfl ?_
  refine r_icmp_ge (pc := 7) 63 g dX6_nextBehind_7 rfl (fun q => ?_) (fun q => ?_)
  · have h := h.1 q
    refine r_bipush (pc := 63) g dX6_nextBehind_63 cb_m9 ?_
    exact r_ireti (pc := 65) g hR dX6_nextBehind_65 h
  · have h := h.2 q
    refine r_aload_n (pc := 10) 0 g dX6_nextBehind_10 rfl ?_
    refine r_iload_n (pc := 11) 2 g dX6_nextBehind_11 rfl ?_
    refine r_iload_n (pc := 12) 1 g dX6_nextBehind_12 rfl ?_
    refine r_callVi (pc := 13) (st := []) g hX dX6_nextBehind_13 (m_X6_mayCome c hc x2 x1 μ _ h) kb_RX6_85 kv_X6_mayCome shX_out (sr_0 hc) rfl rfl rfl rfl (fun u1 μ2 h => ?_)
    refine r_if_eq (pc := 16) 57 g dX6_nextBehind_16 rfl (fun q => ?_) (fun q => ?_)
    · have h := h.1 q
      refine r_iinc (pc := 57) (lv' := [(2, .int (x2 + 1)), (0, .ref (w.1 c)), (1, .int x1)]) 2 g dX6_nextBehind_57 rfl ci_1 rfl rfl ?_
      refine r_goto (pc := 60) 2 g dX6_nextBehind_60 rfl ?_
      refine r_sub [1, 2, 0] (lv' := [(0, .ref (w.1 c)), (1, .int x1), (2, .int (x2 + 1))]) rfl ?_
      exact hP2 x1 (x2 + 1) μ2 h
    · have h := h.2 q
      refine r_aload_n (pc := 19) 0 g dX6_nextBehind_19 rfl ?_
      refine r_iload_n (pc := 20) 2 g dX6_nextBehind_20 rfl ?_
      refine r_iload_n (pc := 21) 1 g dX6_nextBehind_21 rfl ?_
      refine r_callVi (pc := 22) (st := []) g hX dX6_nextBehind_22 (m_X6_wide c hc x2 x1 μ2 _ h) kb_RX6_89 kv_X6_wide shX_out (sr_0 hc) rfl rfl rfl rfl (fun u3 μ4 h => ?_)
      refine r_istore_n (pc := 25) (lv' := [(3, .int u3), (0, .ref (w.1 c)), (1, .int x1), (2, .int x2)]) g dX6_nextBehind_25 rfl rfl ?_
      refine r_iload_n (pc := 26) 0 g dX6_nextBehind_26 rfl ?_
      refine r_aload_n (pc := 27) 1 g dX6_nextBehind_27 rfl ?_
      refine r_geti (pc := 28) (μ := μ4) g dX6_nextBehind_28 fa_RX6_73 shX_out (sr_0 hc) rfl ?_
      refine r_icmp_gt (pc := 31) 57 g dX6_nextBehind_31 rfl (fun q => ?_) (fun q => ?_)
      · have h := h.1 q
        refine r_iinc (pc := 57) (lv' := [(2, .int (x2 + 1)), (3, .int u3), (0, .ref (w.1 c)), (1, .int x1)]) 3 g dX6_nextBehind_57 rfl ci_1 rfl rfl ?_
        refine r_goto (pc := 60) 2 g dX6_nextBehind_60 rfl ?_
        refine r_sub [2, 3, 0] (lv' := [(0, .ref (w.1 c)), (1, .int x1), (2, .int (x2 + 1))]) rfl ?_
        exact hP2 x1 (x2 + 1) μ4 h
      · have h := h.2 q
        refine r_iload_n (pc := 34) 0 g dX6_nextBehind_34 rfl ?_
        refine r_aload_n (pc := 35) 1 g dX6_nextBehind_35 rfl ?_
        refine r_getr (pc := 36) (μ := μ4) g dX6_nextBehind_36 fa_RX6_24 shX_out (sr_0 hc) rfl ?_
        refine r_iload_n (pc := 39) 2 g dX6_nextBehind_39 rfl ?_
        refine r_iconst (pc := 40) g dX6_nextBehind_40 ci_1 ?_
        refine r_iload_n (pc := 41) 3 g dX6_nextBehind_41 rfl ?_
        refine r_ishl (pc := 42) g dX6_nextBehind_42 ?_
        refine r_ior (pc := 43) g dX6_nextBehind_43 ?_
        obtain ⟨b5, h⟩ := h
        refine r_iaload (pc := 44) (μ := μ4) g dX6_nextBehind_44 shX_out (sr_5 hc) b5 ?_
        refine r_iadd (pc := 45) g dX6_nextBehind_45 ?_
        refine r_aload_n (pc := 46) 1 g dX6_nextBehind_46 rfl ?_
        refine r_getr (pc := 47) (μ := μ4) g dX6_nextBehind_47 fa_RX6_24 shX_out (sr_0 hc) rfl ?_
        refine r_iload_n (pc := 50) 2 g dX6_nextBehind_50 rfl ?_
        obtain ⟨b6, h⟩ := h
        refine r_iaload (pc := 51) (μ := μ4) g dX6_nextBehind_51 shX_out (sr_5 hc) b6 ?_
        refine r_icmp_ne (pc := 52) 57 g dX6_nextBehind_52 rfl (fun q => ?_) (fun q => ?_)
        · have h := h.1 q
          refine r_iinc (pc := 57) (lv' := [(2, .int (x2 + 1)), (3, .int u3), (0, .ref (w.1 c)), (1, .int x1)]) 3 g dX6_nextBehind_57 rfl ci_1 rfl rfl ?_
          refine r_goto (pc := 60) 2 g dX6_nextBehind_60 rfl ?_
          refine r_sub [2, 3, 0] (lv' := [(0, .ref (w.1 c)), (1, .int x1), (2, .int (x2 + 1))]) rfl ?_
          exact hP2 x1 (x2 + 1) μ4 h
        · have h := h.2 q
          refine r_iload_n (pc := 55) 3 g dX6_nextBehind_55 rfl ?_
          exact r_ireti (pc := 56) g hR dX6_nextBehind_56 h
theorem v_X6_nextBehind_2 {X : Cx} {w : Wd} {l : Launch} {D : va_G} {A : Nat → Prop} (c : Nat) (hc : isSearch c) (g : Gd X w RX6 cX6_nextBehind 4 rm_X6_nextBehind) (hX : atX X l D A) (post : Int32 → Mem → Prop) (hR : Rt X w shX 58 (some .int) (pI post)) (x1 : Int32) (x2 : Int32) (μ : Mem) (h : T_X6_nextBehind_2 c post x1 x2 μ) : V X 2 [(0, .ref (w.1 c)), (1, .int x1), (2, .int x2)] [] (wls w shX 58 μ) :=
  h (fun x1 x2 μ => V X 2 [(0, .ref (w.1 c)), (1, .int x1), (2, .int x2)] [] (wls w shX 58 μ)) (fun x1 x2 μ h => bv_X6_nextBehind_2 c hc g hX post hR (fun x1 x2 μ => V X 2 [(0, .ref (w.1 c)), (1, .int x1), (2, .int x2)] [] (wls w shX 58 μ)) (fun _ _ _ h => h) x1 x2 μ h)
def T_X6_nextBehind (c : Nat) (x1 : Int32) (μ : Mem) (post : Int32 → Mem → Prop) : Prop :=
  T_X6_nextBehind_2 c post x1 0 μ
theorem m_X6_nextBehind {w : Wd} {l : Launch} {D : va_G} {A : Nat → Prop} (c : Nat) (hc : isSearch c) (x1 : Int32) (μ : Mem) (post : Int32 → Mem → Prop) (h : T_X6_nextBehind c x1 μ post) : MetX l D A w shX 58 yX6_nextBehind cX6_nextBehind 4 (some .int) rm_X6_nextBehind [.ref (w.1 c), .int x1] μ (pI post) := by
  refine metX_of (by decide) rfl (lv := [(0, .ref (w.1 c)), (1, .int x1)]) rfl (fun X hX g hR => ?_)
  refine r_iconst (pc := 0) g dX6_nextBehind_0 ci_0 ?_
  refine r_istore_n (pc := 1) (lv' := [(2, .int 0), (0, .ref (w.1 c)), (1, .int x1)]) g dX6_nextBehind_1 rfl rfl ?_
  refine r_sub [1, 2, 0] (lv' := [(0, .ref (w.1 c)), (1, .int x1), (2, .int 0)]) rfl ?_
  exact v_X6_nextBehind_2 c hc g hX post hR x1 0 μ h
abbrev rm_X6_nextFrom : Room := { frames := 4, cells := 0, slots := 0, locals := 89 }
def T_X6_nextFrom (c : Nat) (x1 : Int32) (μ : Mem) (post : Int32 → Mem → Prop) : Prop :=
  vp_in x1 512 ∧ T_X6_fillLongs c (μ (c + 4) x1.toNatClampNeg) μ (fun (μ3 : Mem) => T_X6_nextBehind c x1 μ3 (fun (u4 : Int32) (μ5 : Mem) => post u4 μ5))
theorem m_X6_nextFrom {w : Wd} {l : Launch} {D : va_G} {A : Nat → Prop} (c : Nat) (hc : isSearch c) (x1 : Int32) (μ : Mem) (post : Int32 → Mem → Prop) (h : T_X6_nextFrom c x1 μ post) : MetX l D A w shX 58 yX6_nextFrom cX6_nextFrom 2 (some .int) rm_X6_nextFrom [.ref (w.1 c), .int x1] μ (pI post) := by
  refine metX_of (by decide) rfl (lv := [(0, .ref (w.1 c)), (1, .int x1)]) rfl (fun X hX g hR => ?_)
  refine r_aload_n (pc := 0) 0 g dX6_nextFrom_0 rfl ?_
  refine r_aload_n (pc := 1) 0 g dX6_nextFrom_1 rfl ?_
  refine r_getr (pc := 2) (μ := μ) g dX6_nextFrom_2 fa_RX6_21 shX_out (sr_0 hc) rfl ?_
  refine r_iload_n (pc := 5) 1 g dX6_nextFrom_5 rfl ?_
  obtain ⟨b1, h⟩ := h
  refine r_iaload (pc := 6) (μ := μ) g dX6_nextFrom_6 shX_out (sr_4 hc) b1 ?_
  refine r_callVv (pc := 7) (st := []) g hX dX6_nextFrom_7 (m_X6_fillLongs c hc (μ (c + 4) x1.toNatClampNeg) μ _ h) kb_RX6_54 kv_X6_fillLongs shX_out (sr_0 hc) rfl rfl rfl rfl (fun μ3 h => ?_)
  refine r_aload_n (pc := 10) 0 g dX6_nextFrom_10 rfl ?_
  refine r_iload_n (pc := 11) 1 g dX6_nextFrom_11 rfl ?_
  refine r_callVi (pc := 12) (st := []) g hX dX6_nextFrom_12 (m_X6_nextBehind c hc x1 μ3 _ h) kb_RX6_57 kv_X6_nextBehind shX_out (sr_0 hc) rfl rfl rfl rfl (fun u4 μ5 h => ?_)
  exact r_ireti (pc := 15) g hR dX6_nextFrom_15 h
abbrev rm_X6_workAt : Room := { frames := 4, cells := 0, slots := 0, locals := 89 }
def B_X6_workAt_14 (c : Nat) (post : Int32 → Mem → Prop) (P14 : Int32 → Int32 → Int32 → Mem → Prop) (x1 : Int32) (x2 : Int32) (x3 : Int32) (μ : Mem) : Prop :=
  ((x1 ≤ x3 → T_X6_nextBehind c x2 μ (fun (u1 : Int32) (μ2 : Mem) => post u1 μ2)) ∧ (¬ x1 ≤ x3 → T_X6_nextBehind c x2 μ (fun (u3 : Int32) (μ4 : Mem) => ((¬ u3 = (-9) → P14 x1 (x2 ||| ((1 : Int32) <<< (u3 &&& 31))) (x3 + 1) μ4) ∧ (u3 = (-9) → post (-9) μ4)))))
def T_X6_workAt_14 (c : Nat) (post : Int32 → Mem → Prop) (x1 : Int32) (x2 : Int32) (x3 : Int32) (μ : Mem) : Prop :=
  ∀ P14 : Int32 → Int32 → Int32 → Mem → Prop, (∀ (x1 : Int32) (x2 : Int32) (x3 : Int32) (μ : Mem), B_X6_workAt_14 c post P14 x1 x2 x3 μ → P14 x1 x2 x3 μ) → P14 x1 x2 x3 μ
theorem bv_X6_workAt_14 {X : Cx} {w : Wd} {l : Launch} {D : va_G} {A : Nat → Prop} (c : Nat) (hc : isSearch c) (g : Gd X w RX6 cX6_workAt 5 rm_X6_workAt) (hX : atX X l D A) (post : Int32 → Mem → Prop) (hR : Rt X w shX 58 (some .int) (pI post)) (P14 : Int32 → Int32 → Int32 → Mem → Prop) (hP14 : ∀ (x1 : Int32) (x2 : Int32) (x3 : Int32) (μ : Mem), P14 x1 x2 x3 μ → V X 14 [(0, .ref (w.1 c)), (1, .int x1), (2, .int x2), (3, .int x3)] [] (wls w shX 58 μ)) (x1 : Int32) (x2 : Int32) (x3 : Int32) (μ : Mem) (h : B_X6_workAt_14 c post P14 x1 x2 x3 μ) : V X 14 [(0, .ref (w.1 c)), (1, .int x1), (2, .int x2), (3, .int x3)] [] (wls w shX 58 μ) := by
  refine r_iload_n (pc := 14) 3 g dX6_workAt_14 rfl ?_
  refine r_iload_n (pc := 15) 1 g dX6_workAt_15 rfl ?_
  refine r_icmp_ge (pc := 16) 49 g dX6_workAt_16 rfl (fun q => ?_) (fun q => ?_)
  · have h := h.1 q
    refine r_aload_n (pc := 49) 0 g dX6_workAt_49 rfl ?_
    refine r_iload_n (pc := 50) 2 g dX6_workAt_50 rfl ?_
    refine r_callVi (pc := 51) (st := []) g hX dX6_workAt_51 (m_X6_nextBehind c hc x2 μ _ h) kb_RX6_57 kv_X6_nextBehind shX_out (sr_0 hc) rfl rfl rfl rfl (fun u1 μ2 h => ?_)
    exact r_ireti (pc := 54) g hR dX6_workAt_54 h
  · have h := h.2 q
    refine r_aload_n (pc := 19) 0 g dX6_workAt_19 rfl ?_
    refine r_iload_n (pc := 20) 2 g dX6_workAt_20 rfl ?_
    refine r_callVi (pc := 21) (st := []) g hX dX6_workAt_21 (m_X6_nextBehind c hc x2 μ _ h) kb_RX6_57 kv_X6_nextBehind shX_out (sr_0 hc) rfl rfl rfl rfl (fun u3 μ4 h => ?_)
    refine r_istore (pc := 24) (lv' := [(4, .int u3), (0, .ref (w.1 c)), (1, .int x1), (2, .int x2), (3, .int x3)]) g dX6_workAt_24 rfl rfl ?_
    refine r_iload (pc := 26) 0 g dX6_workAt_26 rfl ?_
    refine r_bipush (pc := 28) g dX6_workAt_28 cb_m9 ?_
    refine r_icmp_ne (pc := 30) 36 g dX6_workAt_30 rfl (fun q => ?_) (fun q => ?_)
    · have h := h.1 q
      refine r_iload_n (pc := 36) 3 g dX6_workAt_36 rfl ?_
      refine r_iconst (pc := 37) g dX6_workAt_37 ci_1 ?_
      refine r_iload (pc := 38) 0 g dX6_workAt_38 rfl ?_
      refine r_ishl (pc := 40) g dX6_workAt_40 ?_
      refine r_ior (pc := 41) g dX6_workAt_41 ?_
      refine r_istore_n (pc := 42) (lv' := [(2, .int (x2 ||| ((1 : Int32) <<< (u3 &&& 31)))), (4, .int u3), (0, .ref (w.1 c)), (1, .int x1), (3, .int x3)]) g dX6_workAt_42 rfl rfl ?_
      refine r_iinc (pc := 43) (lv' := [(3, .int (x3 + 1)), (2, .int (x2 ||| ((1 : Int32) <<< (u3 &&& 31)))), (4, .int u3), (0, .ref (w.1 c)), (1, .int x1)]) 4 g dX6_workAt_43 rfl ci_1 rfl rfl ?_
      refine r_goto (pc := 46) 14 g dX6_workAt_46 rfl ?_
      refine r_sub [3, 4, 1, 0] (lv' := [(0, .ref (w.1 c)), (1, .int x1), (2, .int (x2 ||| ((1 : Int32) <<< (u3 &&& 31)))), (3, .int (x3 + 1))]) rfl ?_
      exact hP14 x1 (x2 ||| ((1 : Int32) <<< (u3 &&& 31))) (x3 + 1) μ4 h
    · have h := h.2 q
      refine r_bipush (pc := 33) g dX6_workAt_33 cb_m9 ?_
      exact r_ireti (pc := 35) g hR dX6_workAt_35 h
theorem v_X6_workAt_14 {X : Cx} {w : Wd} {l : Launch} {D : va_G} {A : Nat → Prop} (c : Nat) (hc : isSearch c) (g : Gd X w RX6 cX6_workAt 5 rm_X6_workAt) (hX : atX X l D A) (post : Int32 → Mem → Prop) (hR : Rt X w shX 58 (some .int) (pI post)) (x1 : Int32) (x2 : Int32) (x3 : Int32) (μ : Mem) (h : T_X6_workAt_14 c post x1 x2 x3 μ) : V X 14 [(0, .ref (w.1 c)), (1, .int x1), (2, .int x2), (3, .int x3)] [] (wls w shX 58 μ) :=
  h (fun x1 x2 x3 μ => V X 14 [(0, .ref (w.1 c)), (1, .int x1), (2, .int x2), (3, .int x3)] [] (wls w shX 58 μ)) (fun x1 x2 x3 μ h => bv_X6_workAt_14 c hc g hX post hR (fun x1 x2 x3 μ => V X 14 [(0, .ref (w.1 c)), (1, .int x1), (2, .int x2), (3, .int x3)] [] (wls w shX 58 μ)) (fun _ _ _ _ h => h) x1 x2 x3 μ h)
def T_X6_workAt (c : Nat) (x1 : Int32) (μ : Mem) (post : Int32 → Mem → Prop) : Prop :=
  vp_in 0 512 ∧ T_X6_fillLongs c (μ (c + 4) (0 : Int32).toNatClampNeg) μ (fun (μ3 : Mem) => T_X6_workAt_14 c post x1 0 0 μ3)
theorem m_X6_workAt {w : Wd} {l : Launch} {D : va_G} {A : Nat → Prop} (c : Nat) (hc : isSearch c) (x1 : Int32) (μ : Mem) (post : Int32 → Mem → Prop) (h : T_X6_workAt c x1 μ post) : MetX l D A w shX 58 yX6_workAt cX6_workAt 5 (some .int) rm_X6_workAt [.ref (w.1 c), .int x1] μ (pI post) := by
  refine metX_of (by decide) rfl (lv := [(0, .ref (w.1 c)), (1, .int x1)]) rfl (fun X hX g hR => ?_)
  refine r_aload_n (pc := 0) 0 g dX6_workAt_0 rfl ?_
  refine r_aload_n (pc := 1) 0 g dX6_workAt_1 rfl ?_
  refine r_getr (pc := 2) (μ := μ) g dX6_workAt_2 fa_RX6_21 shX_out (sr_0 hc) rfl ?_
  refine r_iconst (pc := 5) g dX6_workAt_5 ci_0 ?_
  obtain ⟨b1, h⟩ := h
  refine r_iaload (pc := 6) (μ := μ) g dX6_workAt_6 shX_out (sr_4 hc) b1 ?_
  refine r_callVv (pc := 7) (st := []) g hX dX6_workAt_7 (m_X6_fillLongs c hc (μ (c + 4) (0 : Int32).toNatClampNeg) μ _ h) kb_RX6_54 kv_X6_fillLongs shX_out (sr_0 hc) rfl rfl rfl rfl (fun μ3 h => ?_)
  refine r_iconst (pc := 10) g dX6_workAt_10 ci_0 ?_
  refine r_istore_n (pc := 11) (lv' := [(2, .int 0), (0, .ref (w.1 c)), (1, .int x1)]) g dX6_workAt_11 rfl rfl ?_
  refine r_iconst (pc := 12) g dX6_workAt_12 ci_0 ?_
  refine r_istore_n (pc := 13) (lv' := [(3, .int 0), (2, .int 0), (0, .ref (w.1 c)), (1, .int x1)]) g dX6_workAt_13 rfl rfl ?_
  refine r_sub [2, 3, 1, 0] (lv' := [(0, .ref (w.1 c)), (1, .int x1), (2, .int 0), (3, .int 0)]) rfl ?_
  exact v_X6_workAt_14 c hc g hX post hR x1 0 0 μ3 h
abbrev rm_X7_renew : Room := { frames := 0, cells := 0, slots := 0, locals := 0 }
def B_X7_renew_17 (post : Mem → Prop) (P17 : Int32 → Int32 → Int32 → Mem → Prop) (x1 : Int32) (x3 : Int32) (x4 : Int32) (μ : Mem) : Prop :=
  ((x3 ≤ x4 → post μ) ∧ (¬ x3 ≤ x4 → vp_in x1 4 ∧ vp_in x4 60 ∧ P17 x1 x3 (x4 + 1) (mset μ (5 + x1.toNatClampNeg) x4.toNatClampNeg 0)))
def T_X7_renew_17 (post : Mem → Prop) (x1 : Int32) (x3 : Int32) (x4 : Int32) (μ : Mem) : Prop :=
  ∀ P17 : Int32 → Int32 → Int32 → Mem → Prop, (∀ (x1 : Int32) (x3 : Int32) (x4 : Int32) (μ : Mem), B_X7_renew_17 post P17 x1 x3 x4 μ → P17 x1 x3 x4 μ) → P17 x1 x3 x4 μ
theorem bv_X7_renew_17 {X : Cx} {w : Wd} {l : Launch} {D : va_G} {A : Nat → Prop} (g : Gd X w RX7 cX7_renew 5 rm_X7_renew) (hX : atX X l D A) (post : Mem → Prop) (hR : Rt X w shX 58 none (pV post)) (P17 : Int32 → Int32 → Int32 → Mem → Prop) (hP17 : ∀ (x1 : Int32) (x3 : Int32) (x4 : Int32) (μ : Mem), P17 x1 x3 x4 μ → V X 17 [(0, .ref (w.1 1)), (1, .int x1), (3, .int x3), (4, .int x4)] [] (wls w shX 58 μ)) (x1 : Int32) (x3 : Int32) (x4 : Int32) (μ : Mem) (h : B_X7_renew_17 post P17 x1 x3 x4 μ) : V X 17 [(0, .ref (w.1 1)), (1, .int x1), (3, .int x3), (4, .int x4)] [] (wls w shX 58 μ) := by
  refine r_iload (pc := 17) 3 g dX7_renew_17 rfl ?_
  refine r_iload_n (pc := 19) 2 g dX7_renew_19 rfl ?_
  refine r_icmp_ge (pc := 20) 39 g dX7_renew_20 rfl (fun q => ?_) (fun q => ?_)
  · have h := h.1 q
    exact r_vretv (pc := 39) g hR dX7_renew_39 h
  · have h := h.2 q
    refine r_aload_n (pc := 23) 0 g dX7_renew_23 rfl ?_
    refine r_getr (pc := 24) (μ := μ) g dX7_renew_24 fa_RX7_11 shX_out sX_1 rfl ?_
    refine r_iload_n (pc := 27) 1 g dX7_renew_27 rfl ?_
    obtain ⟨b1, h⟩ := h
    refine r_aaload (pc := 28) (μ := μ) g dX7_renew_28 (by decide) sX_2 b1 ?_
    refine r_iload (pc := 29) 3 g dX7_renew_29 rfl ?_
    refine r_iconst (pc := 31) g dX7_renew_31 ci_0 ?_
    obtain ⟨b2, h⟩ := h
    refine r_iastore (pc := 32) (μ := μ) g dX7_renew_32 shX_out (shX_rows5 b1) b2 ?_
    refine r_iinc (pc := 33) (lv' := [(4, .int (x4 + 1)), (0, .ref (w.1 1)), (1, .int x1), (3, .int x3)]) 3 g dX7_renew_33 rfl ci_1 rfl rfl ?_
    refine r_goto (pc := 36) 17 g dX7_renew_36 rfl ?_
    refine r_sub [1, 2, 3, 0] (lv' := [(0, .ref (w.1 1)), (1, .int x1), (3, .int x3), (4, .int (x4 + 1))]) rfl ?_
    exact hP17 x1 x3 (x4 + 1) (mset μ (5 + x1.toNatClampNeg) x4.toNatClampNeg 0) h
theorem v_X7_renew_17 {X : Cx} {w : Wd} {l : Launch} {D : va_G} {A : Nat → Prop} (g : Gd X w RX7 cX7_renew 5 rm_X7_renew) (hX : atX X l D A) (post : Mem → Prop) (hR : Rt X w shX 58 none (pV post)) (x1 : Int32) (x3 : Int32) (x4 : Int32) (μ : Mem) (h : T_X7_renew_17 post x1 x3 x4 μ) : V X 17 [(0, .ref (w.1 1)), (1, .int x1), (3, .int x3), (4, .int x4)] [] (wls w shX 58 μ) :=
  h (fun x1 x3 x4 μ => V X 17 [(0, .ref (w.1 1)), (1, .int x1), (3, .int x3), (4, .int x4)] [] (wls w shX 58 μ)) (fun x1 x3 x4 μ h => bv_X7_renew_17 g hX post hR (fun x1 x3 x4 μ => V X 17 [(0, .ref (w.1 1)), (1, .int x1), (3, .int x3), (4, .int x4)] [] (wls w shX 58 μ)) (fun _ _ _ _ h => h) x1 x3 x4 μ h)
def T_X7_renew (x1 : Int32) (x2 : Int32) (x3 : Int32) (μ : Mem) (post : Mem → Prop) : Prop :=
  vp_in x1 4 ∧ vp_in x1 4 ∧ T_X7_renew_17 post x1 x3 0 (mset (mset μ 3 x1.toNatClampNeg x2) 4 x1.toNatClampNeg x3)
theorem m_X7_renew {w : Wd} {l : Launch} {D : va_G} {A : Nat → Prop} (x1 : Int32) (x2 : Int32) (x3 : Int32) (μ : Mem) (post : Mem → Prop) (h : T_X7_renew x1 x2 x3 μ post) : MetX l D A w shX 58 yX7_renew cX7_renew 5 none rm_X7_renew [.ref (w.1 1), .int x1, .int x2, .int x3] μ (pV post) := by
  refine metX_of (by decide) rfl (lv := [(0, .ref (w.1 1)), (1, .int x1), (2, .int x2), (3, .int x3)]) rfl (fun X hX g hR => ?_)
  refine r_aload_n (pc := 0) 0 g dX7_renew_0 rfl ?_
  refine r_getr (pc := 1) (μ := μ) g dX7_renew_1 fa_RX7_16 shX_out sX_1 rfl ?_
  refine r_iload_n (pc := 4) 1 g dX7_renew_4 rfl ?_
  refine r_iload_n (pc := 5) 2 g dX7_renew_5 rfl ?_
  obtain ⟨b1, h⟩ := h
  refine r_iastore (pc := 6) (μ := μ) g dX7_renew_6 shX_out sX_3 b1 ?_
  refine r_aload_n (pc := 7) 0 g dX7_renew_7 rfl ?_
  refine r_getr (pc := 8) (μ := mset μ 3 x1.toNatClampNeg x2) g dX7_renew_8 fa_RX7_20 shX_out sX_1 rfl ?_
  refine r_iload_n (pc := 11) 1 g dX7_renew_11 rfl ?_
  refine r_iload_n (pc := 12) 3 g dX7_renew_12 rfl ?_
  obtain ⟨b2, h⟩ := h
  refine r_iastore (pc := 13) (μ := mset μ 3 x1.toNatClampNeg x2) g dX7_renew_13 shX_out sX_4 b2 ?_
  refine r_iconst (pc := 14) g dX7_renew_14 ci_0 ?_
  refine r_istore (pc := 15) (lv' := [(4, .int 0), (0, .ref (w.1 1)), (1, .int x1), (2, .int x2), (3, .int x3)]) g dX7_renew_15 rfl rfl ?_
  refine r_sub [1, 2, 4, 0] (lv' := [(0, .ref (w.1 1)), (1, .int x1), (3, .int x3), (4, .int 0)]) rfl ?_
  exact v_X7_renew_17 g hX post hR x1 x3 0 (mset (mset μ 3 x1.toNatClampNeg x2) 4 x1.toNatClampNeg x3) h
abbrev rm_X7_drop : Room := { frames := 0, cells := 0, slots := 0, locals := 0 }
def T_X7_drop_15 (post : Int32 → Mem → Prop) (x1 : Int32) (s0 : Int32) (μ : Mem) : Prop :=
  vp_in x1 4 ∧ vp_in x1 4 ∧ ((s0 = 0 ∨ s0 = 1) ∧ post s0 (mset (mset μ 3 x1.toNatClampNeg (-1)) 4 x1.toNatClampNeg 0))
theorem v_X7_drop_15 {X : Cx} {w : Wd} {l : Launch} {D : va_G} {A : Nat → Prop} (g : Gd X w RX7 cX7_drop 3 rm_X7_drop) (hX : atX X l D A) (post : Int32 → Mem → Prop) (hR : Rt X w shX 58 (some .boolean) (pI post)) (x1 : Int32) (s0 : Int32) (μ : Mem) (h : T_X7_drop_15 post x1 s0 μ) : V X 15 [(0, .ref (w.1 1)), (1, .int x1)] [.int s0] (wls w shX 58 μ) := by
  refine r_istore_n (pc := 15) (lv' := [(2, .int s0), (0, .ref (w.1 1)), (1, .int x1)]) g dX7_drop_15 rfl rfl ?_
  refine r_aload_n (pc := 16) 1 g dX7_drop_16 rfl ?_
  refine r_getr (pc := 17) (μ := μ) g dX7_drop_17 fa_RX7_16 shX_out sX_1 rfl ?_
  refine r_iload_n (pc := 20) 2 g dX7_drop_20 rfl ?_
  refine r_iconst (pc := 21) g dX7_drop_21 ci_m1 ?_
  obtain ⟨b1, h⟩ := h
  refine r_iastore (pc := 22) (μ := μ) g dX7_drop_22 shX_out sX_3 b1 ?_
  refine r_aload_n (pc := 23) 1 g dX7_drop_23 rfl ?_
  refine r_getr (pc := 24) (μ := mset μ 3 x1.toNatClampNeg (-1)) g dX7_drop_24 fa_RX7_20 shX_out sX_1 rfl ?_
  refine r_iload_n (pc := 27) 2 g dX7_drop_27 rfl ?_
  refine r_iconst (pc := 28) g dX7_drop_28 ci_0 ?_
  obtain ⟨b2, h⟩ := h
  refine r_iastore (pc := 29) (μ := mset μ 3 x1.toNatClampNeg (-1)) g dX7_drop_29 shX_out sX_4 b2 ?_
  refine r_iload_n (pc := 30) 0 g dX7_drop_30 rfl ?_
  exact r_zreti (pc := 31) g hR dX7_drop_31 h.1 h.2
def T_X7_drop (x1 : Int32) (μ : Mem) (post : Int32 → Mem → Prop) : Prop :=
  vp_in x1 4 ∧ (((μ 3 x1.toNatClampNeg) = (-1) → T_X7_drop_15 post x1 0 μ) ∧ (¬ (μ 3 x1.toNatClampNeg) = (-1) → T_X7_drop_15 post x1 1 μ))
theorem m_X7_drop {w : Wd} {l : Launch} {D : va_G} {A : Nat → Prop} (x1 : Int32) (μ : Mem) (post : Int32 → Mem → Prop) (h : T_X7_drop x1 μ post) : MetX l D A w shX 58 yX7_drop cX7_drop 3 (some .boolean) rm_X7_drop [.ref (w.1 1), .int x1] μ (pI post) := by
  refine metX_of (by decide) rfl (lv := [(0, .ref (w.1 1)), (1, .int x1)]) rfl (fun X hX g hR => ?_)
  refine r_aload_n (pc := 0) 0 g dX7_drop_0 rfl ?_
  refine r_getr (pc := 1) (μ := μ) g dX7_drop_1 fa_RX7_16 shX_out sX_1 rfl ?_
  refine r_iload_n (pc := 4) 1 g dX7_drop_4 rfl ?_
  obtain ⟨b1, h⟩ := h
  refine r_iaload (pc := 5) (μ := μ) g dX7_drop_5 shX_out sX_3 b1 ?_
  refine r_iconst (pc := 6) g dX7_drop_6 ci_m1 ?_
  refine r_icmp_eq (pc := 7) 14 g dX7_drop_7 rfl (fun q => ?_) (fun q => ?_)
  · have h := h.1 q
    refine r_iconst (pc := 14) g dX7_drop_14 ci_0 ?_
    refine r_sub [0, 1] (lv' := [(0, .ref (w.1 1)), (1, .int x1)]) rfl ?_
    exact v_X7_drop_15 g hX post hR x1 0 μ h
  · have h := h.2 q
    refine r_iconst (pc := 10) g dX7_drop_10 ci_1 ?_
    refine r_goto (pc := 11) 15 g dX7_drop_11 rfl ?_
    refine r_sub [0, 1] (lv' := [(0, .ref (w.1 1)), (1, .int x1)]) rfl ?_
    exact v_X7_drop_15 g hX post hR x1 1 μ h
abbrev rm_X7_write : Room := { frames := 0, cells := 0, slots := 0, locals := 0 }
def T_X7_write_33 (post : Mem → Prop) (x1 : Int32) (x2 : Int32) (x4 : Int32) (μ : Mem) : Prop :=
  vp_in x1 4 ∧ vp_in x2 60 ∧ post (mset μ (5 + x1.toNatClampNeg) x2.toNatClampNeg x4)
theorem v_X7_write_33 {X : Cx} {w : Wd} {l : Launch} {D : va_G} {A : Nat → Prop} (g : Gd X w RX7 cX7_write 5 rm_X7_write) (hX : atX X l D A) (post : Mem → Prop) (hR : Rt X w shX 58 none (pV post)) (x1 : Int32) (x2 : Int32) (x4 : Int32) (μ : Mem) (h : T_X7_write_33 post x1 x2 x4 μ) : V X 33 [(0, .ref (w.1 1)), (1, .int x1), (2, .int x2), (4, .int x4)] [] (wls w shX 58 μ) := by
  refine r_aload_n (pc := 33) 0 g dX7_write_33 rfl ?_
  refine r_getr (pc := 34) (μ := μ) g dX7_write_34 fa_RX7_11 shX_out sX_1 rfl ?_
  refine r_iload_n (pc := 37) 1 g dX7_write_37 rfl ?_
  obtain ⟨b1, h⟩ := h
  refine r_aaload (pc := 38) (μ := μ) g dX7_write_38 (by decide) sX_2 b1 ?_
  refine r_iload_n (pc := 39) 2 g dX7_write_39 rfl ?_
  refine r_iload (pc := 40) 3 g dX7_write_40 rfl ?_
  obtain ⟨b2, h⟩ := h
  refine r_iastore (pc := 42) (μ := μ) g dX7_write_42 shX_out (shX_rows5 b1) b2 ?_
  exact r_vretv (pc := 43) g hR dX7_write_43 h
def T_X7_write (x1 : Int32) (x2 : Int32) (x3 : Int32) (μ : Mem) (post : Mem → Prop) : Prop :=
  vp_in x1 4 ∧ ((¬ (μ 3 x1.toNatClampNeg) = 0 → vp_in x1 4 ∧ ((¬ (μ 3 x1.toNatClampNeg) = 1 → T_X7_write_33 post x1 x2 x3 μ) ∧ ((μ 3 x1.toNatClampNeg) = 1 → T_X7_write_33 post x1 x2 x3.toInt16.toInt32 μ))) ∧ ((μ 3 x1.toNatClampNeg) = 0 → T_X7_write_33 post x1 x2 x3.toInt8.toInt32 μ))
theorem m_X7_write {w : Wd} {l : Launch} {D : va_G} {A : Nat → Prop} (x1 : Int32) (x2 : Int32) (x3 : Int32) (μ : Mem) (post : Mem → Prop) (h : T_X7_write x1 x2 x3 μ post) : MetX l D A w shX 58 yX7_write cX7_write 5 none rm_X7_write [.ref (w.1 1), .int x1, .int x2, .int x3] μ (pV post) := by
  refine metX_of (by decide) rfl (lv := [(0, .ref (w.1 1)), (1, .int x1), (2, .int x2), (3, .int x3)]) rfl (fun X hX g hR => ?_)
  refine r_iload_n (pc := 0) 3 g dX7_write_0 rfl ?_
  refine r_istore (pc := 1) (lv' := [(4, .int x3), (0, .ref (w.1 1)), (1, .int x1), (2, .int x2), (3, .int x3)]) g dX7_write_1 rfl rfl ?_
  refine r_aload_n (pc := 3) 1 g dX7_write_3 rfl ?_
  refine r_getr (pc := 4) (μ := μ) g dX7_write_4 fa_RX7_16 shX_out sX_1 rfl ?_
  refine r_iload_n (pc := 7) 2 g dX7_write_7 rfl ?_
  obtain ⟨b1, h⟩ := h
  refine r_iaload (pc := 8) (μ := μ) g dX7_write_8 shX_out sX_3 b1 ?_
  refine r_if_ne (pc := 9) 19 g dX7_write_9 rfl (fun q => ?_) (fun q => ?_)
  · have h := h.1 q
    refine r_aload_n (pc := 19) 1 g dX7_write_19 rfl ?_
    refine r_getr (pc := 20) (μ := μ) g dX7_write_20 fa_RX7_16 shX_out sX_1 rfl ?_
    refine r_iload_n (pc := 23) 2 g dX7_write_23 rfl ?_
    obtain ⟨b2, h⟩ := h
    refine r_iaload (pc := 24) (μ := μ) g dX7_write_24 shX_out sX_3 b2 ?_
    refine r_iconst (pc := 25) g dX7_write_25 ci_1 ?_
    refine r_icmp_ne (pc := 26) 33 g dX7_write_26 rfl (fun q => ?_) (fun q => ?_)
    · have h := h.1 q
      refine r_sub [1, 2, 3, 0] (lv' := [(0, .ref (w.1 1)), (1, .int x1), (2, .int x2), (4, .int x3)]) rfl ?_
      exact v_X7_write_33 g hX post hR x1 x2 x3 μ h
    · have h := h.2 q
      refine r_iload_n (pc := 29) 4 g dX7_write_29 rfl ?_
      refine r_i2s (pc := 30) g dX7_write_30 ?_
      refine r_istore (pc := 31) (lv' := [(4, .int x3.toInt16.toInt32), (0, .ref (w.1 1)), (1, .int x1), (2, .int x2), (3, .int x3)]) g dX7_write_31 rfl rfl ?_
      refine r_sub [1, 2, 3, 0] (lv' := [(0, .ref (w.1 1)), (1, .int x1), (2, .int x2), (4, .int x3.toInt16.toInt32)]) rfl ?_
      exact v_X7_write_33 g hX post hR x1 x2 x3.toInt16.toInt32 μ h
  · have h := h.2 q
    refine r_iload_n (pc := 12) 4 g dX7_write_12 rfl ?_
    refine r_i2b (pc := 13) g dX7_write_13 ?_
    refine r_istore (pc := 14) (lv' := [(4, .int x3.toInt8.toInt32), (0, .ref (w.1 1)), (1, .int x1), (2, .int x2), (3, .int x3)]) g dX7_write_14 rfl rfl ?_
    refine r_goto (pc := 16) 33 g dX7_write_16 rfl ?_
    refine r_sub [1, 2, 3, 0] (lv' := [(0, .ref (w.1 1)), (1, .int x1), (2, .int x2), (4, .int x3.toInt8.toInt32)]) rfl ?_
    exact v_X7_write_33 g hX post hR x1 x2 x3.toInt8.toInt32 μ h
abbrev rm_X7_rowFault : Room := { frames := 0, cells := 0, slots := 0, locals := 0 }
def T_X7_rowFault (x1 : Int32) (x2 : Int32) (μ : Mem) (post : Int32 → Mem → Prop) : Prop :=
  vp_in x1 4 ∧ ((¬ (μ 3 x1.toNatClampNeg) = (-1) → vp_in x1 4 ∧ ((¬ (μ 3 x1.toNatClampNeg) = x2 → post 2 μ) ∧ ((μ 3 x1.toNatClampNeg) = x2 → post 0 μ))) ∧ ((μ 3 x1.toNatClampNeg) = (-1) → post 1 μ))
theorem m_X7_rowFault {w : Wd} {l : Launch} {D : va_G} {A : Nat → Prop} (x1 : Int32) (x2 : Int32) (μ : Mem) (post : Int32 → Mem → Prop) (h : T_X7_rowFault x1 x2 μ post) : MetX l D A w shX 58 yX7_rowFault cX7_rowFault 3 (some .int) rm_X7_rowFault [.ref (w.1 1), .int x1, .int x2] μ (pI post) := by
  refine metX_of (by decide) rfl (lv := [(0, .ref (w.1 1)), (1, .int x1), (2, .int x2)]) rfl (fun X hX g hR => ?_)
  refine r_aload_n (pc := 0) 0 g dX7_rowFault_0 rfl ?_
  refine r_getr (pc := 1) (μ := μ) g dX7_rowFault_1 fa_RX7_16 shX_out sX_1 rfl ?_
  refine r_iload_n (pc := 4) 1 g dX7_rowFault_4 rfl ?_
  obtain ⟨b1, h⟩ := h
  refine r_iaload (pc := 5) (μ := μ) g dX7_rowFault_5 shX_out sX_3 b1 ?_
  refine r_iconst (pc := 6) g dX7_rowFault_6 ci_m1 ?_
  refine r_icmp_ne (pc := 7) 12 g dX7_rowFault_7 rfl (fun q => ?_) (fun q => ?_)
  · have h := h.1 q
    refine r_aload_n (pc := 12) 0 g dX7_rowFault_12 rfl ?_
    refine r_getr (pc := 13) (μ := μ) g dX7_rowFault_13 fa_RX7_16 shX_out sX_1 rfl ?_
    refine r_iload_n (pc := 16) 1 g dX7_rowFault_16 rfl ?_
    obtain ⟨b2, h⟩ := h
    refine r_iaload (pc := 17) (μ := μ) g dX7_rowFault_17 shX_out sX_3 b2 ?_
    refine r_iload_n (pc := 18) 2 g dX7_rowFault_18 rfl ?_
    refine r_icmp_ne (pc := 19) 26 g dX7_rowFault_19 rfl (fun q => ?_) (fun q => ?_)
    · have h := h.1 q
      refine r_iconst (pc := 26) g dX7_rowFault_26 ci_2 ?_
      exact r_ireti (pc := 27) g hR dX7_rowFault_27 h
    · have h := h.2 q
      refine r_iconst (pc := 22) g dX7_rowFault_22 ci_0 ?_
      refine r_goto (pc := 23) 27 g dX7_rowFault_23 rfl ?_
      exact r_ireti (pc := 27) g hR dX7_rowFault_27 h
  · have h := h.2 q
    refine r_iconst (pc := 10) g dX7_rowFault_10 ci_1 ?_
    exact r_ireti (pc := 11) g hR dX7_rowFault_11 h
