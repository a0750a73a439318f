theorem dX12_room_0 : decode cX12_room 0 = .ok (.aload_n 0, 1) := by decide +kernel
theorem dX12_room_1 : decode cX12_room 1 = .ok (.iload_n 1, 1) := by decide +kernel
theorem dX12_room_2 : decode cX12_room 2 = .ok (.invokevirtual 157, 3) := by decide +kernel
theorem dX12_room_5 : decode cX12_room 5 = .ok (.ifCond .ne 5, 3) := by decide +kernel
theorem dX12_room_8 : decode cX12_room 8 = .ok (.iconst (-1), 1) := by decide +kernel
theorem dX12_room_9 : decode cX12_room 9 = .ok (.ireturn, 1) := by decide +kernel
theorem dX12_room_10 : decode cX12_room 10 = .ok (.iload_n 2, 1) := by decide +kernel
theorem dX12_room_11 : decode cX12_room 11 = .ok (.iconst 0, 1) := by decide +kernel
theorem dX12_room_12 : decode cX12_room 12 = .ok (.sipush 9999, 3) := by decide +kernel
theorem dX12_room_15 : decode cX12_room 15 = .ok (.invokestatic 79, 3) := by decide +kernel
theorem dX12_room_18 : decode cX12_room 18 = .ok (.ifCond .ne 6, 3) := by decide +kernel
theorem dX12_room_21 : decode cX12_room 21 = .ok (.bipush (-2), 2) := by decide +kernel
theorem dX12_room_23 : decode cX12_room 23 = .ok (.ireturn, 1) := by decide +kernel
theorem dX12_room_24 : decode cX12_room 24 = .ok (.aload_n 0, 1) := by decide +kernel
theorem dX12_room_25 : decode cX12_room 25 = .ok (.iload_n 1, 1) := by decide +kernel
theorem dX12_room_26 : decode cX12_room 26 = .ok (.invokevirtual 160, 3) := by decide +kernel
theorem dX12_room_29 : decode cX12_room 29 = .ok (.iconst 0, 1) := by decide +kernel
theorem dX12_room_30 : decode cX12_room 30 = .ok (.istore_n 3, 1) := by decide +kernel
theorem dX12_room_31 : decode cX12_room 31 = .ok (.bipush 99, 2) := by decide +kernel
theorem dX12_room_33 : decode cX12_room 33 = .ok (.istore 4, 2) := by decide +kernel
theorem dX12_room_35 : decode cX12_room 35 = .ok (.iload_n 3, 1) := by decide +kernel
theorem dX12_room_36 : decode cX12_room 36 = .ok (.iload 4, 2) := by decide +kernel
theorem dX12_room_38 : decode cX12_room 38 = .ok (.if_icmp .ge 47, 3) := by decide +kernel
theorem dX12_room_41 : decode cX12_room 41 = .ok (.iload_n 3, 1) := by decide +kernel
theorem dX12_room_42 : decode cX12_room 42 = .ok (.iload 4, 2) := by decide +kernel
theorem dX12_room_44 : decode cX12_room 44 = .ok (.iadd, 1) := by decide +kernel
theorem dX12_room_45 : decode cX12_room 45 = .ok (.iconst 2, 1) := by decide +kernel
theorem dX12_room_46 : decode cX12_room 46 = .ok (.idiv, 1) := by decide +kernel
theorem dX12_room_47 : decode cX12_room 47 = .ok (.istore 5, 2) := by decide +kernel
theorem dX12_room_49 : decode cX12_room 49 = .ok (.aload_n 0, 1) := by decide +kernel
theorem dX12_room_50 : decode cX12_room 50 = .ok (.iload 5, 2) := by decide +kernel
theorem dX12_room_52 : decode cX12_room 52 = .ok (.invokevirtual 245, 3) := by decide +kernel
theorem dX12_room_55 : decode cX12_room 55 = .ok (.istore 6, 2) := by decide +kernel
theorem dX12_room_57 : decode cX12_room 57 = .ok (.iload 6, 2) := by decide +kernel
theorem dX12_room_59 : decode cX12_room 59 = .ok (.bipush (-9), 2) := by decide +kernel
theorem dX12_room_61 : decode cX12_room 61 = .ok (.if_icmp .eq 9, 3) := by decide +kernel
theorem dX12_room_64 : decode cX12_room 64 = .ok (.iload 6, 2) := by decide +kernel
theorem dX12_room_66 : decode cX12_room 66 = .ok (.iload_n 2, 1) := by decide +kernel
theorem dX12_room_67 : decode cX12_room 67 = .ok (.if_icmp .le 11, 3) := by decide +kernel
theorem dX12_room_70 : decode cX12_room 70 = .ok (.iload 5, 2) := by decide +kernel
theorem dX12_room_72 : decode cX12_room 72 = .ok (.iconst 1, 1) := by decide +kernel
theorem dX12_room_73 : decode cX12_room 73 = .ok (.iadd, 1) := by decide +kernel
theorem dX12_room_74 : decode cX12_room 74 = .ok (.istore_n 3, 1) := by decide +kernel
theorem dX12_room_75 : decode cX12_room 75 = .ok (.goto 7, 3) := by decide +kernel
theorem dX12_room_78 : decode cX12_room 78 = .ok (.iload 5, 2) := by decide +kernel
theorem dX12_room_80 : decode cX12_room 80 = .ok (.istore 4, 2) := by decide +kernel
theorem dX12_room_82 : decode cX12_room 82 = .ok (.goto (-47), 3) := by decide +kernel
theorem dX12_room_85 : decode cX12_room 85 = .ok (.iload_n 3, 1) := by decide +kernel
theorem dX12_room_86 : decode cX12_room 86 = .ok (.ireturn, 1) := by decide +kernel
theorem dX12_two_0 : decode cX12_two 0 = .ok (.aload_n 0, 1) := by decide +kernel
theorem dX12_two_1 : decode cX12_two 1 = .ok (.getfield 83, 3) := by decide +kernel
theorem dX12_two_4 : decode cX12_two 4 = .ok (.ifCond .ne 6, 3) := by decide +kernel
theorem dX12_two_7 : decode cX12_two 7 = .ok (.bipush (-3), 2) := by decide +kernel
theorem dX12_two_9 : decode cX12_two 9 = .ok (.ireturn, 1) := by decide +kernel
theorem dX12_two_10 : decode cX12_two 10 = .ok (.iload_n 1, 1) := by decide +kernel
theorem dX12_two_11 : decode cX12_two 11 = .ok (.iconst 0, 1) := by decide +kernel
theorem dX12_two_12 : decode cX12_two 12 = .ok (.iconst 3, 1) := by decide +kernel
theorem dX12_two_13 : decode cX12_two 13 = .ok (.invokestatic 79, 3) := by decide +kernel
theorem dX12_two_16 : decode cX12_two 16 = .ok (.ifCond .ne 6, 3) := by decide +kernel
theorem dX12_two_19 : decode cX12_two 19 = .ok (.bipush (-2), 2) := by decide +kernel
theorem dX12_two_21 : decode cX12_two 21 = .ok (.ireturn, 1) := by decide +kernel
theorem dX12_two_22 : decode cX12_two 22 = .ok (.iconst 0, 1) := by decide +kernel
theorem dX12_two_23 : decode cX12_two 23 = .ok (.istore_n 2, 1) := by decide +kernel
theorem dX12_two_24 : decode cX12_two 24 = .ok (.ldc 174, 2) := by decide +kernel
theorem dX12_two_26 : decode cX12_two 26 = .ok (.istore_n 3, 1) := by decide +kernel
theorem dX12_two_27 : decode cX12_two 27 = .ok (.aload_n 0, 1) := by decide +kernel
theorem dX12_two_28 : decode cX12_two 28 = .ok (.invokevirtual 185, 3) := by decide +kernel
theorem dX12_two_31 : decode cX12_two 31 = .ok (.iconst 1, 1) := by decide +kernel
theorem dX12_two_32 : decode cX12_two 32 = .ok (.istore 4, 2) := by decide +kernel
theorem dX12_two_34 : decode cX12_two 34 = .ok (.iload 4, 2) := by decide +kernel
theorem dX12_two_36 : decode cX12_two 36 = .ok (.aload_n 0, 1) := by decide +kernel
theorem dX12_two_37 : decode cX12_two 37 = .ok (.invokevirtual 134, 3) := by decide +kernel
theorem dX12_two_40 : decode cX12_two 40 = .ok (.if_icmp .gt 60, 3) := by decide +kernel
theorem dX12_two_43 : decode cX12_two 43 = .ok (.aload_n 0, 1) := by decide +kernel
theorem dX12_two_44 : decode cX12_two 44 = .ok (.iload 4, 2) := by decide +kernel
theorem dX12_two_46 : decode cX12_two 46 = .ok (.invokevirtual 188, 3) := by decide +kernel
theorem dX12_two_49 : decode cX12_two 49 = .ok (.istore 5, 2) := by decide +kernel
theorem dX12_two_51 : decode cX12_two 51 = .ok (.aload_n 0, 1) := by decide +kernel
theorem dX12_two_52 : decode cX12_two 52 = .ok (.aload_n 0, 1) := by decide +kernel
theorem dX12_two_53 : decode cX12_two 53 = .ok (.invokevirtual 134, 3) := by decide +kernel
theorem dX12_two_56 : decode cX12_two 56 = .ok (.iload 4, 2) := by decide +kernel
theorem dX12_two_58 : decode cX12_two 58 = .ok (.iconst (-1), 1) := by decide +kernel
theorem dX12_two_59 : decode cX12_two 59 = .ok (.ixor, 1) := by decide +kernel
theorem dX12_two_60 : decode cX12_two 60 = .ok (.iand, 1) := by decide +kernel
theorem dX12_two_61 : decode cX12_two 61 = .ok (.invokevirtual 188, 3) := by decide +kernel
theorem dX12_two_64 : decode cX12_two 64 = .ok (.istore 6, 2) := by decide +kernel
theorem dX12_two_66 : decode cX12_two 66 = .ok (.iload 5, 2) := by decide +kernel
theorem dX12_two_68 : decode cX12_two 68 = .ok (.iload 6, 2) := by decide +kernel
theorem dX12_two_70 : decode cX12_two 70 = .ok (.if_icmp .le 8, 3) := by decide +kernel
theorem dX12_two_73 : decode cX12_two 73 = .ok (.iload 5, 2) := by decide +kernel
theorem dX12_two_75 : decode cX12_two 75 = .ok (.goto 5, 3) := by decide +kernel
theorem dX12_two_78 : decode cX12_two 78 = .ok (.iload 6, 2) := by decide +kernel
theorem dX12_two_80 : decode cX12_two 80 = .ok (.istore 7, 2) := by decide +kernel
theorem dX12_two_82 : decode cX12_two 82 = .ok (.iload 7, 2) := by decide +kernel
theorem dX12_two_84 : decode cX12_two 84 = .ok (.iload_n 3, 1) := by decide +kernel
theorem dX12_two_85 : decode cX12_two 85 = .ok (.if_icmp .ge 9, 3) := by decide +kernel
theorem dX12_two_88 : decode cX12_two 88 = .ok (.iload 4, 2) := by decide +kernel
theorem dX12_two_90 : decode cX12_two 90 = .ok (.istore_n 2, 1) := by decide +kernel
theorem dX12_two_91 : decode cX12_two 91 = .ok (.iload 7, 2) := by decide +kernel
theorem dX12_two_93 : decode cX12_two 93 = .ok (.istore_n 3, 1) := by decide +kernel
theorem dX12_two_94 : decode cX12_two 94 = .ok (.iinc 4 2, 3) := by decide +kernel
theorem dX12_two_97 : decode cX12_two 97 = .ok (.goto (-63), 3) := by decide +kernel
theorem dX12_two_100 : decode cX12_two 100 = .ok (.iload_n 1, 1) := by decide +kernel
theorem dX12_two_101 : decode cX12_two 101 = .ok (.ifCond .ne 7, 3) := by decide +kernel
theorem dX12_two_104 : decode cX12_two 104 = .ok (.iload_n 3, 1) := by decide +kernel
theorem dX12_two_105 : decode cX12_two 105 = .ok (.goto 37, 3) := by decide +kernel
theorem dX12_two_108 : decode cX12_two 108 = .ok (.iload_n 1, 1) := by decide +kernel
theorem dX12_two_109 : decode cX12_two 109 = .ok (.iconst 1, 1) := by decide +kernel
theorem dX12_two_110 : decode cX12_two 110 = .ok (.if_icmp .ne 7, 3) := by decide +kernel
theorem dX12_two_113 : decode cX12_two 113 = .ok (.iload_n 2, 1) := by decide +kernel
theorem dX12_two_114 : decode cX12_two 114 = .ok (.goto 28, 3) := by decide +kernel
theorem dX12_two_117 : decode cX12_two 117 = .ok (.iload_n 1, 1) := by decide +kernel
theorem dX12_two_118 : decode cX12_two 118 = .ok (.iconst 2, 1) := by decide +kernel
theorem dX12_two_119 : decode cX12_two 119 = .ok (.if_icmp .ne 11, 3) := by decide +kernel
theorem dX12_two_122 : decode cX12_two 122 = .ok (.aload_n 0, 1) := by decide +kernel
theorem dX12_two_123 : decode cX12_two 123 = .ok (.iload_n 2, 1) := by decide +kernel
theorem dX12_two_124 : decode cX12_two 124 = .ok (.invokevirtual 191, 3) := by decide +kernel
theorem dX12_two_127 : decode cX12_two 127 = .ok (.goto 15, 3) := by decide +kernel
theorem dX12_two_130 : decode cX12_two 130 = .ok (.aload_n 0, 1) := by decide +kernel
theorem dX12_two_131 : decode cX12_two 131 = .ok (.aload_n 0, 1) := by decide +kernel
theorem dX12_two_132 : decode cX12_two 132 = .ok (.invokevirtual 134, 3) := by decide +kernel
theorem dX12_two_135 : decode cX12_two 135 = .ok (.iload_n 2, 1) := by decide +kernel
theorem dX12_two_136 : decode cX12_two 136 = .ok (.iconst (-1), 1) := by decide +kernel
theorem dX12_two_137 : decode cX12_two 137 = .ok (.ixor, 1) := by decide +kernel
theorem dX12_two_138 : decode cX12_two 138 = .ok (.iand, 1) := by decide +kernel
theorem dX12_two_139 : decode cX12_two 139 = .ok (.invokevirtual 191, 3) := by decide +kernel
theorem dX12_two_142 : decode cX12_two 142 = .ok (.ireturn, 1) := by decide +kernel
theorem dX12_without_0 : decode cX12_without 0 = .ok (.aload_n 0, 1) := by decide +kernel
theorem dX12_without_1 : decode cX12_without 1 = .ok (.iload_n 1, 1) := by decide +kernel
theorem dX12_without_2 : decode cX12_without 2 = .ok (.invokevirtual 137, 3) := by decide +kernel
theorem dX12_without_5 : decode cX12_without 5 = .ok (.ifCond .eq 20, 3) := by decide +kernel
theorem dX12_without_8 : decode cX12_without 8 = .ok (.aload_n 0, 1) := by decide +kernel
theorem dX12_without_9 : decode cX12_without 9 = .ok (.aload_n 0, 1) := by decide +kernel
theorem dX12_without_10 : decode cX12_without 10 = .ok (.invokevirtual 134, 3) := by decide +kernel
theorem dX12_without_13 : decode cX12_without 13 = .ok (.iconst 1, 1) := by decide +kernel
theorem dX12_without_14 : decode cX12_without 14 = .ok (.iload_n 1, 1) := by decide +kernel
theorem dX12_without_15 : decode cX12_without 15 = .ok (.ishl, 1) := by decide +kernel
theorem dX12_without_16 : decode cX12_without 16 = .ok (.iconst (-1), 1) := by decide +kernel
theorem dX12_without_17 : decode cX12_without 17 = .ok (.ixor, 1) := by decide +kernel
theorem dX12_without_18 : decode cX12_without 18 = .ok (.iand, 1) := by decide +kernel
theorem dX12_without_19 : decode cX12_without 19 = .ok (.invokevirtual 191, 3) := by decide +kernel
theorem dX12_without_22 : decode cX12_without 22 = .ok (.goto 4, 3) := by decide +kernel
theorem dX12_without_25 : decode cX12_without 25 = .ok (.iconst (-1), 1) := by decide +kernel
theorem dX12_without_26 : decode cX12_without 26 = .ok (.ireturn, 1) := by decide +kernel
theorem dX12_why_0 : decode cX12_why 0 = .ok (.aload_n 0, 1) := by decide +kernel
theorem dX12_why_1 : decode cX12_why 1 = .ok (.iload_n 1, 1) := by decide +kernel
theorem dX12_why_2 : decode cX12_why 2 = .ok (.invokevirtual 137, 3) := by decide +kernel
theorem dX12_why_5 : decode cX12_why 5 = .ok (.ifCond .eq 11, 3) := by decide +kernel
theorem dX12_why_8 : decode cX12_why 8 = .ok (.aload_n 0, 1) := by decide +kernel
theorem dX12_why_9 : decode cX12_why 9 = .ok (.iload_n 2, 1) := by decide +kernel
theorem dX12_why_10 : decode cX12_why 10 = .ok (.invokevirtual 137, 3) := by decide +kernel
theorem dX12_why_13 : decode cX12_why 13 = .ok (.ifCond .ne 5, 3) := by decide +kernel
theorem dX12_why_16 : decode cX12_why 16 = .ok (.iconst (-1), 1) := by decide +kernel
theorem dX12_why_17 : decode cX12_why 17 = .ok (.ireturn, 1) := by decide +kernel
theorem dX12_why_18 : decode cX12_why 18 = .ok (.aload_n 0, 1) := by decide +kernel
theorem dX12_why_19 : decode cX12_why 19 = .ok (.getfield 22, 3) := by decide +kernel
theorem dX12_why_22 : decode cX12_why 22 = .ok (.iload_n 2, 1) := by decide +kernel
theorem dX12_why_23 : decode cX12_why 23 = .ok (.iaload, 1) := by decide +kernel
theorem dX12_why_24 : decode cX12_why 24 = .ok (.iload_n 1, 1) := by decide +kernel
theorem dX12_why_25 : decode cX12_why 25 = .ok (.invokestatic 96, 3) := by decide +kernel
theorem dX12_why_28 : decode cX12_why 28 = .ok (.ifCond .ne 6, 3) := by decide +kernel
theorem dX12_why_31 : decode cX12_why 31 = .ok (.bipush (-3), 2) := by decide +kernel
theorem dX12_why_33 : decode cX12_why 33 = .ok (.ireturn, 1) := by decide +kernel
theorem dX12_why_34 : decode cX12_why 34 = .ok (.aload_n 0, 1) := by decide +kernel
theorem dX12_why_35 : decode cX12_why 35 = .ok (.getfield 22, 3) := by decide +kernel
theorem dX12_why_38 : decode cX12_why 38 = .ok (.iload_n 2, 1) := by decide +kernel
theorem dX12_why_39 : decode cX12_why 39 = .ok (.dup2, 1) := by decide +kernel
theorem dX12_why_40 : decode cX12_why 40 = .ok (.iaload, 1) := by decide +kernel
theorem dX12_why_41 : decode cX12_why 41 = .ok (.iconst 1, 1) := by decide +kernel
theorem dX12_why_42 : decode cX12_why 42 = .ok (.iload_n 1, 1) := by decide +kernel
theorem dX12_why_43 : decode cX12_why 43 = .ok (.ishl, 1) := by decide +kernel
theorem dX12_why_44 : decode cX12_why 44 = .ok (.iconst (-1), 1) := by decide +kernel
theorem dX12_why_45 : decode cX12_why 45 = .ok (.ixor, 1) := by decide +kernel
theorem dX12_why_46 : decode cX12_why 46 = .ok (.iand, 1) := by decide +kernel
theorem dX12_why_47 : decode cX12_why 47 = .ok (.iastore, 1) := by decide +kernel
theorem dX12_why_48 : decode cX12_why 48 = .ok (.aload_n 0, 1) := by decide +kernel
theorem dX12_why_49 : decode cX12_why 49 = .ok (.aload_n 0, 1) := by decide +kernel
theorem dX12_why_50 : decode cX12_why 50 = .ok (.invokevirtual 134, 3) := by decide +kernel
theorem dX12_why_53 : decode cX12_why 53 = .ok (.invokevirtual 191, 3) := by decide +kernel
theorem dX12_why_56 : decode cX12_why 56 = .ok (.istore_n 3, 1) := by decide +kernel
theorem dX12_why_57 : decode cX12_why 57 = .ok (.aload_n 0, 1) := by decide +kernel
theorem dX12_why_58 : decode cX12_why 58 = .ok (.getfield 22, 3) := by decide +kernel
theorem dX12_why_61 : decode cX12_why 61 = .ok (.iload_n 2, 1) := by decide +kernel
theorem dX12_why_62 : decode cX12_why 62 = .ok (.dup2, 1) := by decide +kernel
theorem dX12_why_63 : decode cX12_why 63 = .ok (.iaload, 1) := by decide +kernel
theorem dX12_why_64 : decode cX12_why 64 = .ok (.iconst 1, 1) := by decide +kernel
theorem dX12_why_65 : decode cX12_why 65 = .ok (.iload_n 1, 1) := by decide +kernel
theorem dX12_why_66 : decode cX12_why 66 = .ok (.ishl, 1) := by decide +kernel
theorem dX12_why_67 : decode cX12_why 67 = .ok (.ior, 1) := by decide +kernel
theorem dX12_why_68 : decode cX12_why 68 = .ok (.iastore, 1) := by decide +kernel
theorem dX12_why_69 : decode cX12_why 69 = .ok (.iload_n 3, 1) := by decide +kernel
theorem dX12_why_70 : decode cX12_why 70 = .ok (.ireturn, 1) := by decide +kernel
theorem dX12_widest_0 : decode cX12_widest 0 = .ok (.bipush (-9), 2) := by decide +kernel
theorem dX12_widest_2 : decode cX12_widest 2 = .ok (.istore_n 1, 1) := by decide +kernel
theorem dX12_widest_3 : decode cX12_widest 3 = .ok (.ldc 174, 2) := by decide +kernel
theorem dX12_widest_5 : decode cX12_widest 5 = .ok (.istore_n 2, 1) := by decide +kernel
theorem dX12_widest_6 : decode cX12_widest 6 = .ok (.iconst 0, 1) := by decide +kernel
theorem dX12_widest_7 : decode cX12_widest 7 = .ok (.istore_n 3, 1) := by decide +kernel
theorem dX12_widest_8 : decode cX12_widest 8 = .ok (.iload_n 3, 1) := by decide +kernel
theorem dX12_widest_9 : decode cX12_widest 9 = .ok (.aload_n 0, 1) := by decide +kernel
theorem dX12_widest_10 : decode cX12_widest 10 = .ok (.getfield 83, 3) := by decide +kernel
theorem dX12_widest_13 : decode cX12_widest 13 = .ok (.if_icmp .ge 36, 3) := by decide +kernel
theorem dX12_widest_16 : decode cX12_widest 16 = .ok (.aload_n 0, 1) := by decide +kernel
theorem dX12_widest_17 : decode cX12_widest 17 = .ok (.aload_n 0, 1) := by decide +kernel
theorem dX12_widest_18 : decode cX12_widest 18 = .ok (.invokevirtual 134, 3) := by decide +kernel
theorem dX12_widest_21 : decode cX12_widest 21 = .ok (.iconst 1, 1) := by decide +kernel
theorem dX12_widest_22 : decode cX12_widest 22 = .ok (.iload_n 3, 1) := by decide +kernel
theorem dX12_widest_23 : decode cX12_widest 23 = .ok (.ishl, 1) := by decide +kernel
theorem dX12_widest_24 : decode cX12_widest 24 = .ok (.iconst (-1), 1) := by decide +kernel
theorem dX12_widest_25 : decode cX12_widest 25 = .ok (.ixor, 1) := by decide +kernel
theorem dX12_widest_26 : decode cX12_widest 26 = .ok (.iand, 1) := by decide +kernel
theorem dX12_widest_27 : decode cX12_widest 27 = .ok (.invokevirtual 191, 3) := by decide +kernel
theorem dX12_widest_30 : decode cX12_widest 30 = .ok (.istore 4, 2) := by decide +kernel
theorem dX12_widest_32 : decode cX12_widest 32 = .ok (.iload 4, 2) := by decide +kernel
theorem dX12_widest_34 : decode cX12_widest 34 = .ok (.iload_n 2, 1) := by decide +kernel
theorem dX12_widest_35 : decode cX12_widest 35 = .ok (.if_icmp .ge 8, 3) := by decide +kernel
theorem dX12_widest_38 : decode cX12_widest 38 = .ok (.iload_n 3, 1) := by decide +kernel
theorem dX12_widest_39 : decode cX12_widest 39 = .ok (.istore_n 1, 1) := by decide +kernel
theorem dX12_widest_40 : decode cX12_widest 40 = .ok (.iload 4, 2) := by decide +kernel
theorem dX12_widest_42 : decode cX12_widest 42 = .ok (.istore_n 2, 1) := by decide +kernel
theorem dX12_widest_43 : decode cX12_widest 43 = .ok (.iinc 3 1, 3) := by decide +kernel
theorem dX12_widest_46 : decode cX12_widest 46 = .ok (.goto (-38), 3) := by decide +kernel
theorem dX12_widest_49 : decode cX12_widest 49 = .ok (.iload_n 1, 1) := by decide +kernel
theorem dX12_widest_50 : decode cX12_widest 50 = .ok (.ireturn, 1) := by decide +kernel
theorem dX12_sheet_0 : decode cX12_sheet 0 = .ok (.aload_n 0, 1) := by decide +kernel
theorem dX12_sheet_1 : decode cX12_sheet 1 = .ok (.iconst 0, 1) := by decide +kernel
theorem dX12_sheet_2 : decode cX12_sheet 2 = .ok (.putfield 73, 3) := by decide +kernel
theorem dX12_sheet_5 : decode cX12_sheet 5 = .ok (.iload_n 1, 1) := by decide +kernel
theorem dX12_sheet_6 : decode cX12_sheet 6 = .ok (.invokestatic 113, 3) := by decide +kernel
theorem dX12_sheet_9 : decode cX12_sheet 9 = .ok (.ifCond .ne 5, 3) := by decide +kernel
theorem dX12_sheet_12 : decode cX12_sheet 12 = .ok (.iconst (-1), 1) := by decide +kernel
theorem dX12_sheet_13 : decode cX12_sheet 13 = .ok (.ireturn, 1) := by decide +kernel
theorem dX12_sheet_14 : decode cX12_sheet 14 = .ok (.iload_n 2, 1) := by decide +kernel
theorem dX12_sheet_15 : decode cX12_sheet 15 = .ok (.invokestatic 117, 3) := by decide +kernel
theorem dX12_sheet_18 : decode cX12_sheet 18 = .ok (.ifCond .eq 9, 3) := by decide +kernel
theorem dX12_sheet_21 : decode cX12_sheet 21 = .ok (.iload_n 3, 1) := by decide +kernel
theorem dX12_sheet_22 : decode cX12_sheet 22 = .ok (.bipush 60, 2) := by decide +kernel
theorem dX12_sheet_24 : decode cX12_sheet 24 = .ok (.if_icmp .le 6, 3) := by decide +kernel
theorem dX12_sheet_27 : decode cX12_sheet 27 = .ok (.bipush (-2), 2) := by decide +kernel
theorem dX12_sheet_29 : decode cX12_sheet 29 = .ok (.ireturn, 1) := by decide +kernel
theorem dX12_sheet_30 : decode cX12_sheet 30 = .ok (.iload_n 3, 1) := by decide +kernel
theorem dX12_sheet_31 : decode cX12_sheet 31 = .ok (.ifCond .ge 9, 3) := by decide +kernel
theorem dX12_sheet_34 : decode cX12_sheet 34 = .ok (.aload_n 0, 1) := by decide +kernel
theorem dX12_sheet_35 : decode cX12_sheet 35 = .ok (.iconst 4, 1) := by decide +kernel
theorem dX12_sheet_36 : decode cX12_sheet 36 = .ok (.invokevirtual 124, 3) := by decide +kernel
theorem dX12_sheet_39 : decode cX12_sheet 39 = .ok (.ireturn, 1) := by decide +kernel
theorem dX12_sheet_40 : decode cX12_sheet 40 = .ok (.aload_n 0, 1) := by decide +kernel
theorem dX12_sheet_41 : decode cX12_sheet 41 = .ok (.getfield 9, 3) := by decide +kernel
theorem dX12_sheet_44 : decode cX12_sheet 44 = .ok (.iload_n 1, 1) := by decide +kernel
theorem dX12_sheet_45 : decode cX12_sheet 45 = .ok (.iload_n 2, 1) := by decide +kernel
theorem dX12_sheet_46 : decode cX12_sheet 46 = .ok (.iastore, 1) := by decide +kernel
theorem dX12_sheet_47 : decode cX12_sheet 47 = .ok (.aload_n 0, 1) := by decide +kernel
theorem dX12_sheet_48 : decode cX12_sheet 48 = .ok (.getfield 13, 3) := by decide +kernel
theorem dX12_sheet_51 : decode cX12_sheet 51 = .ok (.iload_n 1, 1) := by decide +kernel
theorem dX12_sheet_52 : decode cX12_sheet 52 = .ok (.iload_n 3, 1) := by decide +kernel
theorem dX12_sheet_53 : decode cX12_sheet 53 = .ok (.iastore, 1) := by decide +kernel
theorem dX12_sheet_54 : decode cX12_sheet 54 = .ok (.iconst 0, 1) := by decide +kernel
theorem dX12_sheet_55 : decode cX12_sheet 55 = .ok (.istore 4, 2) := by decide +kernel
theorem dX12_sheet_57 : decode cX12_sheet 57 = .ok (.iload 4, 2) := by decide +kernel
theorem dX12_sheet_59 : decode cX12_sheet 59 = .ok (.bipush 60, 2) := by decide +kernel
theorem dX12_sheet_61 : decode cX12_sheet 61 = .ok (.if_icmp .ge 22, 3) := by decide +kernel
theorem dX12_sheet_64 : decode cX12_sheet 64 = .ok (.aload_n 0, 1) := by decide +kernel
theorem dX12_sheet_65 : decode cX12_sheet 65 = .ok (.getfield 16, 3) := by decide +kernel
theorem dX12_sheet_68 : decode cX12_sheet 68 = .ok (.bipush 60, 2) := by decide +kernel
theorem dX12_sheet_70 : decode cX12_sheet 70 = .ok (.iload_n 1, 1) := by decide +kernel
theorem dX12_sheet_71 : decode cX12_sheet 71 = .ok (.imul, 1) := by decide +kernel
theorem dX12_sheet_72 : decode cX12_sheet 72 = .ok (.iload 4, 2) := by decide +kernel
theorem dX12_sheet_74 : decode cX12_sheet 74 = .ok (.iadd, 1) := by decide +kernel
theorem dX12_sheet_75 : decode cX12_sheet 75 = .ok (.iconst 0, 1) := by decide +kernel
theorem dX12_sheet_76 : decode cX12_sheet 76 = .ok (.iastore, 1) := by decide +kernel
theorem dX12_sheet_77 : decode cX12_sheet 77 = .ok (.iinc 4 1, 3) := by decide +kernel
theorem dX12_sheet_80 : decode cX12_sheet 80 = .ok (.goto (-23), 3) := by decide +kernel
theorem dX12_sheet_83 : decode cX12_sheet 83 = .ok (.iconst 1, 1) := by decide +kernel
theorem dX12_sheet_84 : decode cX12_sheet 84 = .ok (.ireturn, 1) := by decide +kernel
theorem dX12_lose_0 : decode cX12_lose 0 = .ok (.iload_n 1, 1) := by decide +kernel
theorem dX12_lose_1 : decode cX12_lose 1 = .ok (.invokestatic 113, 3) := by decide +kernel
theorem dX12_lose_4 : decode cX12_lose 4 = .ok (.ifCond .ne 5, 3) := by decide +kernel
theorem dX12_lose_7 : decode cX12_lose 7 = .ok (.iconst (-1), 1) := by decide +kernel
theorem dX12_lose_8 : decode cX12_lose 8 = .ok (.ireturn, 1) := by decide +kernel
theorem dX12_lose_9 : decode cX12_lose 9 = .ok (.aload_n 0, 1) := by decide +kernel
theorem dX12_lose_10 : decode cX12_lose 10 = .ok (.getfield 9, 3) := by decide +kernel
theorem dX12_lose_13 : decode cX12_lose 13 = .ok (.iload_n 1, 1) := by decide +kernel
theorem dX12_lose_14 : decode cX12_lose 14 = .ok (.iaload, 1) := by decide +kernel
theorem dX12_lose_15 : decode cX12_lose 15 = .ok (.bipush (-9), 2) := by decide +kernel
theorem dX12_lose_17 : decode cX12_lose 17 = .ok (.if_icmp .ne 7, 3) := by decide +kernel
theorem dX12_lose_20 : decode cX12_lose 20 = .ok (.iconst 0, 1) := by decide +kernel
theorem dX12_lose_21 : decode cX12_lose 21 = .ok (.goto 4, 3) := by decide +kernel
theorem dX12_lose_24 : decode cX12_lose 24 = .ok (.iconst 1, 1) := by decide +kernel
theorem dX12_lose_25 : decode cX12_lose 25 = .ok (.istore_n 2, 1) := by decide +kernel
theorem dX12_lose_26 : decode cX12_lose 26 = .ok (.aload_n 0, 1) := by decide +kernel
theorem dX12_lose_27 : decode cX12_lose 27 = .ok (.getfield 9, 3) := by decide +kernel
theorem dX12_lose_30 : decode cX12_lose 30 = .ok (.iload_n 1, 1) := by decide +kernel
theorem dX12_lose_31 : decode cX12_lose 31 = .ok (.bipush (-9), 2) := by decide +kernel
theorem dX12_lose_33 : decode cX12_lose 33 = .ok (.iastore, 1) := by decide +kernel
theorem dX12_lose_34 : decode cX12_lose 34 = .ok (.iload_n 2, 1) := by decide +kernel
theorem dX12_lose_35 : decode cX12_lose 35 = .ok (.ireturn, 1) := by decide +kernel
theorem dX12_put_0 : decode cX12_put 0 = .ok (.aload_n 0, 1) := by decide +kernel
theorem dX12_put_1 : decode cX12_put 1 = .ok (.iconst 0, 1) := by decide +kernel
theorem dX12_put_2 : decode cX12_put 2 = .ok (.putfield 73, 3) := by decide +kernel
theorem dX12_put_5 : decode cX12_put 5 = .ok (.iload_n 1, 1) := by decide +kernel
theorem dX12_put_6 : decode cX12_put 6 = .ok (.invokestatic 113, 3) := by decide +kernel
theorem dX12_put_9 : decode cX12_put 9 = .ok (.ifCond .ne 5, 3) := by decide +kernel
theorem dX12_put_12 : decode cX12_put 12 = .ok (.iconst (-1), 1) := by decide +kernel
theorem dX12_put_13 : decode cX12_put 13 = .ok (.ireturn, 1) := by decide +kernel
theorem dX12_put_14 : decode cX12_put 14 = .ok (.aload_n 0, 1) := by decide +kernel
theorem dX12_put_15 : decode cX12_put 15 = .ok (.getfield 9, 3) := by decide +kernel
theorem dX12_put_18 : decode cX12_put 18 = .ok (.iload_n 1, 1) := by decide +kernel
theorem dX12_put_19 : decode cX12_put 19 = .ok (.iaload, 1) := by decide +kernel
theorem dX12_put_20 : decode cX12_put 20 = .ok (.bipush (-9), 2) := by decide +kernel
theorem dX12_put_22 : decode cX12_put 22 = .ok (.if_icmp .ne 9, 3) := by decide +kernel
theorem dX12_put_25 : decode cX12_put 25 = .ok (.aload_n 0, 1) := by decide +kernel
theorem dX12_put_26 : decode cX12_put 26 = .ok (.iconst 1, 1) := by decide +kernel
theorem dX12_put_27 : decode cX12_put 27 = .ok (.invokevirtual 124, 3) := by decide +kernel
theorem dX12_put_30 : decode cX12_put 30 = .ok (.ireturn, 1) := by decide +kernel
theorem dX12_put_31 : decode cX12_put 31 = .ok (.iload_n 2, 1) := by decide +kernel
theorem dX12_put_32 : decode cX12_put 32 = .ok (.iconst 0, 1) := by decide +kernel
theorem dX12_put_33 : decode cX12_put 33 = .ok (.aload_n 0, 1) := by decide +kernel
theorem dX12_put_34 : decode cX12_put 34 = .ok (.getfield 13, 3) := by decide +kernel
theorem dX12_put_37 : decode cX12_put 37 = .ok (.iload_n 1, 1) := by decide +kernel
theorem dX12_put_38 : decode cX12_put 38 = .ok (.iaload, 1) := by decide +kernel
theorem dX12_put_39 : decode cX12_put 39 = .ok (.iconst 1, 1) := by decide +kernel
theorem dX12_put_40 : decode cX12_put 40 = .ok (.isub, 1) := by decide +kernel
theorem dX12_put_41 : decode cX12_put 41 = .ok (.invokestatic 79, 3) := by decide +kernel
theorem dX12_put_44 : decode cX12_put 44 = .ok (.ifCond .ne 9, 3) := by decide +kernel
theorem dX12_put_47 : decode cX12_put 47 = .ok (.aload_n 0, 1) := by decide +kernel
theorem dX12_put_48 : decode cX12_put 48 = .ok (.iconst 3, 1) := by decide +kernel
theorem dX12_put_49 : decode cX12_put 49 = .ok (.invokevirtual 124, 3) := by decide +kernel
theorem dX12_put_52 : decode cX12_put 52 = .ok (.ireturn, 1) := by decide +kernel
theorem dX12_put_53 : decode cX12_put 53 = .ok (.aload_n 0, 1) := by decide +kernel
theorem dX12_put_54 : decode cX12_put 54 = .ok (.getfield 16, 3) := by decide +kernel
theorem dX12_put_57 : decode cX12_put 57 = .ok (.bipush 60, 2) := by decide +kernel
theorem dX12_put_59 : decode cX12_put 59 = .ok (.iload_n 1, 1) := by decide +kernel
theorem dX12_put_60 : decode cX12_put 60 = .ok (.imul, 1) := by decide +kernel
theorem dX12_put_61 : decode cX12_put 61 = .ok (.iload_n 2, 1) := by decide +kernel
theorem dX12_put_62 : decode cX12_put 62 = .ok (.iadd, 1) := by decide +kernel
theorem dX12_put_63 : decode cX12_put 63 = .ok (.aload_n 0, 1) := by decide +kernel
theorem dX12_put_64 : decode cX12_put 64 = .ok (.getfield 9, 3) := by decide +kernel
theorem dX12_put_67 : decode cX12_put 67 = .ok (.iload_n 1, 1) := by decide +kernel
theorem dX12_put_68 : decode cX12_put 68 = .ok (.iaload, 1) := by decide +kernel
theorem dX12_put_69 : decode cX12_put 69 = .ok (.ifCond .ne 8, 3) := by decide +kernel
theorem dX12_put_72 : decode cX12_put 72 = .ok (.iload_n 3, 1) := by decide +kernel
theorem dX12_put_73 : decode cX12_put 73 = .ok (.i2b, 1) := by decide +kernel
theorem dX12_put_74 : decode cX12_put 74 = .ok (.goto 19, 3) := by decide +kernel
theorem dX12_put_77 : decode cX12_put 77 = .ok (.aload_n 0, 1) := by decide +kernel
theorem dX12_put_78 : decode cX12_put 78 = .ok (.getfield 9, 3) := by decide +kernel
theorem dX12_put_81 : decode cX12_put 81 = .ok (.iload_n 1, 1) := by decide +kernel
theorem dX12_put_82 : decode cX12_put 82 = .ok (.iaload, 1) := by decide +kernel
theorem dX12_put_83 : decode cX12_put 83 = .ok (.iconst 1, 1) := by decide +kernel
theorem dX12_put_84 : decode cX12_put 84 = .ok (.if_icmp .ne 8, 3) := by decide +kernel
theorem dX12_put_87 : decode cX12_put 87 = .ok (.iload_n 3, 1) := by decide +kernel
theorem dX12_put_88 : decode cX12_put 88 = .ok (.i2s, 1) := by decide +kernel
theorem dX12_put_89 : decode cX12_put 89 = .ok (.goto 4, 3) := by decide +kernel
theorem dX12_put_92 : decode cX12_put 92 = .ok (.iload_n 3, 1) := by decide +kernel
theorem dX12_put_93 : decode cX12_put 93 = .ok (.iastore, 1) := by decide +kernel
theorem dX12_put_94 : decode cX12_put 94 = .ok (.iconst 1, 1) := by decide +kernel
theorem dX12_put_95 : decode cX12_put 95 = .ok (.ireturn, 1) := by decide +kernel
theorem dX12_cell_0 : decode cX12_cell 0 = .ok (.aload_n 0, 1) := by decide +kernel
theorem dX12_cell_1 : decode cX12_cell 1 = .ok (.iconst 0, 1) := by decide +kernel
theorem dX12_cell_2 : decode cX12_cell 2 = .ok (.putfield 73, 3) := by decide +kernel
theorem dX12_cell_5 : decode cX12_cell 5 = .ok (.iload_n 1, 1) := by decide +kernel
theorem dX12_cell_6 : decode cX12_cell 6 = .ok (.invokestatic 113, 3) := by decide +kernel
theorem dX12_cell_9 : decode cX12_cell 9 = .ok (.ifCond .eq 10, 3) := by decide +kernel
theorem dX12_cell_12 : decode cX12_cell 12 = .ok (.iload_n 3, 1) := by decide +kernel
theorem dX12_cell_13 : decode cX12_cell 13 = .ok (.invokestatic 117, 3) := by decide +kernel
theorem dX12_cell_16 : decode cX12_cell 16 = .ok (.ifCond .ne 7, 3) := by decide +kernel
theorem dX12_cell_19 : decode cX12_cell 19 = .ok (.ldc2_w 77, 3) := by decide +kernel
theorem dX12_cell_22 : decode cX12_cell 22 = .ok (.lreturn, 1) := by decide +kernel
theorem dX12_cell_23 : decode cX12_cell 23 = .ok (.aload_n 0, 1) := by decide +kernel
theorem dX12_cell_24 : decode cX12_cell 24 = .ok (.getfield 9, 3) := by decide +kernel
theorem dX12_cell_27 : decode cX12_cell 27 = .ok (.iload_n 1, 1) := by decide +kernel
theorem dX12_cell_28 : decode cX12_cell 28 = .ok (.iaload, 1) := by decide +kernel
theorem dX12_cell_29 : decode cX12_cell 29 = .ok (.bipush (-9), 2) := by decide +kernel
theorem dX12_cell_31 : decode cX12_cell 31 = .ok (.if_icmp .eq 19, 3) := by decide +kernel
theorem dX12_cell_34 : decode cX12_cell 34 = .ok (.aload_n 0, 1) := by decide +kernel
theorem dX12_cell_35 : decode cX12_cell 35 = .ok (.getfield 9, 3) := by decide +kernel
theorem dX12_cell_38 : decode cX12_cell 38 = .ok (.iload_n 1, 1) := by decide +kernel
theorem dX12_cell_39 : decode cX12_cell 39 = .ok (.iaload, 1) := by decide +kernel
theorem dX12_cell_40 : decode cX12_cell 40 = .ok (.iload_n 3, 1) := by decide +kernel
theorem dX12_cell_41 : decode cX12_cell 41 = .ok (.if_icmp .eq 9, 3) := by decide +kernel
theorem dX12_cell_44 : decode cX12_cell 44 = .ok (.aload_n 0, 1) := by decide +kernel
theorem dX12_cell_45 : decode cX12_cell 45 = .ok (.iconst 2, 1) := by decide +kernel
theorem dX12_cell_46 : decode cX12_cell 46 = .ok (.invokevirtual 248, 3) := by decide +kernel
theorem dX12_cell_49 : decode cX12_cell 49 = .ok (.lreturn, 1) := by decide +kernel
theorem dX12_cell_50 : decode cX12_cell 50 = .ok (.aload_n 0, 1) := by decide +kernel
theorem dX12_cell_51 : decode cX12_cell 51 = .ok (.getfield 9, 3) := by decide +kernel
theorem dX12_cell_54 : decode cX12_cell 54 = .ok (.iload_n 1, 1) := by decide +kernel
theorem dX12_cell_55 : decode cX12_cell 55 = .ok (.iaload, 1) := by decide +kernel
theorem dX12_cell_56 : decode cX12_cell 56 = .ok (.bipush (-9), 2) := by decide +kernel
theorem dX12_cell_58 : decode cX12_cell 58 = .ok (.if_icmp .ne 9, 3) := by decide +kernel
theorem dX12_cell_61 : decode cX12_cell 61 = .ok (.aload_n 0, 1) := by decide +kernel
theorem dX12_cell_62 : decode cX12_cell 62 = .ok (.iconst 1, 1) := by decide +kernel
theorem dX12_cell_63 : decode cX12_cell 63 = .ok (.invokevirtual 248, 3) := by decide +kernel
theorem dX12_cell_66 : decode cX12_cell 66 = .ok (.lreturn, 1) := by decide +kernel
theorem dX12_cell_67 : decode cX12_cell 67 = .ok (.iload_n 2, 1) := by decide +kernel
theorem dX12_cell_68 : decode cX12_cell 68 = .ok (.iconst 0, 1) := by decide +kernel
theorem dX12_cell_69 : decode cX12_cell 69 = .ok (.aload_n 0, 1) := by decide +kernel
theorem dX12_cell_70 : decode cX12_cell 70 = .ok (.getfield 13, 3) := by decide +kernel
theorem dX12_cell_73 : decode cX12_cell 73 = .ok (.iload_n 1, 1) := by decide +kernel
theorem dX12_cell_74 : decode cX12_cell 74 = .ok (.iaload, 1) := by decide +kernel
theorem dX12_cell_75 : decode cX12_cell 75 = .ok (.iconst 1, 1) := by decide +kernel
theorem dX12_cell_76 : decode cX12_cell 76 = .ok (.isub, 1) := by decide +kernel
theorem dX12_cell_77 : decode cX12_cell 77 = .ok (.invokestatic 79, 3) := by decide +kernel
theorem dX12_cell_80 : decode cX12_cell 80 = .ok (.ifCond .ne 9, 3) := by decide +kernel
theorem dX12_cell_83 : decode cX12_cell 83 = .ok (.aload_n 0, 1) := by decide +kernel
theorem dX12_cell_84 : decode cX12_cell 84 = .ok (.iconst 3, 1) := by decide +kernel
theorem dX12_cell_85 : decode cX12_cell 85 = .ok (.invokevirtual 248, 3) := by decide +kernel
theorem dX12_cell_88 : decode cX12_cell 88 = .ok (.lreturn, 1) := by decide +kernel
theorem dX12_cell_89 : decode cX12_cell 89 = .ok (.aload_n 0, 1) := by decide +kernel
theorem dX12_cell_90 : decode cX12_cell 90 = .ok (.getfield 16, 3) := by decide +kernel
theorem dX12_cell_93 : decode cX12_cell 93 = .ok (.bipush 60, 2) := by decide +kernel
theorem dX12_cell_95 : decode cX12_cell 95 = .ok (.iload_n 1, 1) := by decide +kernel
theorem dX12_cell_96 : decode cX12_cell 96 = .ok (.imul, 1) := by decide +kernel
theorem dX12_cell_97 : decode cX12_cell 97 = .ok (.iload_n 2, 1) := by decide +kernel
theorem dX12_cell_98 : decode cX12_cell 98 = .ok (.iadd, 1) := by decide +kernel
theorem dX12_cell_99 : decode cX12_cell 99 = .ok (.iaload, 1) := by decide +kernel
theorem dX12_cell_100 : decode cX12_cell 100 = .ok (.i2l, 1) := by decide +kernel
theorem dX12_cell_101 : decode cX12_cell 101 = .ok (.lreturn, 1) := by decide +kernel
theorem dX12_begins_0 : decode cX12_begins 0 = .ok (.aload_n 0, 1) := by decide +kernel
theorem dX12_begins_1 : decode cX12_begins 1 = .ok (.bipush 31, 2) := by decide +kernel
theorem dX12_begins_3 : decode cX12_begins 3 = .ok (.aload_n 0, 1) := by decide +kernel
theorem dX12_begins_4 : decode cX12_begins 4 = .ok (.getfield 252, 3) := by decide +kernel
theorem dX12_begins_7 : decode cX12_begins 7 = .ok (.imul, 1) := by decide +kernel
theorem dX12_begins_8 : decode cX12_begins 8 = .ok (.iload_n 1, 1) := by decide +kernel
theorem dX12_begins_9 : decode cX12_begins 9 = .ok (.iadd, 1) := by decide +kernel
theorem dX12_begins_10 : decode cX12_begins 10 = .ok (.putfield 252, 3) := by decide +kernel
theorem dX12_begins_13 : decode cX12_begins 13 = .ok (.return_, 1) := by decide +kernel
theorem dX12_tell_0 : decode cX12_tell 0 = .ok (.aload_n 0, 1) := by decide +kernel
theorem dX12_tell_1 : decode cX12_tell 1 = .ok (.iload_n 1, 1) := by decide +kernel
theorem dX12_tell_2 : decode cX12_tell 2 = .ok (.invokevirtual 157, 3) := by decide +kernel
theorem dX12_tell_5 : decode cX12_tell 5 = .ok (.ifCond .ne 5, 3) := by decide +kernel
theorem dX12_tell_8 : decode cX12_tell 8 = .ok (.iconst (-1), 1) := by decide +kernel
theorem dX12_tell_9 : decode cX12_tell 9 = .ok (.ireturn, 1) := by decide +kernel
theorem dX12_tell_10 : decode cX12_tell 10 = .ok (.aload_n 0, 1) := by decide +kernel
theorem dX12_tell_11 : decode cX12_tell 11 = .ok (.iload_n 1, 1) := by decide +kernel
theorem dX12_tell_12 : decode cX12_tell 12 = .ok (.invokevirtual 160, 3) := by decide +kernel
theorem dX12_tell_15 : decode cX12_tell 15 = .ok (.aload_n 0, 1) := by decide +kernel
theorem dX12_tell_16 : decode cX12_tell 16 = .ok (.aload_n 0, 1) := by decide +kernel
theorem dX12_tell_17 : decode cX12_tell 17 = .ok (.getfield 46, 3) := by decide +kernel
theorem dX12_tell_20 : decode cX12_tell 20 = .ok (.invokevirtual 164, 3) := by decide +kernel
theorem dX12_tell_23 : decode cX12_tell 23 = .ok (.istore_n 2, 1) := by decide +kernel
theorem dX12_tell_24 : decode cX12_tell 24 = .ok (.aload_n 0, 1) := by decide +kernel
theorem dX12_tell_25 : decode cX12_tell 25 = .ok (.getfield 40, 3) := by decide +kernel
theorem dX12_tell_28 : decode cX12_tell 28 = .ok (.iload_n 1, 1) := by decide +kernel
theorem dX12_tell_29 : decode cX12_tell 29 = .ok (.iaload, 1) := by decide +kernel
theorem dX12_tell_30 : decode cX12_tell 30 = .ok (.lookupswitch 70 #[(1, 26), (2, 42)], 26) := by decide +kernel
theorem dX12_tell_56 : decode cX12_tell 56 = .ok (.aload_n 0, 1) := by decide +kernel
theorem dX12_tell_57 : decode cX12_tell 57 = .ok (.iconst 2, 1) := by decide +kernel
theorem dX12_tell_58 : decode cX12_tell 58 = .ok (.invokevirtual 255, 3) := by decide +kernel
theorem dX12_tell_61 : decode cX12_tell 61 = .ok (.aload_n 0, 1) := by decide +kernel
theorem dX12_tell_62 : decode cX12_tell 62 = .ok (.iconst 1, 1) := by decide +kernel
theorem dX12_tell_63 : decode cX12_tell 63 = .ok (.invokevirtual 255, 3) := by decide +kernel
theorem dX12_tell_66 : decode cX12_tell 66 = .ok (.iload_n 2, 1) := by decide +kernel
theorem dX12_tell_67 : decode cX12_tell 67 = .ok (.sipush 1000, 3) := by decide +kernel
theorem dX12_tell_70 : decode cX12_tell 70 = .ok (.iadd, 1) := by decide +kernel
theorem dX12_tell_71 : decode cX12_tell 71 = .ok (.ireturn, 1) := by decide +kernel
theorem dX12_tell_72 : decode cX12_tell 72 = .ok (.aload_n 0, 1) := by decide +kernel
theorem dX12_tell_73 : decode cX12_tell 73 = .ok (.iconst 3, 1) := by decide +kernel
theorem dX12_tell_74 : decode cX12_tell 74 = .ok (.invokevirtual 255, 3) := by decide +kernel
theorem dX12_tell_77 : decode cX12_tell 77 = .ok (.aload_n 0, 1) := by decide +kernel
theorem dX12_tell_78 : decode cX12_tell 78 = .ok (.iconst 2, 1) := by decide +kernel
theorem dX12_tell_79 : decode cX12_tell 79 = .ok (.invokevirtual 255, 3) := by decide +kernel
theorem dX12_tell_82 : decode cX12_tell 82 = .ok (.aload_n 0, 1) := by decide +kernel
theorem dX12_tell_83 : decode cX12_tell 83 = .ok (.iconst 1, 1) := by decide +kernel
theorem dX12_tell_84 : decode cX12_tell 84 = .ok (.invokevirtual 255, 3) := by decide +kernel
theorem dX12_tell_87 : decode cX12_tell 87 = .ok (.aload_n 0, 1) := by decide +kernel
theorem dX12_tell_88 : decode cX12_tell 88 = .ok (.iconst 1, 1) := by decide +kernel
theorem dX12_tell_89 : decode cX12_tell 89 = .ok (.invokevirtual 255, 3) := by decide +kernel
theorem dX12_tell_92 : decode cX12_tell 92 = .ok (.iconst 2, 1) := by decide +kernel
theorem dX12_tell_93 : decode cX12_tell 93 = .ok (.iload_n 2, 1) := by decide +kernel
theorem dX12_tell_94 : decode cX12_tell 94 = .ok (.imul, 1) := by decide +kernel
theorem dX12_tell_95 : decode cX12_tell 95 = .ok (.sipush 1000, 3) := by decide +kernel
theorem dX12_tell_98 : decode cX12_tell 98 = .ok (.iadd, 1) := by decide +kernel
theorem dX12_tell_99 : decode cX12_tell 99 = .ok (.ireturn, 1) := by decide +kernel
theorem dX12_tell_100 : decode cX12_tell 100 = .ok (.aload_n 0, 1) := by decide +kernel
theorem dX12_tell_101 : decode cX12_tell 101 = .ok (.iconst 1, 1) := by decide +kernel
theorem dX12_tell_102 : decode cX12_tell 102 = .ok (.invokevirtual 255, 3) := by decide +kernel
theorem dX12_tell_105 : decode cX12_tell 105 = .ok (.iload_n 2, 1) := by decide +kernel
theorem dX12_tell_106 : decode cX12_tell 106 = .ok (.ireturn, 1) := by decide +kernel
theorem dX12_show_0 : decode cX12_show 0 = .ok (.aload_n 0, 1) := by decide +kernel
theorem dX12_show_1 : decode cX12_show 1 = .ok (.iload_n 1, 1) := by decide +kernel
theorem dX12_show_2 : decode cX12_show 2 = .ok (.invokevirtual 157, 3) := by decide +kernel
theorem dX12_show_5 : decode cX12_show 5 = .ok (.ifCond .ne 5, 3) := by decide +kernel
theorem dX12_show_8 : decode cX12_show 8 = .ok (.iconst (-1), 1) := by decide +kernel
theorem dX12_show_9 : decode cX12_show 9 = .ok (.ireturn, 1) := by decide +kernel
theorem dX12_show_10 : decode cX12_show 10 = .ok (.aload_n 0, 1) := by decide +kernel
theorem dX12_show_11 : decode cX12_show 11 = .ok (.aload_n 0, 1) := by decide +kernel
theorem dX12_show_12 : decode cX12_show 12 = .ok (.getfield 40, 3) := by decide +kernel
theorem dX12_show_15 : decode cX12_show 15 = .ok (.iload_n 1, 1) := by decide +kernel
theorem dX12_show_16 : decode cX12_show 16 = .ok (.iaload, 1) := by decide +kernel
theorem dX12_show_17 : decode cX12_show 17 = .ok (.iconst 2, 1) := by decide +kernel
theorem dX12_show_18 : decode cX12_show 18 = .ok (.if_icmp .ne 7, 3) := by decide +kernel
theorem dX12_show_21 : decode cX12_show 21 = .ok (.iconst 5, 1) := by decide +kernel
theorem dX12_show_22 : decode cX12_show 22 = .ok (.goto 4, 3) := by decide +kernel
theorem dX12_show_25 : decode cX12_show 25 = .ok (.iconst 4, 1) := by decide +kernel
theorem dX12_show_26 : decode cX12_show 26 = .ok (.invokevirtual 255, 3) := by decide +kernel
theorem dX12_show_29 : decode cX12_show 29 = .ok (.aload_n 0, 1) := by decide +kernel
theorem dX12_show_30 : decode cX12_show 30 = .ok (.getfield 40, 3) := by decide +kernel
theorem dX12_show_33 : decode cX12_show 33 = .ok (.iload_n 1, 1) := by decide +kernel
theorem dX12_show_34 : decode cX12_show 34 = .ok (.iaload, 1) := by decide +kernel
theorem dX12_show_35 : decode cX12_show 35 = .ok (.iconst 2, 1) := by decide +kernel
theorem dX12_show_36 : decode cX12_show 36 = .ok (.if_icmp .ne 8, 3) := by decide +kernel
theorem dX12_show_39 : decode cX12_show 39 = .ok (.bipush 80, 2) := by decide +kernel
theorem dX12_show_41 : decode cX12_show 41 = .ok (.goto 4, 3) := by decide +kernel
theorem dX12_show_44 : decode cX12_show 44 = .ok (.iload_n 1, 1) := by decide +kernel
theorem dX12_show_45 : decode cX12_show 45 = .ok (.ireturn, 1) := by decide +kernel
theorem dX12_as_0 : decode cX12_as 0 = .ok (.aload_n 0, 1) := by decide +kernel
theorem dX12_as_1 : decode cX12_as 1 = .ok (.iconst 0, 1) := by decide +kernel
theorem dX12_as_2 : decode cX12_as 2 = .ok (.putfield 73, 3) := by decide +kernel
theorem dX12_as_5 : decode cX12_as 5 = .ok (.aload_n 0, 1) := by decide +kernel
theorem dX12_as_6 : decode cX12_as 6 = .ok (.iload_n 1, 1) := by decide +kernel
theorem dX12_as_7 : decode cX12_as 7 = .ok (.invokevirtual 157, 3) := by decide +kernel
theorem dX12_as_10 : decode cX12_as 10 = .ok (.ifCond .ne 5, 3) := by decide +kernel
theorem dX12_as_13 : decode cX12_as 13 = .ok (.iconst (-1), 1) := by decide +kernel
theorem dX12_as_14 : decode cX12_as 14 = .ok (.ireturn, 1) := by decide +kernel
theorem dX12_as_15 : decode cX12_as 15 = .ok (.iload_n 2, 1) := by decide +kernel
theorem dX12_as_16 : decode cX12_as 16 = .ok (.iconst 0, 1) := by decide +kernel
theorem dX12_as_17 : decode cX12_as 17 = .ok (.iconst 2, 1) := by decide +kernel
theorem dX12_as_18 : decode cX12_as 18 = .ok (.invokestatic 79, 3) := by decide +kernel
theorem dX12_as_21 : decode cX12_as 21 = .ok (.ifCond .ne 6, 3) := by decide +kernel
theorem dX12_as_24 : decode cX12_as 24 = .ok (.bipush (-2), 2) := by decide +kernel
theorem dX12_as_26 : decode cX12_as 26 = .ok (.ireturn, 1) := by decide +kernel
theorem dX12_as_27 : decode cX12_as 27 = .ok (.aload_n 0, 1) := by decide +kernel
theorem dX12_as_28 : decode cX12_as 28 = .ok (.getfield 40, 3) := by decide +kernel
theorem dX12_as_31 : decode cX12_as 31 = .ok (.iload_n 1, 1) := by decide +kernel
theorem dX12_as_32 : decode cX12_as 32 = .ok (.iaload, 1) := by decide +kernel
theorem dX12_as_33 : decode cX12_as 33 = .ok (.iload_n 2, 1) := by decide +kernel
theorem dX12_as_34 : decode cX12_as 34 = .ok (.if_icmp .lt 7, 3) := by decide +kernel
theorem dX12_as_37 : decode cX12_as 37 = .ok (.iconst 1, 1) := by decide +kernel
theorem dX12_as_38 : decode cX12_as 38 = .ok (.goto 8, 3) := by decide +kernel
theorem dX12_as_41 : decode cX12_as 41 = .ok (.aload_n 0, 1) := by decide +kernel
theorem dX12_as_42 : decode cX12_as 42 = .ok (.iconst 2, 1) := by decide +kernel
theorem dX12_as_43 : decode cX12_as 43 = .ok (.invokevirtual 124, 3) := by decide +kernel
theorem dX12_as_46 : decode cX12_as 46 = .ok (.ireturn, 1) := by decide +kernel
theorem dX12_trace_0 : decode cX12_trace 0 = .ok (.aload_n 0, 1) := by decide +kernel
theorem dX12_trace_1 : decode cX12_trace 1 = .ok (.getfield 252, 3) := by decide +kernel
theorem dX12_trace_4 : decode cX12_trace 4 = .ok (.ireturn, 1) := by decide +kernel
theorem dX12_fault_0 : decode cX12_fault 0 = .ok (.aload_n 0, 1) := by decide +kernel
theorem dX12_fault_1 : decode cX12_fault 1 = .ok (.getfield 73, 3) := by decide +kernel
theorem dX12_fault_4 : decode cX12_fault 4 = .ok (.ireturn, 1) := by decide +kernel
theorem dX12_many_0 : decode cX12_many 0 = .ok (.iconst 0, 1) := by decide +kernel
theorem dX12_many_1 : decode cX12_many 1 = .ok (.istore_n 2, 1) := by decide +kernel
theorem dX12_many_2 : decode cX12_many 2 = .ok (.iconst 0, 1) := by decide +kernel
theorem dX12_many_3 : decode cX12_many 3 = .ok (.istore_n 3, 1) := by decide +kernel
theorem dX12_many_4 : decode cX12_many 4 = .ok (.iload_n 3, 1) := by decide +kernel
theorem dX12_many_5 : decode cX12_many 5 = .ok (.aload_n 0, 1) := by decide +kernel
theorem dX12_many_6 : decode cX12_many 6 = .ok (.getfield 83, 3) := by decide +kernel
theorem dX12_many_9 : decode cX12_many 9 = .ok (.if_icmp .ge 21, 3) := by decide +kernel
theorem dX12_many_12 : decode cX12_many 12 = .ok (.iload_n 2, 1) := by decide +kernel
theorem dX12_many_13 : decode cX12_many 13 = .ok (.aload_n 0, 1) := by decide +kernel
theorem dX12_many_14 : decode cX12_many 14 = .ok (.getfield 22, 3) := by decide +kernel
theorem dX12_many_17 : decode cX12_many 17 = .ok (.iload_n 3, 1) := by decide +kernel
theorem dX12_many_18 : decode cX12_many 18 = .ok (.iaload, 1) := by decide +kernel
theorem dX12_many_19 : decode cX12_many 19 = .ok (.invokestatic 205, 3) := by decide +kernel
theorem dX12_many_22 : decode cX12_many 22 = .ok (.iadd, 1) := by decide +kernel
theorem dX12_many_23 : decode cX12_many 23 = .ok (.istore_n 2, 1) := by decide +kernel
theorem dX12_many_24 : decode cX12_many 24 = .ok (.iinc 3 1, 3) := by decide +kernel
theorem dX12_many_27 : decode cX12_many 27 = .ok (.goto (-23), 3) := by decide +kernel
theorem dX12_many_30 : decode cX12_many 30 = .ok (.iload_n 1, 1) := by decide +kernel
theorem dX12_many_31 : decode cX12_many 31 = .ok (.tableswitch 53 0 3 #[29, 34, 39, 41], 29) := by decide +kernel
theorem dX12_many_60 : decode cX12_many 60 = .ok (.aload_n 0, 1) := by decide +kernel
theorem dX12_many_61 : decode cX12_many 61 = .ok (.getfield 83, 3) := by decide +kernel
theorem dX12_many_64 : decode cX12_many 64 = .ok (.ireturn, 1) := by decide +kernel
theorem dX12_many_65 : decode cX12_many 65 = .ok (.aload_n 0, 1) := by decide +kernel
theorem dX12_many_66 : decode cX12_many 66 = .ok (.getfield 131, 3) := by decide +kernel
theorem dX12_many_69 : decode cX12_many 69 = .ok (.ireturn, 1) := by decide +kernel
theorem dX12_many_70 : decode cX12_many 70 = .ok (.iload_n 2, 1) := by decide +kernel
theorem dX12_many_71 : decode cX12_many 71 = .ok (.ireturn, 1) := by decide +kernel
theorem dX12_many_72 : decode cX12_many 72 = .ok (.aload_n 0, 1) := by decide +kernel
theorem dX12_many_73 : decode cX12_many 73 = .ok (.aload_n 0, 1) := by decide +kernel
theorem dX12_many_74 : decode cX12_many 74 = .ok (.invokevirtual 134, 3) := by decide +kernel
theorem dX12_many_77 : decode cX12_many 77 = .ok (.invokevirtual 171, 3) := by decide +kernel
theorem dX12_many_80 : decode cX12_many 80 = .ok (.invokestatic 205, 3) := by decide +kernel
theorem dX12_many_83 : decode cX12_many 83 = .ok (.ireturn, 1) := by decide +kernel
theorem dX12_many_84 : decode cX12_many 84 = .ok (.bipush (-2), 2) := by decide +kernel
theorem dX12_many_86 : decode cX12_many 86 = .ok (.ireturn, 1) := by decide +kernel
abbrev rm_X12_room : Room := { frames := 3, cells := 0, slots := 0, locals := 76 }
def T_X12_room_70 (post : Int32 → Mem → Prop) (P35 : Int32 → Int32 → Int32 → Mem → Prop) (x2 : Int32) (x4 : Int32) (x5 : Int32) (μ : Mem) : Prop :=
  P35 x2 (x5 + 1) x4 μ
theorem v_X12_room_70 {X : Cx} {w : Wd} {l : Launch} {D : va_G} {A : Nat → Prop} (g : Gd X w RX12 cX12_room 7 rm_X12_room) (hX : atX X l D A) (post : Int32 → Mem → Prop) (hR : Rt X w shM 22 (some .int) (pI post)) (P35 : Int32 → Int32 → Int32 → Mem → Prop) (hP35 : ∀ (x2 : Int32) (x3 : Int32) (x4 : Int32) (μ : Mem), P35 x2 x3 x4 μ → V X 35 [(0, .ref (w.1 0)), (2, .int x2), (3, .int x3), (4, .int x4)] [] (wls w shM 22 μ)) (x2 : Int32) (x4 : Int32) (x5 : Int32) (μ : Mem) (h : T_X12_room_70 post P35 x2 x4 x5 μ) : V X 70 [(0, .ref (w.1 0)), (2, .int x2), (4, .int x4), (5, .int x5)] [] (wls w shM 22 μ) := by
  refine r_iload (pc := 70) 3 g dX12_room_70 rfl ?_
  refine r_iconst (pc := 72) g dX12_room_72 ci_1 ?_
  refine r_iadd (pc := 73) g dX12_room_73 ?_
  refine r_istore_n (pc := 74) (lv' := [(3, .int (x5 + 1)), (0, .ref (w.1 0)), (2, .int x2), (4, .int x4), (5, .int x5)]) g dX12_room_74 rfl rfl ?_
  refine r_goto (pc := 75) 82 g dX12_room_75 rfl ?_
  refine r_goto (pc := 82) 35 g dX12_room_82 rfl ?_
  refine r_sub [1, 2, 0, 3] (lv' := [(0, .ref (w.1 0)), (2, .int x2), (3, .int (x5 + 1)), (4, .int x4)]) rfl ?_
  exact hP35 x2 (x5 + 1) x4 μ h
def B_X12_room_35 (post : Int32 → Mem → Prop) (P35 : Int32 → Int32 → Int32 → Mem → Prop) (x2 : Int32) (x3 : Int32) (x4 : Int32) (μ : Mem) : Prop :=
  ((x4 ≤ x3 → post x3 μ) ∧ (¬ x4 ≤ x3 → T_X12_cheapestWith ((x3 + x4) / 2) μ (fun (u1 : Int32) (μ2 : Mem) => ((u1 = (-9) → T_X12_room_70 post P35 x2 x4 ((x3 + x4) / 2) μ2) ∧ (¬ u1 = (-9) → ((u1 ≤ x2 → P35 x2 x3 ((x3 + x4) / 2) μ2) ∧ (¬ u1 ≤ x2 → T_X12_room_70 post P35 x2 x4 ((x3 + x4) / 2) μ2)))))))
def T_X12_room_35 (post : Int32 → Mem → Prop) (x2 : Int32) (x3 : Int32) (x4 : Int32) (μ : Mem) : Prop :=
  ∀ P35 : Int32 → Int32 → Int32 → Mem → Prop, (∀ (x2 : Int32) (x3 : Int32) (x4 : Int32) (μ : Mem), B_X12_room_35 post P35 x2 x3 x4 μ → P35 x2 x3 x4 μ) → P35 x2 x3 x4 μ
theorem bv_X12_room_35 {X : Cx} {w : Wd} {l : Launch} {D : va_G} {A : Nat → Prop} (g : Gd X w RX12 cX12_room 7 rm_X12_room) (hX : atX X l D A) (post : Int32 → Mem → Prop) (hR : Rt X w shM 22 (some .int) (pI post)) (P35 : Int32 → Int32 → Int32 → Mem → Prop) (hP35 : ∀ (x2 : Int32) (x3 : Int32) (x4 : Int32) (μ : Mem), P35 x2 x3 x4 μ → V X 35 [(0, .ref (w.1 0)), (2, .int x2), (3, .int x3), (4, .int x4)] [] (wls w shM 22 μ)) (x2 : Int32) (x3 : Int32) (x4 : Int32) (μ : Mem) (h : B_X12_room_35 post P35 x2 x3 x4 μ) : V X 35 [(0, .ref (w.1 0)), (2, .int x2), (3, .int x3), (4, .int x4)] [] (wls w shM 22 μ) := by
  refine r_iload_n (pc := 35) 2 g dX12_room_35 rfl ?_
  refine r_iload (pc := 36) 3 g dX12_room_36 rfl ?_
  refine r_icmp_ge (pc := 38) 85 g dX12_room_38 rfl (fun q => ?_) (fun q => ?_)
  · have h := h.1 q
    refine r_iload_n (pc := 85) 2 g dX12_room_85 rfl ?_
    exact r_ireti (pc := 86) g hR dX12_room_86 h
  · have h := h.2 q
    refine r_iload_n (pc := 41) 2 g dX12_room_41 rfl ?_
    refine r_iload (pc := 42) 3 g dX12_room_42 rfl ?_
    refine r_iadd (pc := 44) g dX12_room_44 ?_
    refine r_iconst (pc := 45) g dX12_room_45 ci_2 ?_
    refine r_idiv (pc := 46) g dX12_room_46 (by decide) ?_
    refine r_istore (pc := 47) (lv' := [(5, .int ((x3 + x4) / 2)), (0, .ref (w.1 0)), (2, .int x2), (3, .int x3), (4, .int x4)]) g dX12_room_47 rfl rfl ?_
    refine r_aload_n (pc := 49) 1 g dX12_room_49 rfl ?_
    refine r_iload (pc := 50) 0 g dX12_room_50 rfl ?_
    refine r_callVi (pc := 52) (st := []) g hX dX12_room_52 (m_X12_cheapestWith ((x3 + x4) / 2) μ _ h) kb_RX12_245 kv_X12_cheapestWith shM_out sM_0 rfl rfl rfl rfl (fun u1 μ2 h => ?_)
    refine r_istore (pc := 55) (lv' := [(6, .int u1), (5, .int ((x3 + x4) / 2)), (0, .ref (w.1 0)), (2, .int x2), (3, .int x3), (4, .int x4)]) g dX12_room_55 rfl rfl ?_
    refine r_iload (pc := 57) 0 g dX12_room_57 rfl ?_
    refine r_bipush (pc := 59) g dX12_room_59 cb_m9 ?_
    refine r_icmp_eq (pc := 61) 70 g dX12_room_61 rfl (fun q => ?_) (fun q => ?_)
    · have h := h.1 q
      refine r_sub [2, 3, 5, 1] (lv' := [(0, .ref (w.1 0)), (2, .int x2), (4, .int x4), (5, .int ((x3 + x4) / 2))]) rfl ?_
      exact v_X12_room_70 g hX post hR P35 hP35 x2 x4 ((x3 + x4) / 2) μ2 h
    · have h := h.2 q
      refine r_iload (pc := 64) 0 g dX12_room_64 rfl ?_
      refine r_iload_n (pc := 66) 3 g dX12_room_66 rfl ?_
      refine r_icmp_le (pc := 67) 78 g dX12_room_67 rfl (fun q => ?_) (fun q => ?_)
      · have h := h.1 q
        refine r_iload (pc := 78) 1 g dX12_room_78 rfl ?_
        refine r_istore (pc := 80) (lv' := [(4, .int ((x3 + x4) / 2)), (6, .int u1), (5, .int ((x3 + x4) / 2)), (0, .ref (w.1 0)), (2, .int x2), (3, .int x3)]) g dX12_room_80 rfl rfl ?_
        refine r_goto (pc := 82) 35 g dX12_room_82 rfl ?_
        refine r_sub [3, 4, 5, 0] (lv' := [(0, .ref (w.1 0)), (2, .int x2), (3, .int x3), (4, .int ((x3 + x4) / 2))]) rfl ?_
        exact hP35 x2 x3 ((x3 + x4) / 2) μ2 h
      · have h := h.2 q
        refine r_sub [2, 3, 5, 1] (lv' := [(0, .ref (w.1 0)), (2, .int x2), (4, .int x4), (5, .int ((x3 + x4) / 2))]) rfl ?_
        exact v_X12_room_70 g hX post hR P35 hP35 x2 x4 ((x3 + x4) / 2) μ2 h
theorem v_X12_room_35 {X : Cx} {w : Wd} {l : Launch} {D : va_G} {A : Nat → Prop} (g : Gd X w RX12 cX12_room 7 rm_X12_room) (hX : atX X l D A) (post : Int32 → Mem → Prop) (hR : Rt X w shM 22 (some .int) (pI post)) (x2 : Int32) (x3 : Int32) (x4 : Int32) (μ : Mem) (h : T_X12_room_35 post x2 x3 x4 μ) : V X 35 [(0, .ref (w.1 0)), (2, .int x2), (3, .int x3), (4, .int x4)] [] (wls w shM 22 μ) :=
  h (fun x2 x3 x4 μ => V X 35 [(0, .ref (w.1 0)), (2, .int x2), (3, .int x3), (4, .int x4)] [] (wls w shM 22 μ)) (fun x2 x3 x4 μ h => bv_X12_room_35 g hX post hR (fun x2 x3 x4 μ => V X 35 [(0, .ref (w.1 0)), (2, .int x2), (3, .int x3), (4, .int x4)] [] (wls w shM 22 μ)) (fun _ _ _ _ h => h) x2 x3 x4 μ h)
def T_X12_room (x1 : Int32) (x2 : Int32) (μ : Mem) (post : Int32 → Mem → Prop) : Prop :=
  T_X12_isOrder x1 μ (fun (u1 : Int32) (μ2 : Mem) => ((¬ u1 = 0 → T_X12_isIn x2 0 9999 μ2 (fun (u3 : Int32) (μ4 : Mem) => ((¬ u3 = 0 → T_X12_lookAt x1 μ4 (fun (μ6 : Mem) => T_X12_room_35 post x2 0 99 μ6)) ∧ (u3 = 0 → post (-2) μ4)))) ∧ (u1 = 0 → post (-1) μ2)))
theorem m_X12_room {w : Wd} {l : Launch} {D : va_G} {A : Nat → Prop} (x1 : Int32) (x2 : Int32) (μ : Mem) (post : Int32 → Mem → Prop) (h : T_X12_room x1 x2 μ post) : MetX l D A w shM 22 yX12_room cX12_room 7 (some .int) rm_X12_room [.ref (w.1 0), .int x1, .int x2] μ (pI post) := by
  refine metX_of (by decide) rfl (lv := [(0, .ref (w.1 0)), (1, .int x1), (2, .int x2)]) rfl (fun X hX g hR => ?_)
  refine r_aload_n (pc := 0) 0 g dX12_room_0 rfl ?_
  refine r_iload_n (pc := 1) 1 g dX12_room_1 rfl ?_
  refine r_callVi (pc := 2) (st := []) g hX dX12_room_2 (m_X12_isOrder x1 μ _ h) kb_RX12_157 kv_X12_isOrder shM_out sM_0 rfl rfl rfl rfl (fun u1 μ2 h => ?_)
  refine r_if_ne (pc := 5) 10 g dX12_room_5 rfl (fun q => ?_) (fun q => ?_)
  · have h := h.1 q
    refine r_iload_n (pc := 10) 2 g dX12_room_10 rfl ?_
    refine r_iconst (pc := 11) g dX12_room_11 ci_0 ?_
    refine r_sipush (pc := 12) g dX12_room_12 cs_9999 ?_
    refine r_callSi (pc := 15) (st := []) g hX dX12_room_15 (m_X12_isIn x2 0 9999 μ2 _ h) kb_RX12_79 k_1097 rfl rfl rfl rfl (fun u3 μ4 h => ?_)
    refine r_if_ne (pc := 18) 24 g dX12_room_18 rfl (fun q => ?_) (fun q => ?_)
    · have h := h.1 q
      refine r_aload_n (pc := 24) 0 g dX12_room_24 rfl ?_
      refine r_iload_n (pc := 25) 1 g dX12_room_25 rfl ?_
      refine r_callVv (pc := 26) (st := []) g hX dX12_room_26 (m_X12_lookAt x1 μ4 _ h) kb_RX12_160 kv_X12_lookAt shM_out sM_0 rfl rfl rfl rfl (fun μ6 h => ?_)
      refine r_iconst (pc := 29) g dX12_room_29 ci_0 ?_
      refine r_istore_n (pc := 30) (lv' := [(3, .int 0), (0, .ref (w.1 0)), (1, .int x1), (2, .int x2)]) g dX12_room_30 rfl rfl ?_
      refine r_bipush (pc := 31) g dX12_room_31 cb_99 ?_
      refine r_istore (pc := 33) (lv' := [(4, .int 99), (3, .int 0), (0, .ref (w.1 0)), (1, .int x1), (2, .int x2)]) g dX12_room_33 rfl rfl ?_
      refine r_sub [2, 4, 1, 0] (lv' := [(0, .ref (w.1 0)), (2, .int x2), (3, .int 0), (4, .int 99)]) rfl ?_
      exact v_X12_room_35 g hX post hR x2 0 99 μ6 h
    · have h := h.2 q
      refine r_bipush (pc := 21) g dX12_room_21 cb_m2 ?_
      exact r_ireti (pc := 23) g hR dX12_room_23 h
  · have h := h.2 q
    refine r_iconst (pc := 8) g dX12_room_8 ci_m1 ?_
    exact r_ireti (pc := 9) g hR dX12_room_9 h
abbrev rm_X12_two : Room := { frames := 5, cells := 0, slots := 0, locals := 113 }
def T_X12_two_80 (post : Int32 → Mem → Prop) (P34 : Int32 → Int32 → Int32 → Int32 → Mem → Prop) (x1 : Int32) (x2 : Int32) (x3 : Int32) (x4 : Int32) (s0 : Int32) (μ : Mem) : Prop :=
  ((x3 ≤ s0 → P34 x1 x2 x3 (x4 + 2) μ) ∧ (¬ x3 ≤ s0 → P34 x1 x4 s0 (x4 + 2) μ))
theorem v_X12_two_80 {X : Cx} {w : Wd} {l : Launch} {D : va_G} {A : Nat → Prop} (g : Gd X w RX12 cX12_two 8 rm_X12_two) (hX : atX X l D A) (post : Int32 → Mem → Prop) (hR : Rt X w shM 22 (some .int) (pI post)) (P34 : Int32 → Int32 → Int32 → Int32 → Mem → Prop) (hP34 : ∀ (x1 : Int32) (x2 : Int32) (x3 : Int32) (x4 : Int32) (μ : Mem), P34 x1 x2 x3 x4 μ → V X 34 [(0, .ref (w.1 0)), (1, .int x1), (2, .int x2), (3, .int x3), (4, .int x4)] [] (wls w shM 22 μ)) (x1 : Int32) (x2 : Int32) (x3 : Int32) (x4 : Int32) (s0 : Int32) (μ : Mem) (h : T_X12_two_80 post P34 x1 x2 x3 x4 s0 μ) : V X 80 [(0, .ref (w.1 0)), (1, .int x1), (2, .int x2), (3, .int x3), (4, .int x4)] [.int s0] (wls w shM 22 μ) := by
  refine r_istore (pc := 80) (lv' := [(7, .int s0), (0, .ref (w.1 0)), (1, .int x1), (2, .int x2), (3, .int x3), (4, .int x4)]) g dX12_two_80 rfl rfl ?_
  refine r_iload (pc := 82) 0 g dX12_two_82 rfl ?_
  refine r_iload_n (pc := 84) 4 g dX12_two_84 rfl ?_
  refine r_icmp_ge (pc := 85) 94 g dX12_two_85 rfl (fun q => ?_) (fun q => ?_)
  · have h := h.1 q
    refine r_iinc (pc := 94) (lv' := [(4, .int (x4 + 2)), (7, .int s0), (0, .ref (w.1 0)), (1, .int x1), (2, .int x2), (3, .int x3)]) 5 g dX12_two_94 rfl ci_2 rfl rfl ?_
    refine r_goto (pc := 97) 34 g dX12_two_97 rfl ?_
    refine r_sub [2, 3, 4, 5, 0] (lv' := [(0, .ref (w.1 0)), (1, .int x1), (2, .int x2), (3, .int x3), (4, .int (x4 + 2))]) rfl ?_
    exact hP34 x1 x2 x3 (x4 + 2) μ h
  · have h := h.2 q
    refine r_iload (pc := 88) 5 g dX12_two_88 rfl ?_
    refine r_istore_n (pc := 90) (lv' := [(2, .int x4), (7, .int s0), (0, .ref (w.1 0)), (1, .int x1), (3, .int x3), (4, .int x4)]) g dX12_two_90 rfl rfl ?_
    refine r_iload (pc := 91) 1 g dX12_two_91 rfl ?_
    refine r_istore_n (pc := 93) (lv' := [(3, .int s0), (2, .int x4), (7, .int s0), (0, .ref (w.1 0)), (1, .int x1), (4, .int x4)]) g dX12_two_93 rfl rfl ?_
    refine r_iinc (pc := 94) (lv' := [(4, .int (x4 + 2)), (3, .int s0), (2, .int x4), (7, .int s0), (0, .ref (w.1 0)), (1, .int x1)]) 5 g dX12_two_94 rfl ci_2 rfl rfl ?_
    refine r_goto (pc := 97) 34 g dX12_two_97 rfl ?_
    refine r_sub [4, 5, 2, 1, 0] (lv' := [(0, .ref (w.1 0)), (1, .int x1), (2, .int x4), (3, .int s0), (4, .int (x4 + 2))]) rfl ?_
    exact hP34 x1 x4 s0 (x4 + 2) μ h
def B_X12_two_34 (post : Int32 → Mem → Prop) (P34 : Int32 → Int32 → Int32 → Int32 → Mem → Prop) (x1 : Int32) (x2 : Int32) (x3 : Int32) (x4 : Int32) (μ : Mem) : Prop :=
  T_X12_all μ (fun (u1 : Int32) (μ2 : Mem) => ((u1 < x4 → ((¬ x1 = 0 → ((¬ x1 = 1 → ((¬ x1 = 2 → T_X12_all μ2 (fun (u3 : Int32) (μ4 : Mem) => T_X12_leastOf (u3 &&& (x2 ^^^ (-1))) μ4 (fun (u5 : Int32) (μ6 : Mem) => post u5 μ6))) ∧ (x1 = 2 → T_X12_leastOf x2 μ2 (fun (u7 : Int32) (μ8 : Mem) => post u7 μ8)))) ∧ (x1 = 1 → post x2 μ2))) ∧ (x1 = 0 → post x3 μ2))) ∧ (¬ u1 < x4 → T_X12_leastBy x4 μ2 (fun (u9 : Int32) (μ10 : Mem) => T_X12_all μ10 (fun (u11 : Int32) (μ12 : Mem) => T_X12_leastBy (u11 &&& (x4 ^^^ (-1))) μ12 (fun (u13 : Int32) (μ14 : Mem) => ((u9 ≤ u13 → T_X12_two_80 post P34 x1 x2 x3 x4 u13 μ14) ∧ (¬ u9 ≤ u13 → T_X12_two_80 post P34 x1 x2 x3 x4 u9 μ14))))))))
def T_X12_two_34 (post : Int32 → Mem → Prop) (x1 : Int32) (x2 : Int32) (x3 : Int32) (x4 : Int32) (μ : Mem) : Prop :=
  ∀ P34 : Int32 → Int32 → Int32 → Int32 → Mem → Prop, (∀ (x1 : Int32) (x2 : Int32) (x3 : Int32) (x4 : Int32) (μ : Mem), B_X12_two_34 post P34 x1 x2 x3 x4 μ → P34 x1 x2 x3 x4 μ) → P34 x1 x2 x3 x4 μ
theorem bv_X12_two_34 {X : Cx} {w : Wd} {l : Launch} {D : va_G} {A : Nat → Prop} (g : Gd X w RX12 cX12_two 8 rm_X12_two) (hX : atX X l D A) (post : Int32 → Mem → Prop) (hR : Rt X w shM 22 (some .int) (pI post)) (P34 : Int32 → Int32 → Int32 → Int32 → Mem → Prop) (hP34 : ∀ (x1 : Int32) (x2 : Int32) (x3 : Int32) (x4 : Int32) (μ : Mem), P34 x1 x2 x3 x4 μ → V X 34 [(0, .ref (w.1 0)), (1, .int x1), (2, .int x2), (3, .int x3), (4, .int x4)] [] (wls w shM 22 μ)) (x1 : Int32) (x2 : Int32) (x3 : Int32) (x4 : Int32) (μ : Mem) (h : B_X12_two_34 post P34 x1 x2 x3 x4 μ) : V X 34 [(0, .ref (w.1 0)), (1, .int x1), (2, .int x2), (3, .int x3), (4, .int x4)] [] (wls w shM 22 μ) := by
  refine r_iload (pc := 34) 4 g dX12_two_34 rfl ?_
  refine r_aload_n (pc := 36) 0 g dX12_two_36 rfl ?_
  refine r_callVi (pc := 37) (st := [.int x4]) g hX dX12_two_37 (m_X12_all μ _ h) kb_RX12_134 kv_X12_all shM_out sM_0 rfl rfl rfl rfl (fun u1 μ2 h => ?_)
  refine r_icmp_gt (pc := 40) 100 g dX12_two_40 rfl (fun q => ?_) (fun q => ?_)
  · have h := h.1 q
    refine r_iload_n (pc := 100) 1 g dX12_two_100 rfl ?_
    refine r_if_ne (pc := 101) 108 g dX12_two_101 rfl (fun q => ?_) (fun q => ?_)
    · have h := h.1 q
      refine r_iload_n (pc := 108) 1 g dX12_two_108 rfl ?_
      refine r_iconst (pc := 109) g dX12_two_109 ci_1 ?_
      refine r_icmp_ne (pc := 110) 117 g dX12_two_110 rfl (fun q => ?_) (fun q => ?_)
      · have h := h.1 q
        refine r_iload_n (pc := 117) 1 g dX12_two_117 rfl ?_
        refine r_iconst (pc := 118) g dX12_two_118 ci_2 ?_
        refine r_icmp_ne (pc := 119) 130 g dX12_two_119 rfl (fun q => ?_) (fun q => ?_)
        · have h := h.1 q
          refine r_aload_n (pc := 130) 0 g dX12_two_130 rfl ?_
          refine r_aload_n (pc := 131) 0 g dX12_two_131 rfl ?_
          refine r_callVi (pc := 132) (st := [.ref (w.1 0)]) g hX dX12_two_132 (m_X12_all μ2 _ h) kb_RX12_134 kv_X12_all shM_out sM_0 rfl rfl rfl rfl (fun u3 μ4 h => ?_)
          refine r_iload_n (pc := 135) 2 g dX12_two_135 rfl ?_
          refine r_iconst (pc := 136) g dX12_two_136 ci_m1 ?_
          refine r_ixor (pc := 137) g dX12_two_137 ?_
          refine r_iand (pc := 138) g dX12_two_138 ?_
          refine r_callVi (pc := 139) (st := []) g hX dX12_two_139 (m_X12_leastOf (u3 &&& (x2 ^^^ (-1))) μ4 _ h) kb_RX12_191 kv_X12_leastOf shM_out sM_0 rfl rfl rfl rfl (fun u5 μ6 h => ?_)
          exact r_ireti (pc := 142) g hR dX12_two_142 h
        · have h := h.2 q
          refine r_aload_n (pc := 122) 0 g dX12_two_122 rfl ?_
          refine r_iload_n (pc := 123) 2 g dX12_two_123 rfl ?_
          refine r_callVi (pc := 124) (st := []) g hX dX12_two_124 (m_X12_leastOf x2 μ2 _ h) kb_RX12_191 kv_X12_leastOf shM_out sM_0 rfl rfl rfl rfl (fun u7 μ8 h => ?_)
          refine r_goto (pc := 127) 142 g dX12_two_127 rfl ?_
          exact r_ireti (pc := 142) g hR dX12_two_142 h
      · have h := h.2 q
        refine r_iload_n (pc := 113) 2 g dX12_two_113 rfl ?_
        refine r_goto (pc := 114) 142 g dX12_two_114 rfl ?_
        exact r_ireti (pc := 142) g hR dX12_two_142 h
    · have h := h.2 q
      refine r_iload_n (pc := 104) 3 g dX12_two_104 rfl ?_
      refine r_goto (pc := 105) 142 g dX12_two_105 rfl ?_
      exact r_ireti (pc := 142) g hR dX12_two_142 h
  · have h := h.2 q
    refine r_aload_n (pc := 43) 0 g dX12_two_43 rfl ?_
    refine r_iload (pc := 44) 4 g dX12_two_44 rfl ?_
    refine r_callVi (pc := 46) (st := []) g hX dX12_two_46 (m_X12_leastBy x4 μ2 _ h) kb_RX12_188 kv_X12_leastBy shM_out sM_0 rfl rfl rfl rfl (fun u9 μ10 h => ?_)
    refine r_istore (pc := 49) (lv' := [(5, .int u9), (0, .ref (w.1 0)), (1, .int x1), (2, .int x2), (3, .int x3), (4, .int x4)]) g dX12_two_49 rfl rfl ?_
    refine r_aload_n (pc := 51) 1 g dX12_two_51 rfl ?_
    refine r_aload_n (pc := 52) 1 g dX12_two_52 rfl ?_
    refine r_callVi (pc := 53) (st := [.ref (w.1 0)]) g hX dX12_two_53 (m_X12_all μ10 _ h) kb_RX12_134 kv_X12_all shM_out sM_0 rfl rfl rfl rfl (fun u11 μ12 h => ?_)
    refine r_iload (pc := 56) 5 g dX12_two_56 rfl ?_
    refine r_iconst (pc := 58) g dX12_two_58 ci_m1 ?_
    refine r_ixor (pc := 59) g dX12_two_59 ?_
    refine r_iand (pc := 60) g dX12_two_60 ?_
    refine r_callVi (pc := 61) (st := []) g hX dX12_two_61 (m_X12_leastBy (u11 &&& (x4 ^^^ (-1))) μ12 _ h) kb_RX12_188 kv_X12_leastBy shM_out sM_0 rfl rfl rfl rfl (fun u13 μ14 h => ?_)
    refine r_istore (pc := 64) (lv' := [(6, .int u13), (5, .int u9), (0, .ref (w.1 0)), (1, .int x1), (2, .int x2), (3, .int x3), (4, .int x4)]) g dX12_two_64 rfl rfl ?_
    refine r_iload (pc := 66) 1 g dX12_two_66 rfl ?_
    refine r_iload (pc := 68) 0 g dX12_two_68 rfl ?_
    refine r_icmp_le (pc := 70) 78 g dX12_two_70 rfl (fun q => ?_) (fun q => ?_)
    · have h := h.1 q
      refine r_iload (pc := 78) 0 g dX12_two_78 rfl ?_
      refine r_sub [2, 3, 4, 5, 6] (lv' := [(0, .ref (w.1 0)), (1, .int x1), (2, .int x2), (3, .int x3), (4, .int x4)]) rfl ?_
      exact v_X12_two_80 g hX post hR P34 hP34 x1 x2 x3 x4 u13 μ14 h
    · have h := h.2 q
      refine r_iload (pc := 73) 1 g dX12_two_73 rfl ?_
      refine r_goto (pc := 75) 80 g dX12_two_75 rfl ?_
      refine r_sub [2, 3, 4, 5, 6] (lv' := [(0, .ref (w.1 0)), (1, .int x1), (2, .int x2), (3, .int x3), (4, .int x4)]) rfl ?_
      exact v_X12_two_80 g hX post hR P34 hP34 x1 x2 x3 x4 u9 μ14 h
theorem v_X12_two_34 {X : Cx} {w : Wd} {l : Launch} {D : va_G} {A : Nat → Prop} (g : Gd X w RX12 cX12_two 8 rm_X12_two) (hX : atX X l D A) (post : Int32 → Mem → Prop) (hR : Rt X w shM 22 (some .int) (pI post)) (x1 : Int32) (x2 : Int32) (x3 : Int32) (x4 : Int32) (μ : Mem) (h : T_X12_two_34 post x1 x2 x3 x4 μ) : V X 34 [(0, .ref (w.1 0)), (1, .int x1), (2, .int x2), (3, .int x3), (4, .int x4)] [] (wls w shM 22 μ) :=
  h (fun x1 x2 x3 x4 μ => V X 34 [(0, .ref (w.1 0)), (1, .int x1), (2, .int x2), (3, .int x3), (4, .int x4)] [] (wls w shM 22 μ)) (fun x1 x2 x3 x4 μ h => bv_X12_two_34 g hX post hR (fun x1 x2 x3 x4 μ => V X 34 [(0, .ref (w.1 0)), (1, .int x1), (2, .int x2), (3, .int x3), (4, .int x4)] [] (wls w shM 22 μ)) (fun _ _ _ _ _ h => h) x1 x2 x3 x4 μ h)
def T_X12_two (x1 : Int32) (μ : Mem) (post : Int32 → Mem → Prop) : Prop :=
  ((¬ (μ 0 5) = 0 → T_X12_isIn x1 0 3 μ (fun (u1 : Int32) (μ2 : Mem) => ((¬ u1 = 0 → T_X12_layUnions μ2 (fun (μ4 : Mem) => T_X12_two_34 post x1 0 1000000 1 μ4)) ∧ (u1 = 0 → post (-2) μ2)))) ∧ ((μ 0 5) = 0 → post (-3) μ))
theorem m_X12_two {w : Wd} {l : Launch} {D : va_G} {A : Nat → Prop} (x1 : Int32) (μ : Mem) (post : Int32 → Mem → Prop) (h : T_X12_two x1 μ post) : MetX l D A w shM 22 yX12_two cX12_two 8 (some .int) rm_X12_two [.ref (w.1 0), .int x1] μ (pI post) := by
  refine metX_of (by decide) rfl (lv := [(0, .ref (w.1 0)), (1, .int x1)]) rfl (fun X hX g hR => ?_)
  refine r_aload_n (pc := 0) 0 g dX12_two_0 rfl ?_
  refine r_geti (pc := 1) (μ := μ) g dX12_two_1 fa_RX12_83 shM_out sM_0 rfl ?_
  refine r_if_ne (pc := 4) 10 g dX12_two_4 rfl (fun q => ?_) (fun q => ?_)
  · have h := h.1 q
    refine r_iload_n (pc := 10) 1 g dX12_two_10 rfl ?_
    refine r_iconst (pc := 11) g dX12_two_11 ci_0 ?_
    refine r_iconst (pc := 12) g dX12_two_12 ci_3 ?_
    refine r_callSi (pc := 13) (st := []) g hX dX12_two_13 (m_X12_isIn x1 0 3 μ _ h) kb_RX12_79 k_1097 rfl rfl rfl rfl (fun u1 μ2 h => ?_)
    refine r_if_ne (pc := 16) 22 g dX12_two_16 rfl (fun q => ?_) (fun q => ?_)
    · have h := h.1 q
      refine r_iconst (pc := 22) g dX12_two_22 ci_0 ?_
      refine r_istore_n (pc := 23) (lv' := [(2, .int 0), (0, .ref (w.1 0)), (1, .int x1)]) g dX12_two_23 rfl rfl ?_
      refine r_ldc (pc := 24) g dX12_two_24 k_1221 ?_
      refine r_istore_n (pc := 26) (lv' := [(3, .int 1000000), (2, .int 0), (0, .ref (w.1 0)), (1, .int x1)]) g dX12_two_26 rfl rfl ?_
      refine r_aload_n (pc := 27) 2 g dX12_two_27 rfl ?_
      refine r_callVv (pc := 28) (st := []) g hX dX12_two_28 (m_X12_layUnions μ2 _ h) kb_RX12_185 kv_X12_layUnions shM_out sM_0 rfl rfl rfl rfl (fun μ4 h => ?_)
      refine r_iconst (pc := 31) g dX12_two_31 ci_1 ?_
      refine r_istore (pc := 32) (lv' := [(4, .int 1), (3, .int 1000000), (2, .int 0), (0, .ref (w.1 0)), (1, .int x1)]) g dX12_two_32 rfl rfl ?_
      refine r_sub [3, 4, 2, 1, 0] (lv' := [(0, .ref (w.1 0)), (1, .int x1), (2, .int 0), (3, .int 1000000), (4, .int 1)]) rfl ?_
      exact v_X12_two_34 g hX post hR x1 0 1000000 1 μ4 h
    · have h := h.2 q
      refine r_bipush (pc := 19) g dX12_two_19 cb_m2 ?_
      exact r_ireti (pc := 21) g hR dX12_two_21 h
  · have h := h.2 q
    refine r_bipush (pc := 7) g dX12_two_7 cb_m3 ?_
    exact r_ireti (pc := 9) g hR dX12_two_9 h
abbrev rm_X12_without : Room := { frames := 5, cells := 0, slots := 0, locals := 113 }
def T_X12_without (x1 : Int32) (μ : Mem) (post : Int32 → Mem → Prop) : Prop :=
  T_X12_isWork x1 μ (fun (u1 : Int32) (μ2 : Mem) => ((u1 = 0 → post (-1) μ2) ∧ (¬ u1 = 0 → T_X12_all μ2 (fun (u3 : Int32) (μ4 : Mem) => T_X12_leastOf (u3 &&& (((1 : Int32) <<< (x1 &&& 31)) ^^^ (-1))) μ4 (fun (u5 : Int32) (μ6 : Mem) => post u5 μ6)))))
theorem m_X12_without {w : Wd} {l : Launch} {D : va_G} {A : Nat → Prop} (x1 : Int32) (μ : Mem) (post : Int32 → Mem → Prop) (h : T_X12_without x1 μ post) : MetX l D A w shM 22 yX12_without cX12_without 2 (some .int) rm_X12_without [.ref (w.1 0), .int x1] μ (pI post) := by
  refine metX_of (by decide) rfl (lv := [(0, .ref (w.1 0)), (1, .int x1)]) rfl (fun X hX g hR => ?_)
  refine r_aload_n (pc := 0) 0 g dX12_without_0 rfl ?_
  refine r_iload_n (pc := 1) 1 g dX12_without_1 rfl ?_
  refine r_callVi (pc := 2) (st := []) g hX dX12_without_2 (m_X12_isWork x1 μ _ h) kb_RX12_137 kv_X12_isWork shM_out sM_0 rfl rfl rfl rfl (fun u1 μ2 h => ?_)
  refine r_if_eq (pc := 5) 25 g dX12_without_5 rfl (fun q => ?_) (fun q => ?_)
  · have h := h.1 q
    refine r_iconst (pc := 25) g dX12_without_25 ci_m1 ?_
    exact r_ireti (pc := 26) g hR dX12_without_26 h
  · have h := h.2 q
    refine r_aload_n (pc := 8) 0 g dX12_without_8 rfl ?_
    refine r_aload_n (pc := 9) 0 g dX12_without_9 rfl ?_
    refine r_callVi (pc := 10) (st := [.ref (w.1 0)]) g hX dX12_without_10 (m_X12_all μ2 _ h) kb_RX12_134 kv_X12_all shM_out sM_0 rfl rfl rfl rfl (fun u3 μ4 h => ?_)
    refine r_iconst (pc := 13) g dX12_without_13 ci_1 ?_
    refine r_iload_n (pc := 14) 1 g dX12_without_14 rfl ?_
    refine r_ishl (pc := 15) g dX12_without_15 ?_
    refine r_iconst (pc := 16) g dX12_without_16 ci_m1 ?_
    refine r_ixor (pc := 17) g dX12_without_17 ?_
    refine r_iand (pc := 18) g dX12_without_18 ?_
    refine r_callVi (pc := 19) (st := []) g hX dX12_without_19 (m_X12_leastOf (u3 &&& (((1 : Int32) <<< (x1 &&& 31)) ^^^ (-1))) μ4 _ h) kb_RX12_191 kv_X12_leastOf shM_out sM_0 rfl rfl rfl rfl (fun u5 μ6 h => ?_)
    refine r_goto (pc := 22) 26 g dX12_without_22 rfl ?_
    exact r_ireti (pc := 26) g hR dX12_without_26 h
abbrev rm_X12_why : Room := { frames := 5, cells := 0, slots := 0, locals := 113 }
def T_X12_why (x1 : Int32) (x2 : Int32) (μ : Mem) (post : Int32 → Mem → Prop) : Prop :=
  T_X12_isWork x1 μ (fun (u1 : Int32) (μ2 : Mem) => ((u1 = 0 → post (-1) μ2) ∧ (¬ u1 = 0 → T_X12_isWork x2 μ2 (fun (u3 : Int32) (μ4 : Mem) => ((¬ u3 = 0 → vp_in x2 9 ∧ T_X12_has (μ4 5 x2.toNatClampNeg) x1 μ4 (fun (u6 : Int32) (μ7 : Mem) => ((¬ u6 = 0 → vp_in x2 9 ∧ vp_in x2 9 ∧ T_X12_all (mset μ7 5 x2.toNatClampNeg ((μ7 5 x2.toNatClampNeg) &&& (((1 : Int32) <<< (x1 &&& 31)) ^^^ (-1)))) (fun (u10 : Int32) (μ11 : Mem) => T_X12_leastOf u10 μ11 (fun (u12 : Int32) (μ13 : Mem) => vp_in x2 9 ∧ vp_in x2 9 ∧ post u12 (mset μ13 5 x2.toNatClampNeg ((μ13 5 x2.toNatClampNeg) ||| ((1 : Int32) <<< (x1 &&& 31))))))) ∧ (u6 = 0 → post (-3) μ7)))) ∧ (u3 = 0 → post (-1) μ4))))))
theorem m_X12_why {w : Wd} {l : Launch} {D : va_G} {A : Nat → Prop} (x1 : Int32) (x2 : Int32) (μ : Mem) (post : Int32 → Mem → Prop) (h : T_X12_why x1 x2 μ post) : MetX l D A w shM 22 yX12_why cX12_why 4 (some .int) rm_X12_why [.ref (w.1 0), .int x1, .int x2] μ (pI post) := by
  refine metX_of (by decide) rfl (lv := [(0, .ref (w.1 0)), (1, .int x1), (2, .int x2)]) rfl (fun X hX g hR => ?_)
  refine r_aload_n (pc := 0) 0 g dX12_why_0 rfl ?_
  refine r_iload_n (pc := 1) 1 g dX12_why_1 rfl ?_
  refine r_callVi (pc := 2) (st := []) g hX dX12_why_2 (m_X12_isWork x1 μ _ h) kb_RX12_137 kv_X12_isWork shM_out sM_0 rfl rfl rfl rfl (fun u1 μ2 h => ?_)
  refine r_if_eq (pc := 5) 16 g dX12_why_5 rfl (fun q => ?_) (fun q => ?_)
  · have h := h.1 q
    refine r_iconst (pc := 16) g dX12_why_16 ci_m1 ?_
    exact r_ireti (pc := 17) g hR dX12_why_17 h
  · have h := h.2 q
    refine r_aload_n (pc := 8) 0 g dX12_why_8 rfl ?_
    refine r_iload_n (pc := 9) 2 g dX12_why_9 rfl ?_
    refine r_callVi (pc := 10) (st := []) g hX dX12_why_10 (m_X12_isWork x2 μ2 _ h) kb_RX12_137 kv_X12_isWork shM_out sM_0 rfl rfl rfl rfl (fun u3 μ4 h => ?_)
    refine r_if_ne (pc := 13) 18 g dX12_why_13 rfl (fun q => ?_) (fun q => ?_)
    · have h := h.1 q
      refine r_aload_n (pc := 18) 0 g dX12_why_18 rfl ?_
      refine r_getr (pc := 19) (μ := μ4) g dX12_why_19 fa_RX12_22 shM_out sM_0 rfl ?_
      refine r_iload_n (pc := 22) 2 g dX12_why_22 rfl ?_
      obtain ⟨b5, h⟩ := h
      refine r_iaload (pc := 23) (μ := μ4) g dX12_why_23 shM_out sM_5 b5 ?_
      refine r_iload_n (pc := 24) 1 g dX12_why_24 rfl ?_
      refine r_callSi (pc := 25) (st := []) g hX dX12_why_25 (m_X12_has (μ4 5 x2.toNatClampNeg) x1 μ4 _ h) kb_RX12_96 k_1123 rfl rfl rfl rfl (fun u6 μ7 h => ?_)
      refine r_if_ne (pc := 28) 34 g dX12_why_28 rfl (fun q => ?_) (fun q => ?_)
      · have h := h.1 q
        refine r_aload_n (pc := 34) 0 g dX12_why_34 rfl ?_
        refine r_getr (pc := 35) (μ := μ7) g dX12_why_35 fa_RX12_22 shM_out sM_0 rfl ?_
        refine r_iload_n (pc := 38) 2 g dX12_why_38 rfl ?_
        refine r_dup2 (pc := 39) g dX12_why_39 rfl rfl ?_
        obtain ⟨b8, h⟩ := h
        refine r_iaload (pc := 40) (μ := μ7) g dX12_why_40 shM_out sM_5 b8 ?_
        refine r_iconst (pc := 41) g dX12_why_41 ci_1 ?_
        refine r_iload_n (pc := 42) 1 g dX12_why_42 rfl ?_
        refine r_ishl (pc := 43) g dX12_why_43 ?_
        refine r_iconst (pc := 44) g dX12_why_44 ci_m1 ?_
        refine r_ixor (pc := 45) g dX12_why_45 ?_
        refine r_iand (pc := 46) g dX12_why_46 ?_
        obtain ⟨b9, h⟩ := h
        refine r_iastore (pc := 47) (μ := μ7) g dX12_why_47 shM_out sM_5 b9 ?_
        refine r_aload_n (pc := 48) 0 g dX12_why_48 rfl ?_
        refine r_aload_n (pc := 49) 0 g dX12_why_49 rfl ?_
        refine r_callVi (pc := 50) (st := [.ref (w.1 0)]) g hX dX12_why_50 (m_X12_all (mset μ7 5 x2.toNatClampNeg ((μ7 5 x2.toNatClampNeg) &&& (((1 : Int32) <<< (x1 &&& 31)) ^^^ (-1)))) _ h) kb_RX12_134 kv_X12_all shM_out sM_0 rfl rfl rfl rfl (fun u10 μ11 h => ?_)
        refine r_callVi (pc := 53) (st := []) g hX dX12_why_53 (m_X12_leastOf u10 μ11 _ h) kb_RX12_191 kv_X12_leastOf shM_out sM_0 rfl rfl rfl rfl (fun u12 μ13 h => ?_)
        refine r_istore_n (pc := 56) (lv' := [(3, .int u12), (0, .ref (w.1 0)), (1, .int x1), (2, .int x2)]) g dX12_why_56 rfl rfl ?_
        refine r_aload_n (pc := 57) 1 g dX12_why_57 rfl ?_
        refine r_getr (pc := 58) (μ := μ13) g dX12_why_58 fa_RX12_22 shM_out sM_0 rfl ?_
        refine r_iload_n (pc := 61) 3 g dX12_why_61 rfl ?_
        refine r_dup2 (pc := 62) g dX12_why_62 rfl rfl ?_
        obtain ⟨b14, h⟩ := h
        refine r_iaload (pc := 63) (μ := μ13) g dX12_why_63 shM_out sM_5 b14 ?_
        refine r_iconst (pc := 64) g dX12_why_64 ci_1 ?_
        refine r_iload_n (pc := 65) 2 g dX12_why_65 rfl ?_
        refine r_ishl (pc := 66) g dX12_why_66 ?_
        refine r_ior (pc := 67) g dX12_why_67 ?_
        obtain ⟨b15, h⟩ := h
        refine r_iastore (pc := 68) (μ := μ13) g dX12_why_68 shM_out sM_5 b15 ?_
        refine r_iload_n (pc := 69) 0 g dX12_why_69 rfl ?_
        exact r_ireti (pc := 70) g hR dX12_why_70 h
      · have h := h.2 q
        refine r_bipush (pc := 31) g dX12_why_31 cb_m3 ?_
        exact r_ireti (pc := 33) g hR dX12_why_33 h
    · have h := h.2 q
      refine r_iconst (pc := 16) g dX12_why_16 ci_m1 ?_
      exact r_ireti (pc := 17) g hR dX12_why_17 h
abbrev rm_X12_widest : Room := { frames := 5, cells := 0, slots := 0, locals := 113 }
def B_X12_widest_8 (post : Int32 → Mem → Prop) (P8 : Int32 → Int32 → Int32 → Mem → Prop) (x1 : Int32) (x2 : Int32) (x3 : Int32) (μ : Mem) : Prop :=
  (((μ 0 5) ≤ x3 → post x1 μ) ∧ (¬ (μ 0 5) ≤ x3 → T_X12_all μ (fun (u1 : Int32) (μ2 : Mem) => T_X12_leastOf (u1 &&& (((1 : Int32) <<< (x3 &&& 31)) ^^^ (-1))) μ2 (fun (u3 : Int32) (μ4 : Mem) => ((x2 ≤ u3 → P8 x1 x2 (x3 + 1) μ4) ∧ (¬ x2 ≤ u3 → P8 x3 u3 (x3 + 1) μ4))))))
def T_X12_widest_8 (post : Int32 → Mem → Prop) (x1 : Int32) (x2 : Int32) (x3 : Int32) (μ : Mem) : Prop :=
  ∀ P8 : Int32 → Int32 → Int32 → Mem → Prop, (∀ (x1 : Int32) (x2 : Int32) (x3 : Int32) (μ : Mem), B_X12_widest_8 post P8 x1 x2 x3 μ → P8 x1 x2 x3 μ) → P8 x1 x2 x3 μ
theorem bv_X12_widest_8 {X : Cx} {w : Wd} {l : Launch} {D : va_G} {A : Nat → Prop} (g : Gd X w RX12 cX12_widest 5 rm_X12_widest) (hX : atX X l D A) (post : Int32 → Mem → Prop) (hR : Rt X w shM 22 (some .int) (pI post)) (P8 : Int32 → Int32 → Int32 → Mem → Prop) (hP8 : ∀ (x1 : Int32) (x2 : Int32) (x3 : Int32) (μ : Mem), P8 x1 x2 x3 μ → V X 8 [(0, .ref (w.1 0)), (1, .int x1), (2, .int x2), (3, .int x3)] [] (wls w shM 22 μ)) (x1 : Int32) (x2 : Int32) (x3 : Int32) (μ : Mem) (h : B_X12_widest_8 post P8 x1 x2 x3 μ) : V X 8 [(0, .ref (w.1 0)), (1, .int x1), (2, .int x2), (3, .int x3)] [] (wls w shM 22 μ) := by
  refine r_iload_n (pc := 8) 3 g dX12_widest_8 rfl ?_
  refine r_aload_n (pc := 9) 0 g dX12_widest_9 rfl ?_
  refine r_geti (pc := 10) (μ := μ) g dX12_widest_10 fa_RX12_83 shM_out sM_0 rfl ?_
  refine r_icmp_ge (pc := 13) 49 g dX12_widest_13 rfl (fun q => ?_) (fun q => ?_)
  · have h := h.1 q
    refine r_iload_n (pc := 49) 1 g dX12_widest_49 rfl ?_
    exact r_ireti (pc := 50) g hR dX12_widest_50 h
  · have h := h.2 q
    refine r_aload_n (pc := 16) 0 g dX12_widest_16 rfl ?_
    refine r_aload_n (pc := 17) 0 g dX12_widest_17 rfl ?_
    refine r_callVi (pc := 18) (st := [.ref (w.1 0)]) g hX dX12_widest_18 (m_X12_all μ _ h) kb_RX12_134 kv_X12_all shM_out sM_0 rfl rfl rfl rfl (fun u1 μ2 h => ?_)
    refine r_iconst (pc := 21) g dX12_widest_21 ci_1 ?_
    refine r_iload_n (pc := 22) 3 g dX12_widest_22 rfl ?_
    refine r_ishl (pc := 23) g dX12_widest_23 ?_
    refine r_iconst (pc := 24) g dX12_widest_24 ci_m1 ?_
    refine r_ixor (pc := 25) g dX12_widest_25 ?_
    refine r_iand (pc := 26) g dX12_widest_26 ?_
    refine r_callVi (pc := 27) (st := []) g hX dX12_widest_27 (m_X12_leastOf (u1 &&& (((1 : Int32) <<< (x3 &&& 31)) ^^^ (-1))) μ2 _ h) kb_RX12_191 kv_X12_leastOf shM_out sM_0 rfl rfl rfl rfl (fun u3 μ4 h => ?_)
    refine r_istore (pc := 30) (lv' := [(4, .int u3), (0, .ref (w.1 0)), (1, .int x1), (2, .int x2), (3, .int x3)]) g dX12_widest_30 rfl rfl ?_
    refine r_iload (pc := 32) 0 g dX12_widest_32 rfl ?_
    refine r_iload_n (pc := 34) 3 g dX12_widest_34 rfl ?_
    refine r_icmp_ge (pc := 35) 43 g dX12_widest_35 rfl (fun q => ?_) (fun q => ?_)
    · have h := h.1 q
      refine r_iinc (pc := 43) (lv' := [(3, .int (x3 + 1)), (4, .int u3), (0, .ref (w.1 0)), (1, .int x1), (2, .int x2)]) 4 g dX12_widest_43 rfl ci_1 rfl rfl ?_
      refine r_goto (pc := 46) 8 g dX12_widest_46 rfl ?_
      refine r_sub [2, 3, 4, 0] (lv' := [(0, .ref (w.1 0)), (1, .int x1), (2, .int x2), (3, .int (x3 + 1))]) rfl ?_
      exact hP8 x1 x2 (x3 + 1) μ4 h
    · have h := h.2 q
      refine r_iload_n (pc := 38) 4 g dX12_widest_38 rfl ?_
      refine r_istore_n (pc := 39) (lv' := [(1, .int x3), (4, .int u3), (0, .ref (w.1 0)), (2, .int x2), (3, .int x3)]) g dX12_widest_39 rfl rfl ?_
      refine r_iload (pc := 40) 1 g dX12_widest_40 rfl ?_
      refine r_istore_n (pc := 42) (lv' := [(2, .int u3), (1, .int x3), (4, .int u3), (0, .ref (w.1 0)), (3, .int x3)]) g dX12_widest_42 rfl rfl ?_
      refine r_iinc (pc := 43) (lv' := [(3, .int (x3 + 1)), (2, .int u3), (1, .int x3), (4, .int u3), (0, .ref (w.1 0))]) 4 g dX12_widest_43 rfl ci_1 rfl rfl ?_
      refine r_goto (pc := 46) 8 g dX12_widest_46 rfl ?_
      refine r_sub [4, 2, 1, 0] (lv' := [(0, .ref (w.1 0)), (1, .int x3), (2, .int u3), (3, .int (x3 + 1))]) rfl ?_
      exact hP8 x3 u3 (x3 + 1) μ4 h
theorem v_X12_widest_8 {X : Cx} {w : Wd} {l : Launch} {D : va_G} {A : Nat → Prop} (g : Gd X w RX12 cX12_widest 5 rm_X12_widest) (hX : atX X l D A) (post : Int32 → Mem → Prop) (hR : Rt X w shM 22 (some .int) (pI post)) (x1 : Int32) (x2 : Int32) (x3 : Int32) (μ : Mem) (h : T_X12_widest_8 post x1 x2 x3 μ) : V X 8 [(0, .ref (w.1 0)), (1, .int x1), (2, .int x2), (3, .int x3)] [] (wls w shM 22 μ) :=
  h (fun x1 x2 x3 μ => V X 8 [(0, .ref (w.1 0)), (1, .int x1), (2, .int x2), (3, .int x3)] [] (wls w shM 22 μ)) (fun x1 x2 x3 μ h => bv_X12_widest_8 g hX post hR (fun x1 x2 x3 μ => V X 8 [(0, .ref (w.1 0)), (1, .int x1), (2, .int x2), (3, .int x3)] [] (wls w shM 22 μ)) (fun _ _ _ _ h => h) x1 x2 x3 μ h)
def T_X12_widest (μ : Mem) (post : Int32 → Mem → Prop) : Prop :=
  T_X12_widest_8 post (-9) 1000000 0 μ
theorem m_X12_widest {w : Wd} {l : Launch} {D : va_G} {A : Nat → Prop} (μ : Mem) (post : Int32 → Mem → Prop) (h : T_X12_widest μ post) : MetX l D A w shM 22 yX12_widest cX12_widest 5 (some .int) rm_X12_widest [.ref (w.1 0)] μ (pI post) := by
  refine metX_of (by decide) rfl (lv := [(0, .ref (w.1 0))]) rfl (fun X hX g hR => ?_)
  refine r_bipush (pc := 0) g dX12_widest_0 cb_m9 ?_
  refine r_istore_n (pc := 2) (lv' := [(1, .int (-9)), (0, .ref (w.1 0))]) g dX12_widest_2 rfl rfl ?_
  refine r_ldc (pc := 3) g dX12_widest_3 k_1221 ?_
  refine r_istore_n (pc := 5) (lv' := [(2, .int 1000000), (1, .int (-9)), (0, .ref (w.1 0))]) g dX12_widest_5 rfl rfl ?_
  refine r_iconst (pc := 6) g dX12_widest_6 ci_0 ?_
  refine r_istore_n (pc := 7) (lv' := [(3, .int 0), (2, .int 1000000), (1, .int (-9)), (0, .ref (w.1 0))]) g dX12_widest_7 rfl rfl ?_
  refine r_sub [3, 2, 1, 0] (lv' := [(0, .ref (w.1 0)), (1, .int (-9)), (2, .int 1000000), (3, .int 0)]) rfl ?_
  exact v_X12_widest_8 g hX post hR (-9) 1000000 0 μ h
abbrev rm_X12_sheet : Room := { frames := 2, cells := 0, slots := 0, locals := 42 }
def T_X12_sheet_27 (post : Int32 → Mem → Prop) (μ : Mem) : Prop :=
  post (-2) μ
theorem v_X12_sheet_27 {X : Cx} {w : Wd} {l : Launch} {D : va_G} {A : Nat → Prop} (g : Gd X w RX12 cX12_sheet 5 rm_X12_sheet) (hX : atX X l D A) (post : Int32 → Mem → Prop) (hR : Rt X w shM 22 (some .int) (pI post)) (μ : Mem) (h : T_X12_sheet_27 post μ) : V X 27 [] [] (wls w shM 22 μ) := by
  refine r_bipush (pc := 27) g dX12_sheet_27 cb_m2 ?_
  exact r_ireti (pc := 29) g hR dX12_sheet_29 h
def B_X12_sheet_57 (post : Int32 → Mem → Prop) (P57 : Int32 → Int32 → Mem → Prop) (x1 : Int32) (x4 : Int32) (μ : Mem) : Prop :=
  ((60 ≤ x4 → post 1 μ) ∧ (¬ 60 ≤ x4 → vp_in ((60 * x1) + x4) 240 ∧ P57 x1 (x4 + 1) (mset μ 3 ((60 * x1) + x4).toNatClampNeg 0)))
def T_X12_sheet_57 (post : Int32 → Mem → Prop) (x1 : Int32) (x4 : Int32) (μ : Mem) : Prop :=
  ∀ P57 : Int32 → Int32 → Mem → Prop, (∀ (x1 : Int32) (x4 : Int32) (μ : Mem), B_X12_sheet_57 post P57 x1 x4 μ → P57 x1 x4 μ) → P57 x1 x4 μ
theorem bv_X12_sheet_57 {X : Cx} {w : Wd} {l : Launch} {D : va_G} {A : Nat → Prop} (g : Gd X w RX12 cX12_sheet 5 rm_X12_sheet) (hX : atX X l D A) (post : Int32 → Mem → Prop) (hR : Rt X w shM 22 (some .int) (pI post)) (P57 : Int32 → Int32 → Mem → Prop) (hP57 : ∀ (x1 : Int32) (x4 : Int32) (μ : Mem), P57 x1 x4 μ → V X 57 [(0, .ref (w.1 0)), (1, .int x1), (4, .int x4)] [] (wls w shM 22 μ)) (x1 : Int32) (x4 : Int32) (μ : Mem) (h : B_X12_sheet_57 post P57 x1 x4 μ) : V X 57 [(0, .ref (w.1 0)), (1, .int x1), (4, .int x4)] [] (wls w shM 22 μ) := by
  refine r_iload (pc := 57) 2 g dX12_sheet_57 rfl ?_
  refine r_bipush (pc := 59) g dX12_sheet_59 cb_60 ?_
  refine r_icmp_ge (pc := 61) 83 g dX12_sheet_61 rfl (fun q => ?_) (fun q => ?_)
  · have h := h.1 q
    refine r_iconst (pc := 83) g dX12_sheet_83 ci_1 ?_
    exact r_ireti (pc := 84) g hR dX12_sheet_84 h
  · have h := h.2 q
    refine r_aload_n (pc := 64) 0 g dX12_sheet_64 rfl ?_
    refine r_getr (pc := 65) (μ := μ) g dX12_sheet_65 fa_RX12_16 shM_out sM_0 rfl ?_
    refine r_bipush (pc := 68) g dX12_sheet_68 cb_60 ?_
    refine r_iload_n (pc := 70) 1 g dX12_sheet_70 rfl ?_
    refine r_imul (pc := 71) g dX12_sheet_71 ?_
    refine r_iload (pc := 72) 2 g dX12_sheet_72 rfl ?_
    refine r_iadd (pc := 74) g dX12_sheet_74 ?_
    refine r_iconst (pc := 75) g dX12_sheet_75 ci_0 ?_
    obtain ⟨b1, h⟩ := h
    refine r_iastore (pc := 76) (μ := μ) g dX12_sheet_76 shM_out sM_3 b1 ?_
    refine r_iinc (pc := 77) (lv' := [(4, .int (x4 + 1)), (0, .ref (w.1 0)), (1, .int x1)]) 2 g dX12_sheet_77 rfl ci_1 rfl rfl ?_
    refine r_goto (pc := 80) 57 g dX12_sheet_80 rfl ?_
    refine r_sub [1, 2, 0] (lv' := [(0, .ref (w.1 0)), (1, .int x1), (4, .int (x4 + 1))]) rfl ?_
    exact hP57 x1 (x4 + 1) (mset μ 3 ((60 * x1) + x4).toNatClampNeg 0) h
theorem v_X12_sheet_57 {X : Cx} {w : Wd} {l : Launch} {D : va_G} {A : Nat → Prop} (g : Gd X w RX12 cX12_sheet 5 rm_X12_sheet) (hX : atX X l D A) (post : Int32 → Mem → Prop) (hR : Rt X w shM 22 (some .int) (pI post)) (x1 : Int32) (x4 : Int32) (μ : Mem) (h : T_X12_sheet_57 post x1 x4 μ) : V X 57 [(0, .ref (w.1 0)), (1, .int x1), (4, .int x4)] [] (wls w shM 22 μ) :=
  h (fun x1 x4 μ => V X 57 [(0, .ref (w.1 0)), (1, .int x1), (4, .int x4)] [] (wls w shM 22 μ)) (fun x1 x4 μ h => bv_X12_sheet_57 g hX post hR (fun x1 x4 μ => V X 57 [(0, .ref (w.1 0)), (1, .int x1), (4, .int x4)] [] (wls w shM 22 μ)) (fun _ _ _ h => h) x1 x4 μ h)
def T_X12_sheet (x1 : Int32) (x2 : Int32) (x3 : Int32) (μ : Mem) (post : Int32 → Mem → Prop) : Prop :=
  T_X12_isSheet x1 (mset μ 0 0 0) (fun (u1 : Int32) (μ2 : Mem) => ((¬ u1 = 0 → T_X12_isLane x2 μ2 (fun (u3 : Int32) (μ4 : Mem) => ((u3 = 0 → T_X12_sheet_27 post μ4) ∧ (¬ u3 = 0 → ((x3 ≤ 60 → ((0 ≤ x3 → vp_in x1 4 ∧ vp_in x1 4 ∧ T_X12_sheet_57 post x1 0 (mset (mset μ4 1 x1.toNatClampNeg x2) 2 x1.toNatClampNeg x3)) ∧ (¬ 0 ≤ x3 → T_X12_fails 4 μ4 (fun (u7 : Int32) (μ8 : Mem) => post u7 μ8)))) ∧ (¬ x3 ≤ 60 → T_X12_sheet_27 post μ4)))))) ∧ (u1 = 0 → post (-1) μ2)))
theorem m_X12_sheet {w : Wd} {l : Launch} {D : va_G} {A : Nat → Prop} (x1 : Int32) (x2 : Int32) (x3 : Int32) (μ : Mem) (post : Int32 → Mem → Prop) (h : T_X12_sheet x1 x2 x3 μ post) : MetX l D A w shM 22 yX12_sheet cX12_sheet 5 (some .int) rm_X12_sheet [.ref (w.1 0), .int x1, .int x2, .int x3] μ (pI post) := by
  refine metX_of (by decide) rfl (lv := [(0, .ref (w.1 0)), (1, .int x1), (2, .int x2), (3, .int x3)]) rfl (fun X hX g hR => ?_)
  refine r_aload_n (pc := 0) 0 g dX12_sheet_0 rfl ?_
  refine r_iconst (pc := 1) g dX12_sheet_1 ci_0 ?_
  refine r_puti (pc := 2) (μ := μ) g dX12_sheet_2 fp_RX12_73 shM_out sM_0 rfl ?_
  refine r_iload_n (pc := 5) 1 g dX12_sheet_5 rfl ?_
  refine r_callSi (pc := 6) (st := []) g hX dX12_sheet_6 (m_X12_isSheet x1 (mset μ 0 0 0) _ h) kb_RX12_113 k_1094 rfl rfl rfl rfl (fun u1 μ2 h => ?_)
  refine r_if_ne (pc := 9) 14 g dX12_sheet_9 rfl (fun q => ?_) (fun q => ?_)
  · have h := h.1 q
    refine r_iload_n (pc := 14) 2 g dX12_sheet_14 rfl ?_
    refine r_callSi (pc := 15) (st := []) g hX dX12_sheet_15 (m_X12_isLane x2 μ2 _ h) kb_RX12_117 k_1100 rfl rfl rfl rfl (fun u3 μ4 h => ?_)
    refine r_if_eq (pc := 18) 27 g dX12_sheet_18 rfl (fun q => ?_) (fun q => ?_)
    · have h := h.1 q
      refine r_sub [] (lv' := []) rfl ?_
      exact v_X12_sheet_27 g hX post hR μ4 h
    · have h := h.2 q
      refine r_iload_n (pc := 21) 3 g dX12_sheet_21 rfl ?_
      refine r_bipush (pc := 22) g dX12_sheet_22 cb_60 ?_
      refine r_icmp_le (pc := 24) 30 g dX12_sheet_24 rfl (fun q => ?_) (fun q => ?_)
      · have h := h.1 q
        refine r_iload_n (pc := 30) 3 g dX12_sheet_30 rfl ?_
        refine r_if_ge (pc := 31) 40 g dX12_sheet_31 rfl (fun q => ?_) (fun q => ?_)
        · have h := h.1 q
          refine r_aload_n (pc := 40) 0 g dX12_sheet_40 rfl ?_
          refine r_getr (pc := 41) (μ := μ4) g dX12_sheet_41 fa_RX12_9 shM_out sM_0 rfl ?_
          refine r_iload_n (pc := 44) 1 g dX12_sheet_44 rfl ?_
          refine r_iload_n (pc := 45) 2 g dX12_sheet_45 rfl ?_
          obtain ⟨b5, h⟩ := h
          refine r_iastore (pc := 46) (μ := μ4) g dX12_sheet_46 shM_out sM_1 b5 ?_
          refine r_aload_n (pc := 47) 0 g dX12_sheet_47 rfl ?_
          refine r_getr (pc := 48) (μ := mset μ4 1 x1.toNatClampNeg x2) g dX12_sheet_48 fa_RX12_13 shM_out sM_0 rfl ?_
          refine r_iload_n (pc := 51) 1 g dX12_sheet_51 rfl ?_
          refine r_iload_n (pc := 52) 3 g dX12_sheet_52 rfl ?_
          obtain ⟨b6, h⟩ := h
          refine r_iastore (pc := 53) (μ := mset μ4 1 x1.toNatClampNeg x2) g dX12_sheet_53 shM_out sM_2 b6 ?_
          refine r_iconst (pc := 54) g dX12_sheet_54 ci_0 ?_
          refine r_istore (pc := 55) (lv' := [(4, .int 0), (0, .ref (w.1 0)), (1, .int x1), (2, .int x2), (3, .int x3)]) g dX12_sheet_55 rfl rfl ?_
          refine r_sub [1, 2, 0] (lv' := [(0, .ref (w.1 0)), (1, .int x1), (4, .int 0)]) rfl ?_
          exact v_X12_sheet_57 g hX post hR x1 0 (mset (mset μ4 1 x1.toNatClampNeg x2) 2 x1.toNatClampNeg x3) h
        · have h := h.2 q
          refine r_aload_n (pc := 34) 0 g dX12_sheet_34 rfl ?_
          refine r_iconst (pc := 35) g dX12_sheet_35 ci_4 ?_
          refine r_callVi (pc := 36) (st := []) g hX dX12_sheet_36 (m_X12_fails 4 μ4 _ h) kb_RX12_124 kv_X12_fails shM_out sM_0 rfl rfl rfl rfl (fun u7 μ8 h => ?_)
          exact r_ireti (pc := 39) g hR dX12_sheet_39 h
      · have h := h.2 q
        refine r_sub [] (lv' := []) rfl ?_
        exact v_X12_sheet_27 g hX post hR μ4 h
  · have h := h.2 q
    refine r_iconst (pc := 12) g dX12_sheet_12 ci_m1 ?_
    exact r_ireti (pc := 13) g hR dX12_sheet_13 h
abbrev rm_X12_lose : Room := { frames := 2, cells := 0, slots := 0, locals := 42 }
def T_X12_lose_25 (post : Int32 → Mem → Prop) (x1 : Int32) (s0 : Int32) (μ : Mem) : Prop :=
  vp_in x1 4 ∧ post s0 (mset μ 1 x1.toNatClampNeg (-9))
theorem v_X12_lose_25 {X : Cx} {w : Wd} {l : Launch} {D : va_G} {A : Nat → Prop} (g : Gd X w RX12 cX12_lose 3 rm_X12_lose) (hX : atX X l D A) (post : Int32 → Mem → Prop) (hR : Rt X w shM 22 (some .int) (pI post)) (x1 : Int32) (s0 : Int32) (μ : Mem) (h : T_X12_lose_25 post x1 s0 μ) : V X 25 [(0, .ref (w.1 0)), (1, .int x1)] [.int s0] (wls w shM 22 μ) := by
  refine r_istore_n (pc := 25) (lv' := [(2, .int s0), (0, .ref (w.1 0)), (1, .int x1)]) g dX12_lose_25 rfl rfl ?_
  refine r_aload_n (pc := 26) 1 g dX12_lose_26 rfl ?_
  refine r_getr (pc := 27) (μ := μ) g dX12_lose_27 fa_RX12_9 shM_out sM_0 rfl ?_
  refine r_iload_n (pc := 30) 2 g dX12_lose_30 rfl ?_
  refine r_bipush (pc := 31) g dX12_lose_31 cb_m9 ?_
  obtain ⟨b1, h⟩ := h
  refine r_iastore (pc := 33) (μ := μ) g dX12_lose_33 shM_out sM_1 b1 ?_
  refine r_iload_n (pc := 34) 0 g dX12_lose_34 rfl ?_
  exact r_ireti (pc := 35) g hR dX12_lose_35 h
def T_X12_lose (x1 : Int32) (μ : Mem) (post : Int32 → Mem → Prop) : Prop :=
  T_X12_isSheet x1 μ (fun (u1 : Int32) (μ2 : Mem) => ((¬ u1 = 0 → vp_in x1 4 ∧ ((¬ (μ2 1 x1.toNatClampNeg) = (-9) → T_X12_lose_25 post x1 1 μ2) ∧ ((μ2 1 x1.toNatClampNeg) = (-9) → T_X12_lose_25 post x1 0 μ2))) ∧ (u1 = 0 → post (-1) μ2)))
theorem m_X12_lose {w : Wd} {l : Launch} {D : va_G} {A : Nat → Prop} (x1 : Int32) (μ : Mem) (post : Int32 → Mem → Prop) (h : T_X12_lose x1 μ post) : MetX l D A w shM 22 yX12_lose cX12_lose 3 (some .int) rm_X12_lose [.ref (w.1 0), .int x1] μ (pI post) := by
  refine metX_of (by decide) rfl (lv := [(0, .ref (w.1 0)), (1, .int x1)]) rfl (fun X hX g hR => ?_)
  refine r_iload_n (pc := 0) 1 g dX12_lose_0 rfl ?_
  refine r_callSi (pc := 1) (st := []) g hX dX12_lose_1 (m_X12_isSheet x1 μ _ h) kb_RX12_113 k_1094 rfl rfl rfl rfl (fun u1 μ2 h => ?_)
  refine r_if_ne (pc := 4) 9 g dX12_lose_4 rfl (fun q => ?_) (fun q => ?_)
  · have h := h.1 q
    refine r_aload_n (pc := 9) 0 g dX12_lose_9 rfl ?_
    refine r_getr (pc := 10) (μ := μ2) g dX12_lose_10 fa_RX12_9 shM_out sM_0 rfl ?_
    refine r_iload_n (pc := 13) 1 g dX12_lose_13 rfl ?_
    obtain ⟨b3, h⟩ := h
    refine r_iaload (pc := 14) (μ := μ2) g dX12_lose_14 shM_out sM_1 b3 ?_
    refine r_bipush (pc := 15) g dX12_lose_15 cb_m9 ?_
    refine r_icmp_ne (pc := 17) 24 g dX12_lose_17 rfl (fun q => ?_) (fun q => ?_)
    · have h := h.1 q
      refine r_iconst (pc := 24) g dX12_lose_24 ci_1 ?_
      refine r_sub [0, 1] (lv' := [(0, .ref (w.1 0)), (1, .int x1)]) rfl ?_
      exact v_X12_lose_25 g hX post hR x1 1 μ2 h
    · have h := h.2 q
      refine r_iconst (pc := 20) g dX12_lose_20 ci_0 ?_
      refine r_goto (pc := 21) 25 g dX12_lose_21 rfl ?_
      refine r_sub [0, 1] (lv' := [(0, .ref (w.1 0)), (1, .int x1)]) rfl ?_
      exact v_X12_lose_25 g hX post hR x1 0 μ2 h
  · have h := h.2 q
    refine r_iconst (pc := 7) g dX12_lose_7 ci_m1 ?_
    exact r_ireti (pc := 8) g hR dX12_lose_8 h
abbrev rm_X12_put : Room := { frames := 2, cells := 0, slots := 0, locals := 42 }
def T_X12_put_93 (post : Int32 → Mem → Prop) (s0 : Int32) (s1 : Int32) (μ : Mem) : Prop :=
  vp_in s1 240 ∧ post 1 (mset μ 3 s1.toNatClampNeg s0)
theorem v_X12_put_93 {X : Cx} {w : Wd} {l : Launch} {D : va_G} {A : Nat → Prop} (g : Gd X w RX12 cX12_put 4 rm_X12_put) (hX : atX X l D A) (post : Int32 → Mem → Prop) (hR : Rt X w shM 22 (some .int) (pI post)) (s0 : Int32) (s1 : Int32) (μ : Mem) (h : T_X12_put_93 post s0 s1 μ) : V X 93 [] [.int s0, .int s1, .ref (w.1 3)] (wls w shM 22 μ) := by
  obtain ⟨b1, h⟩ := h
  refine r_iastore (pc := 93) (μ := μ) g dX12_put_93 shM_out sM_3 b1 ?_
  refine r_iconst (pc := 94) g dX12_put_94 ci_1 ?_
  exact r_ireti (pc := 95) g hR dX12_put_95 h
def T_X12_put (x1 : Int32) (x2 : Int32) (x3 : Int32) (μ : Mem) (post : Int32 → Mem → Prop) : Prop :=
  T_X12_isSheet x1 (mset μ 0 0 0) (fun (u1 : Int32) (μ2 : Mem) => ((¬ u1 = 0 → vp_in x1 4 ∧ ((¬ (μ2 1 x1.toNatClampNeg) = (-9) → vp_in x1 4 ∧ T_X12_isIn x2 0 ((μ2 2 x1.toNatClampNeg) - 1) μ2 (fun (u5 : Int32) (μ6 : Mem) => ((¬ u5 = 0 → vp_in x1 4 ∧ ((¬ (μ6 1 x1.toNatClampNeg) = 0 → vp_in x1 4 ∧ ((¬ (μ6 1 x1.toNatClampNeg) = 1 → T_X12_put_93 post x3 ((60 * x1) + x2) μ6) ∧ ((μ6 1 x1.toNatClampNeg) = 1 → T_X12_put_93 post x3.toInt16.toInt32 ((60 * x1) + x2) μ6))) ∧ ((μ6 1 x1.toNatClampNeg) = 0 → T_X12_put_93 post x3.toInt8.toInt32 ((60 * x1) + x2) μ6))) ∧ (u5 = 0 → T_X12_fails 3 μ6 (fun (u9 : Int32) (μ10 : Mem) => post u9 μ10))))) ∧ ((μ2 1 x1.toNatClampNeg) = (-9) → T_X12_fails 1 μ2 (fun (u11 : Int32) (μ12 : Mem) => post u11 μ12)))) ∧ (u1 = 0 → post (-1) μ2)))
theorem m_X12_put {w : Wd} {l : Launch} {D : va_G} {A : Nat → Prop} (x1 : Int32) (x2 : Int32) (x3 : Int32) (μ : Mem) (post : Int32 → Mem → Prop) (h : T_X12_put x1 x2 x3 μ post) : MetX l D A w shM 22 yX12_put cX12_put 4 (some .int) rm_X12_put [.ref (w.1 0), .int x1, .int x2, .int x3] μ (pI post) := by
  refine metX_of (by decide) rfl (lv := [(0, .ref (w.1 0)), (1, .int x1), (2, .int x2), (3, .int x3)]) rfl (fun X hX g hR => ?_)
  refine r_aload_n (pc := 0) 0 g dX12_put_0 rfl ?_
  refine r_iconst (pc := 1) g dX12_put_1 ci_0 ?_
  refine r_puti (pc := 2) (μ := μ) g dX12_put_2 fp_RX12_73 shM_out sM_0 rfl ?_
  refine r_iload_n (pc := 5) 1 g dX12_put_5 rfl ?_
  refine r_callSi (pc := 6) (st := []) g hX dX12_put_6 (m_X12_isSheet x1 (mset μ 0 0 0) _ h) kb_RX12_113 k_1094 rfl rfl rfl rfl (fun u1 μ2 h => ?_)
  refine r_if_ne (pc := 9) 14 g dX12_put_9 rfl (fun q => ?_) (fun q => ?_)
  · have h := h.1 q
    refine r_aload_n (pc := 14) 0 g dX12_put_14 rfl ?_
    refine r_getr (pc := 15) (μ := μ2) g dX12_put_15 fa_RX12_9 shM_out sM_0 rfl ?_
    refine r_iload_n (pc := 18) 1 g dX12_put_18 rfl ?_
    obtain ⟨b3, h⟩ := h
    refine r_iaload (pc := 19) (μ := μ2) g dX12_put_19 shM_out sM_1 b3 ?_
    refine r_bipush (pc := 20) g dX12_put_20 cb_m9 ?_
    refine r_icmp_ne (pc := 22) 31 g dX12_put_22 rfl (fun q => ?_) (fun q => ?_)
    · have h := h.1 q
      refine r_iload_n (pc := 31) 2 g dX12_put_31 rfl ?_
      refine r_iconst (pc := 32) g dX12_put_32 ci_0 ?_
      refine r_aload_n (pc := 33) 0 g dX12_put_33 rfl ?_
      refine r_getr (pc := 34) (μ := μ2) g dX12_put_34 fa_RX12_13 shM_out sM_0 rfl ?_
      refine r_iload_n (pc := 37) 1 g dX12_put_37 rfl ?_
      obtain ⟨b4, h⟩ := h
      refine r_iaload (pc := 38) (μ := μ2) g dX12_put_38 shM_out sM_2 b4 ?_
      refine r_iconst (pc := 39) g dX12_put_39 ci_1 ?_
      refine r_isub (pc := 40) g dX12_put_40 ?_
      refine r_callSi (pc := 41) (st := []) g hX dX12_put_41 (m_X12_isIn x2 0 ((μ2 2 x1.toNatClampNeg) - 1) μ2 _ h) kb_RX12_79 k_1097 rfl rfl rfl rfl (fun u5 μ6 h => ?_)
      refine r_if_ne (pc := 44) 53 g dX12_put_44 rfl (fun q => ?_) (fun q => ?_)
      · have h := h.1 q
        refine r_aload_n (pc := 53) 0 g dX12_put_53 rfl ?_
        refine r_getr (pc := 54) (μ := μ6) g dX12_put_54 fa_RX12_16 shM_out sM_0 rfl ?_
        refine r_bipush (pc := 57) g dX12_put_57 cb_60 ?_
        refine r_iload_n (pc := 59) 1 g dX12_put_59 rfl ?_
        refine r_imul (pc := 60) g dX12_put_60 ?_
        refine r_iload_n (pc := 61) 2 g dX12_put_61 rfl ?_
        refine r_iadd (pc := 62) g dX12_put_62 ?_
        refine r_aload_n (pc := 63) 0 g dX12_put_63 rfl ?_
        refine r_getr (pc := 64) (μ := μ6) g dX12_put_64 fa_RX12_9 shM_out sM_0 rfl ?_
        refine r_iload_n (pc := 67) 1 g dX12_put_67 rfl ?_
        obtain ⟨b7, h⟩ := h
        refine r_iaload (pc := 68) (μ := μ6) g dX12_put_68 shM_out sM_1 b7 ?_
        refine r_if_ne (pc := 69) 77 g dX12_put_69 rfl (fun q => ?_) (fun q => ?_)
        · have h := h.1 q
          refine r_aload_n (pc := 77) 0 g dX12_put_77 rfl ?_
          refine r_getr (pc := 78) (μ := μ6) g dX12_put_78 fa_RX12_9 shM_out sM_0 rfl ?_
          refine r_iload_n (pc := 81) 1 g dX12_put_81 rfl ?_
          obtain ⟨b8, h⟩ := h
          refine r_iaload (pc := 82) (μ := μ6) g dX12_put_82 shM_out sM_1 b8 ?_
          refine r_iconst (pc := 83) g dX12_put_83 ci_1 ?_
          refine r_icmp_ne (pc := 84) 92 g dX12_put_84 rfl (fun q => ?_) (fun q => ?_)
          · have h := h.1 q
            refine r_iload_n (pc := 92) 3 g dX12_put_92 rfl ?_
            refine r_sub [] (lv' := []) rfl ?_
            exact v_X12_put_93 g hX post hR x3 ((60 * x1) + x2) μ6 h
          · have h := h.2 q
            refine r_iload_n (pc := 87) 3 g dX12_put_87 rfl ?_
            refine r_i2s (pc := 88) g dX12_put_88 ?_
            refine r_goto (pc := 89) 93 g dX12_put_89 rfl ?_
            refine r_sub [] (lv' := []) rfl ?_
            exact v_X12_put_93 g hX post hR x3.toInt16.toInt32 ((60 * x1) + x2) μ6 h
        · have h := h.2 q
          refine r_iload_n (pc := 72) 3 g dX12_put_72 rfl ?_
          refine r_i2b (pc := 73) g dX12_put_73 ?_
          refine r_goto (pc := 74) 93 g dX12_put_74 rfl ?_
          refine r_sub [] (lv' := []) rfl ?_
          exact v_X12_put_93 g hX post hR x3.toInt8.toInt32 ((60 * x1) + x2) μ6 h
      · have h := h.2 q
        refine r_aload_n (pc := 47) 0 g dX12_put_47 rfl ?_
        refine r_iconst (pc := 48) g dX12_put_48 ci_3 ?_
        refine r_callVi (pc := 49) (st := []) g hX dX12_put_49 (m_X12_fails 3 μ6 _ h) kb_RX12_124 kv_X12_fails shM_out sM_0 rfl rfl rfl rfl (fun u9 μ10 h => ?_)
        exact r_ireti (pc := 52) g hR dX12_put_52 h
    · have h := h.2 q
      refine r_aload_n (pc := 25) 0 g dX12_put_25 rfl ?_
      refine r_iconst (pc := 26) g dX12_put_26 ci_1 ?_
      refine r_callVi (pc := 27) (st := []) g hX dX12_put_27 (m_X12_fails 1 μ2 _ h) kb_RX12_124 kv_X12_fails shM_out sM_0 rfl rfl rfl rfl (fun u11 μ12 h => ?_)
      exact r_ireti (pc := 30) g hR dX12_put_30 h
  · have h := h.2 q
    refine r_iconst (pc := 12) g dX12_put_12 ci_m1 ?_
    exact r_ireti (pc := 13) g hR dX12_put_13 h
abbrev rm_X12_cell : Room := { frames := 2, cells := 0, slots := 0, locals := 42 }
def T_X12_cell_19 (post : Int64 → Mem → Prop) (μ : Mem) : Prop :=
  post (-9223372036854775808) μ
theorem v_X12_cell_19 {X : Cx} {w : Wd} {l : Launch} {D : va_G} {A : Nat → Prop} (g : Gd X w RX12 cX12_cell 4 rm_X12_cell) (hX : atX X l D A) (post : Int64 → Mem → Prop) (hR : Rt X w shM 22 (some .long) (pL post)) (μ : Mem) (h : T_X12_cell_19 post μ) : V X 19 [] [] (wls w shM 22 μ) := by
  refine r_ldc2_w (pc := 19) g dX12_cell_19 k_1377 ?_
  exact r_lretl (pc := 22) g hR dX12_cell_22 h
def T_X12_cell_50 (post : Int64 → Mem → Prop) (x1 : Int32) (x2 : Int32) (μ : Mem) : Prop :=
  vp_in x1 4 ∧ ((¬ (μ 1 x1.toNatClampNeg) = (-9) → vp_in x1 4 ∧ T_X12_isIn x2 0 ((μ 2 x1.toNatClampNeg) - 1) μ (fun (u3 : Int32) (μ4 : Mem) => ((¬ u3 = 0 → vp_in ((60 * x1) + x2) 240 ∧ post ((μ4 3 ((60 * x1) + x2).toNatClampNeg).toInt64) μ4) ∧ (u3 = 0 → T_X12_lost 3 μ4 (fun (u6 : Int64) (μ7 : Mem) => post u6 μ7))))) ∧ ((μ 1 x1.toNatClampNeg) = (-9) → T_X12_lost 1 μ (fun (u8 : Int64) (μ9 : Mem) => post u8 μ9)))
theorem v_X12_cell_50 {X : Cx} {w : Wd} {l : Launch} {D : va_G} {A : Nat → Prop} (g : Gd X w RX12 cX12_cell 4 rm_X12_cell) (hX : atX X l D A) (post : Int64 → Mem → Prop) (hR : Rt X w shM 22 (some .long) (pL post)) (x1 : Int32) (x2 : Int32) (μ : Mem) (h : T_X12_cell_50 post x1 x2 μ) : V X 50 [(0, .ref (w.1 0)), (1, .int x1), (2, .int x2)] [] (wls w shM 22 μ) := by
  refine r_aload_n (pc := 50) 0 g dX12_cell_50 rfl ?_
  refine r_getr (pc := 51) (μ := μ) g dX12_cell_51 fa_RX12_9 shM_out sM_0 rfl ?_
  refine r_iload_n (pc := 54) 1 g dX12_cell_54 rfl ?_
  obtain ⟨b1, h⟩ := h
  refine r_iaload (pc := 55) (μ := μ) g dX12_cell_55 shM_out sM_1 b1 ?_
  refine r_bipush (pc := 56) g dX12_cell_56 cb_m9 ?_
  refine r_icmp_ne (pc := 58) 67 g dX12_cell_58 rfl (fun q => ?_) (fun q => ?_)
  · have h := h.1 q
    refine r_iload_n (pc := 67) 2 g dX12_cell_67 rfl ?_
    refine r_iconst (pc := 68) g dX12_cell_68 ci_0 ?_
    refine r_aload_n (pc := 69) 0 g dX12_cell_69 rfl ?_
    refine r_getr (pc := 70) (μ := μ) g dX12_cell_70 fa_RX12_13 shM_out sM_0 rfl ?_
    refine r_iload_n (pc := 73) 1 g dX12_cell_73 rfl ?_
    obtain ⟨b2, h⟩ := h
    refine r_iaload (pc := 74) (μ := μ) g dX12_cell_74 shM_out sM_2 b2 ?_
    refine r_iconst (pc := 75) g dX12_cell_75 ci_1 ?_
    refine r_isub (pc := 76) g dX12_cell_76 ?_
    refine r_callSi (pc := 77) (st := []) g hX dX12_cell_77 (m_X12_isIn x2 0 ((μ 2 x1.toNatClampNeg) - 1) μ _ h) kb_RX12_79 k_1097 rfl rfl rfl rfl (fun u3 μ4 h => ?_)
    refine r_if_ne (pc := 80) 89 g dX12_cell_80 rfl (fun q => ?_) (fun q => ?_)
    · have h := h.1 q
      refine r_aload_n (pc := 89) 0 g dX12_cell_89 rfl ?_
      refine r_getr (pc := 90) (μ := μ4) g dX12_cell_90 fa_RX12_16 shM_out sM_0 rfl ?_
      refine r_bipush (pc := 93) g dX12_cell_93 cb_60 ?_
      refine r_iload_n (pc := 95) 1 g dX12_cell_95 rfl ?_
      refine r_imul (pc := 96) g dX12_cell_96 ?_
      refine r_iload_n (pc := 97) 2 g dX12_cell_97 rfl ?_
      refine r_iadd (pc := 98) g dX12_cell_98 ?_
      obtain ⟨b5, h⟩ := h
      refine r_iaload (pc := 99) (μ := μ4) g dX12_cell_99 shM_out sM_3 b5 ?_
      refine r_i2l (pc := 100) g dX12_cell_100 ?_
      exact r_lretl (pc := 101) g hR dX12_cell_101 h
    · have h := h.2 q
      refine r_aload_n (pc := 83) 0 g dX12_cell_83 rfl ?_
      refine r_iconst (pc := 84) g dX12_cell_84 ci_3 ?_
      refine r_callVl (pc := 85) (st := []) g hX dX12_cell_85 (m_X12_lost 3 μ4 _ h) kb_RX12_248 kv_X12_lost shM_out sM_0 rfl rfl rfl rfl (fun u6 μ7 h => ?_)
      exact r_lretl (pc := 88) g hR dX12_cell_88 h
  · have h := h.2 q
    refine r_aload_n (pc := 61) 0 g dX12_cell_61 rfl ?_
    refine r_iconst (pc := 62) g dX12_cell_62 ci_1 ?_
    refine r_callVl (pc := 63) (st := []) g hX dX12_cell_63 (m_X12_lost 1 μ _ h) kb_RX12_248 kv_X12_lost shM_out sM_0 rfl rfl rfl rfl (fun u8 μ9 h => ?_)
    exact r_lretl (pc := 66) g hR dX12_cell_66 h
def T_X12_cell (x1 : Int32) (x2 : Int32) (x3 : Int32) (μ : Mem) (post : Int64 → Mem → Prop) : Prop :=
  T_X12_isSheet x1 (mset μ 0 0 0) (fun (u1 : Int32) (μ2 : Mem) => ((u1 = 0 → T_X12_cell_19 post μ2) ∧ (¬ u1 = 0 → T_X12_isLane x3 μ2 (fun (u3 : Int32) (μ4 : Mem) => ((¬ u3 = 0 → vp_in x1 4 ∧ (((μ4 1 x1.toNatClampNeg) = (-9) → T_X12_cell_50 post x1 x2 μ4) ∧ (¬ (μ4 1 x1.toNatClampNeg) = (-9) → vp_in x1 4 ∧ (((μ4 1 x1.toNatClampNeg) = x3 → T_X12_cell_50 post x1 x2 μ4) ∧ (¬ (μ4 1 x1.toNatClampNeg) = x3 → T_X12_lost 2 μ4 (fun (u7 : Int64) (μ8 : Mem) => post u7 μ8)))))) ∧ (u3 = 0 → T_X12_cell_19 post μ4))))))
theorem m_X12_cell {w : Wd} {l : Launch} {D : va_G} {A : Nat → Prop} (x1 : Int32) (x2 : Int32) (x3 : Int32) (μ : Mem) (post : Int64 → Mem → Prop) (h : T_X12_cell x1 x2 x3 μ post) : MetX l D A w shM 22 yX12_cell cX12_cell 4 (some .long) rm_X12_cell [.ref (w.1 0), .int x1, .int x2, .int x3] μ (pL post) := by
  refine metX_of (by decide) rfl (lv := [(0, .ref (w.1 0)), (1, .int x1), (2, .int x2), (3, .int x3)]) rfl (fun X hX g hR => ?_)
  refine r_aload_n (pc := 0) 0 g dX12_cell_0 rfl ?_
  refine r_iconst (pc := 1) g dX12_cell_1 ci_0 ?_
  refine r_puti (pc := 2) (μ := μ) g dX12_cell_2 fp_RX12_73 shM_out sM_0 rfl ?_
  refine r_iload_n (pc := 5) 1 g dX12_cell_5 rfl ?_
  refine r_callSi (pc := 6) (st := []) g hX dX12_cell_6 (m_X12_isSheet x1 (mset μ 0 0 0) _ h) kb_RX12_113 k_1094 rfl rfl rfl rfl (fun u1 μ2 h => ?_)
  refine r_if_eq (pc := 9) 19 g dX12_cell_9 rfl (fun q => ?_) (fun q => ?_)
  · have h := h.1 q
    refine r_sub [] (lv' := []) rfl ?_
    exact v_X12_cell_19 g hX post hR μ2 h
  · have h := h.2 q
    refine r_iload_n (pc := 12) 3 g dX12_cell_12 rfl ?_
    refine r_callSi (pc := 13) (st := []) g hX dX12_cell_13 (m_X12_isLane x3 μ2 _ h) kb_RX12_117 k_1100 rfl rfl rfl rfl (fun u3 μ4 h => ?_)
    refine r_if_ne (pc := 16) 23 g dX12_cell_16 rfl (fun q => ?_) (fun q => ?_)
    · have h := h.1 q
      refine r_aload_n (pc := 23) 0 g dX12_cell_23 rfl ?_
      refine r_getr (pc := 24) (μ := μ4) g dX12_cell_24 fa_RX12_9 shM_out sM_0 rfl ?_
      refine r_iload_n (pc := 27) 1 g dX12_cell_27 rfl ?_
      obtain ⟨b5, h⟩ := h
      refine r_iaload (pc := 28) (μ := μ4) g dX12_cell_28 shM_out sM_1 b5 ?_
      refine r_bipush (pc := 29) g dX12_cell_29 cb_m9 ?_
      refine r_icmp_eq (pc := 31) 50 g dX12_cell_31 rfl (fun q => ?_) (fun q => ?_)
      · have h := h.1 q
        refine r_sub [0, 1, 2] (lv' := [(0, .ref (w.1 0)), (1, .int x1), (2, .int x2)]) rfl ?_
        exact v_X12_cell_50 g hX post hR x1 x2 μ4 h
      · have h := h.2 q
        refine r_aload_n (pc := 34) 0 g dX12_cell_34 rfl ?_
        refine r_getr (pc := 35) (μ := μ4) g dX12_cell_35 fa_RX12_9 shM_out sM_0 rfl ?_
        refine r_iload_n (pc := 38) 1 g dX12_cell_38 rfl ?_
        obtain ⟨b6, h⟩ := h
        refine r_iaload (pc := 39) (μ := μ4) g dX12_cell_39 shM_out sM_1 b6 ?_
        refine r_iload_n (pc := 40) 3 g dX12_cell_40 rfl ?_
        refine r_icmp_eq (pc := 41) 50 g dX12_cell_41 rfl (fun q => ?_) (fun q => ?_)
        · have h := h.1 q
          refine r_sub [0, 1, 2] (lv' := [(0, .ref (w.1 0)), (1, .int x1), (2, .int x2)]) rfl ?_
          exact v_X12_cell_50 g hX post hR x1 x2 μ4 h
        · have h := h.2 q
          refine r_aload_n (pc := 44) 0 g dX12_cell_44 rfl ?_
          refine r_iconst (pc := 45) g dX12_cell_45 ci_2 ?_
          refine r_callVl (pc := 46) (st := []) g hX dX12_cell_46 (m_X12_lost 2 μ4 _ h) kb_RX12_248 kv_X12_lost shM_out sM_0 rfl rfl rfl rfl (fun u7 μ8 h => ?_)
          exact r_lretl (pc := 49) g hR dX12_cell_49 h
    · have h := h.2 q
      refine r_sub [] (lv' := []) rfl ?_
      exact v_X12_cell_19 g hX post hR μ4 h
abbrev rm_X12_begins : Room := { frames := 0, cells := 0, slots := 0, locals := 0 }
def T_X12_begins (x1 : Int32) (μ : Mem) (post : Mem → Prop) : Prop :=
  post (mset μ 0 1 ((31 * (μ 0 1)) + x1))
theorem m_X12_begins {w : Wd} {l : Launch} {D : va_G} {A : Nat → Prop} (x1 : Int32) (μ : Mem) (post : Mem → Prop) (h : T_X12_begins x1 μ post) : MetX l D A w shM 22 yX12_begins cX12_begins 2 none rm_X12_begins [.ref (w.1 0), .int x1] μ (pV post) := by
  refine metX_of (by decide) rfl (lv := [(0, .ref (w.1 0)), (1, .int x1)]) rfl (fun X hX g hR => ?_)
  refine r_aload_n (pc := 0) 0 g dX12_begins_0 rfl ?_
  refine r_bipush (pc := 1) g dX12_begins_1 cb_31 ?_
  refine r_aload_n (pc := 3) 0 g dX12_begins_3 rfl ?_
  refine r_geti (pc := 4) (μ := μ) g dX12_begins_4 fa_RX12_252 shM_out sM_0 rfl ?_
  refine r_imul (pc := 7) g dX12_begins_7 ?_
  refine r_iload_n (pc := 8) 1 g dX12_begins_8 rfl ?_
  refine r_iadd (pc := 9) g dX12_begins_9 ?_
  refine r_puti (pc := 10) (μ := μ) g dX12_begins_10 fp_RX12_252 shM_out sM_0 rfl ?_
  exact r_vretv (pc := 13) g hR dX12_begins_13 h
abbrev rm_X12_tell : Room := { frames := 3, cells := 0, slots := 0, locals := 68 }
def T_X12_tell (x1 : Int32) (μ : Mem) (post : Int32 → Mem → Prop) : Prop :=
  T_X12_isOrder x1 μ (fun (u1 : Int32) (μ2 : Mem) => ((¬ u1 = 0 → T_X12_lookAt x1 μ2 (fun (μ4 : Mem) => T_X12_mostOf 13 μ4 (fun (u5 : Int32) (μ6 : Mem) => vp_in x1 8 ∧ (((μ6 11 x1.toNatClampNeg) = 1 → T_X12_begins 2 μ6 (fun (μ10 : Mem) => T_X12_begins 1 μ10 (fun (μ12 : Mem) => post (u5 + 1000) μ12))) ∧ ((μ6 11 x1.toNatClampNeg) = 2 → T_X12_begins 3 μ6 (fun (μ14 : Mem) => T_X12_begins 2 μ14 (fun (μ16 : Mem) => T_X12_begins 1 μ16 (fun (μ18 : Mem) => T_X12_begins 1 μ18 (fun (μ20 : Mem) => post ((2 * u5) + 1000) μ20))))) ∧ (¬ (μ6 11 x1.toNatClampNeg) = 1 → ¬ (μ6 11 x1.toNatClampNeg) = 2 → T_X12_begins 1 μ6 (fun (μ22 : Mem) => post u5 μ22)))))) ∧ (u1 = 0 → post (-1) μ2)))
theorem m_X12_tell {w : Wd} {l : Launch} {D : va_G} {A : Nat → Prop} (x1 : Int32) (μ : Mem) (post : Int32 → Mem → Prop) (h : T_X12_tell x1 μ post) : MetX l D A w shM 22 yX12_tell cX12_tell 3 (some .int) rm_X12_tell [.ref (w.1 0), .int x1] μ (pI post) := by
  refine metX_of (by decide) rfl (lv := [(0, .ref (w.1 0)), (1, .int x1)]) rfl (fun X hX g hR => ?_)
  refine r_aload_n (pc := 0) 0 g dX12_tell_0 rfl ?_
  refine r_iload_n (pc := 1) 1 g dX12_tell_1 rfl ?_
  refine r_callVi (pc := 2) (st := []) g hX dX12_tell_2 (m_X12_isOrder x1 μ _ h) kb_RX12_157 kv_X12_isOrder shM_out sM_0 rfl rfl rfl rfl (fun u1 μ2 h => ?_)
  refine r_if_ne (pc := 5) 10 g dX12_tell_5 rfl (fun q => ?_) (fun q => ?_)
  · have h := h.1 q
    refine r_aload_n (pc := 10) 0 g dX12_tell_10 rfl ?_
    refine r_iload_n (pc := 11) 1 g dX12_tell_11 rfl ?_
    refine r_callVv (pc := 12) (st := []) g hX dX12_tell_12 (m_X12_lookAt x1 μ2 _ h) kb_RX12_160 kv_X12_lookAt shM_out sM_0 rfl rfl rfl rfl (fun μ4 h => ?_)
    refine r_aload_n (pc := 15) 0 g dX12_tell_15 rfl ?_
    refine r_aload_n (pc := 16) 0 g dX12_tell_16 rfl ?_
    refine r_getr (pc := 17) (μ := μ4) g dX12_tell_17 fa_RX12_46 shM_out sM_0 rfl ?_
    refine r_callVi (pc := 20) (st := []) g hX dX12_tell_20 (m_X12_mostOf 13 μ4 _ h) kb_RX12_164 kv_X12_mostOf shM_out sM_0 rfl rfl rfl rfl (fun u5 μ6 h => ?_)
    refine r_istore_n (pc := 23) (lv' := [(2, .int u5), (0, .ref (w.1 0)), (1, .int x1)]) g dX12_tell_23 rfl rfl ?_
    refine r_aload_n (pc := 24) 1 g dX12_tell_24 rfl ?_
    refine r_getr (pc := 25) (μ := μ6) g dX12_tell_25 fa_RX12_40 shM_out sM_0 rfl ?_
    refine r_iload_n (pc := 28) 2 g dX12_tell_28 rfl ?_
    obtain ⟨b7, h⟩ := h
    refine r_iaload (pc := 29) (μ := μ6) g dX12_tell_29 shM_out sM_11 b7 ?_
    have hs8 := h
    by_cases c0 : (μ6 11 x1.toNatClampNeg) = 1
    · have h := hs8.1 c0
      refine r_lsw (pc := 30) 56 g dX12_tell_30 (by decide) (off := 26) (by rw [c0]; decide) rfl ?_
      refine r_aload_n (pc := 56) 1 g dX12_tell_56 rfl ?_
      refine r_iconst (pc := 57) g dX12_tell_57 ci_2 ?_
      refine r_callVv (pc := 58) (st := []) g hX dX12_tell_58 (m_X12_begins 2 μ6 _ h) kb_RX12_255 kv_X12_begins shM_out sM_0 rfl rfl rfl rfl (fun μ10 h => ?_)
      refine r_aload_n (pc := 61) 1 g dX12_tell_61 rfl ?_
      refine r_iconst (pc := 62) g dX12_tell_62 ci_1 ?_
      refine r_callVv (pc := 63) (st := []) g hX dX12_tell_63 (m_X12_begins 1 μ10 _ h) kb_RX12_255 kv_X12_begins shM_out sM_0 rfl rfl rfl rfl (fun μ12 h => ?_)
      refine r_iload_n (pc := 66) 0 g dX12_tell_66 rfl ?_
      refine r_sipush (pc := 67) g dX12_tell_67 cs_1000 ?_
      refine r_iadd (pc := 70) g dX12_tell_70 ?_
      exact r_ireti (pc := 71) g hR dX12_tell_71 h
    by_cases c1 : (μ6 11 x1.toNatClampNeg) = 2
    · have h := hs8.2.1 c1
      refine r_lsw (pc := 30) 72 g dX12_tell_30 (by decide) (off := 42) (by rw [c1]; decide) rfl ?_
      refine r_aload_n (pc := 72) 1 g dX12_tell_72 rfl ?_
      refine r_iconst (pc := 73) g dX12_tell_73 ci_3 ?_
      refine r_callVv (pc := 74) (st := []) g hX dX12_tell_74 (m_X12_begins 3 μ6 _ h) kb_RX12_255 kv_X12_begins shM_out sM_0 rfl rfl rfl rfl (fun μ14 h => ?_)
      refine r_aload_n (pc := 77) 1 g dX12_tell_77 rfl ?_
      refine r_iconst (pc := 78) g dX12_tell_78 ci_2 ?_
      refine r_callVv (pc := 79) (st := []) g hX dX12_tell_79 (m_X12_begins 2 μ14 _ h) kb_RX12_255 kv_X12_begins shM_out sM_0 rfl rfl rfl rfl (fun μ16 h => ?_)
      refine r_aload_n (pc := 82) 1 g dX12_tell_82 rfl ?_
      refine r_iconst (pc := 83) g dX12_tell_83 ci_1 ?_
      refine r_callVv (pc := 84) (st := []) g hX dX12_tell_84 (m_X12_begins 1 μ16 _ h) kb_RX12_255 kv_X12_begins shM_out sM_0 rfl rfl rfl rfl (fun μ18 h => ?_)
      refine r_aload_n (pc := 87) 1 g dX12_tell_87 rfl ?_
      refine r_iconst (pc := 88) g dX12_tell_88 ci_1 ?_
      refine r_callVv (pc := 89) (st := []) g hX dX12_tell_89 (m_X12_begins 1 μ18 _ h) kb_RX12_255 kv_X12_begins shM_out sM_0 rfl rfl rfl rfl (fun μ20 h => ?_)
      refine r_iconst (pc := 92) g dX12_tell_92 ci_2 ?_
      refine r_iload_n (pc := 93) 0 g dX12_tell_93 rfl ?_
      refine r_imul (pc := 94) g dX12_tell_94 ?_
      refine r_sipush (pc := 95) g dX12_tell_95 cs_1000 ?_
      refine r_iadd (pc := 98) g dX12_tell_98 ?_
      exact r_ireti (pc := 99) g hR dX12_tell_99 h
    have h := hs8.2.2 c0 c1
    refine r_lsw (pc := 30) 100 g dX12_tell_30 (by decide) (off := 70) (by have e0 := ne_toInt c0 (w := 1) (by decide); have e1 := ne_toInt c1 (w := 2) (by decide); simp [Op.lookupswitch.offset]; omega) rfl ?_
    refine r_aload_n (pc := 100) 1 g dX12_tell_100 rfl ?_
    refine r_iconst (pc := 101) g dX12_tell_101 ci_1 ?_
    refine r_callVv (pc := 102) (st := []) g hX dX12_tell_102 (m_X12_begins 1 μ6 _ h) kb_RX12_255 kv_X12_begins shM_out sM_0 rfl rfl rfl rfl (fun μ22 h => ?_)
    refine r_iload_n (pc := 105) 0 g dX12_tell_105 rfl ?_
    exact r_ireti (pc := 106) g hR dX12_tell_106 h
  · have h := h.2 q
    refine r_iconst (pc := 8) g dX12_tell_8 ci_m1 ?_
    exact r_ireti (pc := 9) g hR dX12_tell_9 h
abbrev rm_X12_show : Room := { frames := 1, cells := 0, slots := 0, locals := 21 }
def T_X12_show_26 (post : Int32 → Mem → Prop) (x1 : Int32) (s0 : Int32) (μ : Mem) : Prop :=
  T_X12_begins s0 μ (fun (μ2 : Mem) => vp_in x1 8 ∧ ((¬ (μ2 11 x1.toNatClampNeg) = 2 → post x1 μ2) ∧ ((μ2 11 x1.toNatClampNeg) = 2 → post 80 μ2)))
theorem v_X12_show_26 {X : Cx} {w : Wd} {l : Launch} {D : va_G} {A : Nat → Prop} (g : Gd X w RX12 cX12_show 2 rm_X12_show) (hX : atX X l D A) (post : Int32 → Mem → Prop) (hR : Rt X w shM 22 (some .int) (pI post)) (x1 : Int32) (s0 : Int32) (μ : Mem) (h : T_X12_show_26 post x1 s0 μ) : V X 26 [(0, .ref (w.1 0)), (1, .int x1)] [.int s0, .ref (w.1 0)] (wls w shM 22 μ) := by
  refine r_callVv (pc := 26) (st := []) g hX dX12_show_26 (m_X12_begins s0 μ _ h) kb_RX12_255 kv_X12_begins shM_out sM_0 rfl rfl rfl rfl (fun μ2 h => ?_)
  refine r_aload_n (pc := 29) 0 g dX12_show_29 rfl ?_
  refine r_getr (pc := 30) (μ := μ2) g dX12_show_30 fa_RX12_40 shM_out sM_0 rfl ?_
  refine r_iload_n (pc := 33) 1 g dX12_show_33 rfl ?_
  obtain ⟨b3, h⟩ := h
  refine r_iaload (pc := 34) (μ := μ2) g dX12_show_34 shM_out sM_11 b3 ?_
  refine r_iconst (pc := 35) g dX12_show_35 ci_2 ?_
  refine r_icmp_ne (pc := 36) 44 g dX12_show_36 rfl (fun q => ?_) (fun q => ?_)
  · have h := h.1 q
    refine r_iload_n (pc := 44) 1 g dX12_show_44 rfl ?_
    exact r_ireti (pc := 45) g hR dX12_show_45 h
  · have h := h.2 q
    refine r_bipush (pc := 39) g dX12_show_39 cb_80 ?_
    refine r_goto (pc := 41) 45 g dX12_show_41 rfl ?_
    exact r_ireti (pc := 45) g hR dX12_show_45 h
def T_X12_show (x1 : Int32) (μ : Mem) (post : Int32 → Mem → Prop) : Prop :=
  T_X12_isOrder x1 μ (fun (u1 : Int32) (μ2 : Mem) => ((¬ u1 = 0 → vp_in x1 8 ∧ ((¬ (μ2 11 x1.toNatClampNeg) = 2 → T_X12_show_26 post x1 4 μ2) ∧ ((μ2 11 x1.toNatClampNeg) = 2 → T_X12_show_26 post x1 5 μ2))) ∧ (u1 = 0 → post (-1) μ2)))
theorem m_X12_show {w : Wd} {l : Launch} {D : va_G} {A : Nat → Prop} (x1 : Int32) (μ : Mem) (post : Int32 → Mem → Prop) (h : T_X12_show x1 μ post) : MetX l D A w shM 22 yX12_show cX12_show 2 (some .int) rm_X12_show [.ref (w.1 0), .int x1] μ (pI post) := by
  refine metX_of (by decide) rfl (lv := [(0, .ref (w.1 0)), (1, .int x1)]) rfl (fun X hX g hR => ?_)
  refine r_aload_n (pc := 0) 0 g dX12_show_0 rfl ?_
  refine r_iload_n (pc := 1) 1 g dX12_show_1 rfl ?_
  refine r_callVi (pc := 2) (st := []) g hX dX12_show_2 (m_X12_isOrder x1 μ _ h) kb_RX12_157 kv_X12_isOrder shM_out sM_0 rfl rfl rfl rfl (fun u1 μ2 h => ?_)
  refine r_if_ne (pc := 5) 10 g dX12_show_5 rfl (fun q => ?_) (fun q => ?_)
  · have h := h.1 q
    refine r_aload_n (pc := 10) 0 g dX12_show_10 rfl ?_
    refine r_aload_n (pc := 11) 0 g dX12_show_11 rfl ?_
    refine r_getr (pc := 12) (μ := μ2) g dX12_show_12 fa_RX12_40 shM_out sM_0 rfl ?_
    refine r_iload_n (pc := 15) 1 g dX12_show_15 rfl ?_
    obtain ⟨b3, h⟩ := h
    refine r_iaload (pc := 16) (μ := μ2) g dX12_show_16 shM_out sM_11 b3 ?_
    refine r_iconst (pc := 17) g dX12_show_17 ci_2 ?_
    refine r_icmp_ne (pc := 18) 25 g dX12_show_18 rfl (fun q => ?_) (fun q => ?_)
    · have h := h.1 q
      refine r_iconst (pc := 25) g dX12_show_25 ci_4 ?_
      refine r_sub [0, 1] (lv' := [(0, .ref (w.1 0)), (1, .int x1)]) rfl ?_
      exact v_X12_show_26 g hX post hR x1 4 μ2 h
    · have h := h.2 q
      refine r_iconst (pc := 21) g dX12_show_21 ci_5 ?_
      refine r_goto (pc := 22) 26 g dX12_show_22 rfl ?_
      refine r_sub [0, 1] (lv' := [(0, .ref (w.1 0)), (1, .int x1)]) rfl ?_
      exact v_X12_show_26 g hX post hR x1 5 μ2 h
  · have h := h.2 q
    refine r_iconst (pc := 8) g dX12_show_8 ci_m1 ?_
    exact r_ireti (pc := 9) g hR dX12_show_9 h
abbrev rm_X12_as : Room := { frames := 1, cells := 0, slots := 0, locals := 22 }
def T_X12_as (x1 : Int32) (x2 : Int32) (μ : Mem) (post : Int32 → Mem → Prop) : Prop :=
  T_X12_isOrder x1 (mset μ 0 0 0) (fun (u1 : Int32) (μ2 : Mem) => ((¬ u1 = 0 → T_X12_isIn x2 0 2 μ2 (fun (u3 : Int32) (μ4 : Mem) => ((¬ u3 = 0 → vp_in x1 8 ∧ (((μ4 11 x1.toNatClampNeg) < x2 → T_X12_fails 2 μ4 (fun (u6 : Int32) (μ7 : Mem) => post u6 μ7)) ∧ (¬ (μ4 11 x1.toNatClampNeg) < x2 → post 1 μ4))) ∧ (u3 = 0 → post (-2) μ4)))) ∧ (u1 = 0 → post (-1) μ2)))
theorem m_X12_as {w : Wd} {l : Launch} {D : va_G} {A : Nat → Prop} (x1 : Int32) (x2 : Int32) (μ : Mem) (post : Int32 → Mem → Prop) (h : T_X12_as x1 x2 μ post) : MetX l D A w shM 22 yX12_as cX12_as 3 (some .int) rm_X12_as [.ref (w.1 0), .int x1, .int x2] μ (pI post) := by
  refine metX_of (by decide) rfl (lv := [(0, .ref (w.1 0)), (1, .int x1), (2, .int x2)]) rfl (fun X hX g hR => ?_)
  refine r_aload_n (pc := 0) 0 g dX12_as_0 rfl ?_
  refine r_iconst (pc := 1) g dX12_as_1 ci_0 ?_
  refine r_puti (pc := 2) (μ := μ) g dX12_as_2 fp_RX12_73 shM_out sM_0 rfl ?_
  refine r_aload_n (pc := 5) 0 g dX12_as_5 rfl ?_
  refine r_iload_n (pc := 6) 1 g dX12_as_6 rfl ?_
  refine r_callVi (pc := 7) (st := []) g hX dX12_as_7 (m_X12_isOrder x1 (mset μ 0 0 0) _ h) kb_RX12_157 kv_X12_isOrder shM_out sM_0 rfl rfl rfl rfl (fun u1 μ2 h => ?_)
  refine r_if_ne (pc := 10) 15 g dX12_as_10 rfl (fun q => ?_) (fun q => ?_)
  · have h := h.1 q
    refine r_iload_n (pc := 15) 2 g dX12_as_15 rfl ?_
    refine r_iconst (pc := 16) g dX12_as_16 ci_0 ?_
    refine r_iconst (pc := 17) g dX12_as_17 ci_2 ?_
    refine r_callSi (pc := 18) (st := []) g hX dX12_as_18 (m_X12_isIn x2 0 2 μ2 _ h) kb_RX12_79 k_1097 rfl rfl rfl rfl (fun u3 μ4 h => ?_)
    refine r_if_ne (pc := 21) 27 g dX12_as_21 rfl (fun q => ?_) (fun q => ?_)
    · have h := h.1 q
      refine r_aload_n (pc := 27) 0 g dX12_as_27 rfl ?_
      refine r_getr (pc := 28) (μ := μ4) g dX12_as_28 fa_RX12_40 shM_out sM_0 rfl ?_
      refine r_iload_n (pc := 31) 1 g dX12_as_31 rfl ?_
      obtain ⟨b5, h⟩ := h
      refine r_iaload (pc := 32) (μ := μ4) g dX12_as_32 shM_out sM_11 b5 ?_
      refine r_iload_n (pc := 33) 2 g dX12_as_33 rfl ?_
      refine r_icmp_lt (pc := 34) 41 g dX12_as_34 rfl (fun q => ?_) (fun q => ?_)
      · have h := h.1 q
        refine r_aload_n (pc := 41) 0 g dX12_as_41 rfl ?_
        refine r_iconst (pc := 42) g dX12_as_42 ci_2 ?_
        refine r_callVi (pc := 43) (st := []) g hX dX12_as_43 (m_X12_fails 2 μ4 _ h) kb_RX12_124 kv_X12_fails shM_out sM_0 rfl rfl rfl rfl (fun u6 μ7 h => ?_)
        exact r_ireti (pc := 46) g hR dX12_as_46 h
      · have h := h.2 q
        refine r_iconst (pc := 37) g dX12_as_37 ci_1 ?_
        refine r_goto (pc := 38) 46 g dX12_as_38 rfl ?_
        exact r_ireti (pc := 46) g hR dX12_as_46 h
    · have h := h.2 q
      refine r_bipush (pc := 24) g dX12_as_24 cb_m2 ?_
      exact r_ireti (pc := 26) g hR dX12_as_26 h
  · have h := h.2 q
    refine r_iconst (pc := 13) g dX12_as_13 ci_m1 ?_
    exact r_ireti (pc := 14) g hR dX12_as_14 h
abbrev rm_X12_trace : Room := { frames := 0, cells := 0, slots := 0, locals := 0 }
def T_X12_trace (μ : Mem) (post : Int32 → Mem → Prop) : Prop :=
  post (μ 0 1) μ
theorem m_X12_trace {w : Wd} {l : Launch} {D : va_G} {A : Nat → Prop} (μ : Mem) (post : Int32 → Mem → Prop) (h : T_X12_trace μ post) : MetX l D A w shM 22 yX12_trace cX12_trace 1 (some .int) rm_X12_trace [.ref (w.1 0)] μ (pI post) := by
  refine metX_of (by decide) rfl (lv := [(0, .ref (w.1 0))]) rfl (fun X hX g hR => ?_)
  refine r_aload_n (pc := 0) 0 g dX12_trace_0 rfl ?_
  refine r_geti (pc := 1) (μ := μ) g dX12_trace_1 fa_RX12_252 shM_out sM_0 rfl ?_
  exact r_ireti (pc := 4) g hR dX12_trace_4 h
abbrev rm_X12_fault : Room := { frames := 0, cells := 0, slots := 0, locals := 0 }
def T_X12_fault (μ : Mem) (post : Int32 → Mem → Prop) : Prop :=
  post (μ 0 0) μ
theorem m_X12_fault {w : Wd} {l : Launch} {D : va_G} {A : Nat → Prop} (μ : Mem) (post : Int32 → Mem → Prop) (h : T_X12_fault μ post) : MetX l D A w shM 22 yX12_fault cX12_fault 1 (some .int) rm_X12_fault [.ref (w.1 0)] μ (pI post) := by
  refine metX_of (by decide) rfl (lv := [(0, .ref (w.1 0))]) rfl (fun X hX g hR => ?_)
  refine r_aload_n (pc := 0) 0 g dX12_fault_0 rfl ?_
  refine r_geti (pc := 1) (μ := μ) g dX12_fault_1 fa_RX12_73 shM_out sM_0 rfl ?_
  exact r_ireti (pc := 4) g hR dX12_fault_4 h
abbrev rm_X12_many : Room := { frames := 2, cells := 0, slots := 0, locals := 44 }
def B_X12_many_4 (post : Int32 → Mem → Prop) (P4 : Int32 → Int32 → Int32 → Mem → Prop) (x1 : Int32) (x2 : Int32) (x3 : Int32) (μ : Mem) : Prop :=
  (((μ 0 5) ≤ x3 → ((x1 = 0 → post (μ 0 5) μ) ∧ (x1 = 1 → post (μ 0 17) μ) ∧ (x1 = 2 → post x2 μ) ∧ (x1 = 3 → T_X12_all μ (fun (u2 : Int32) (μ3 : Mem) => T_X12_needsOf u2 μ3 (fun (u4 : Int32) (μ5 : Mem) => T_X12_bitsOf u4 μ5 (fun (u6 : Int32) (μ7 : Mem) => post u6 μ7)))) ∧ (¬ x1 = 0 → ¬ x1 = 1 → ¬ x1 = 2 → ¬ x1 = 3 → post (-2) μ))) ∧ (¬ (μ 0 5) ≤ x3 → vp_in x3 9 ∧ T_X12_bitsOf (μ 5 x3.toNatClampNeg) μ (fun (u9 : Int32) (μ10 : Mem) => P4 x1 (x2 + u9) (x3 + 1) μ10)))
def T_X12_many_4 (post : Int32 → Mem → Prop) (x1 : Int32) (x2 : Int32) (x3 : Int32) (μ : Mem) : Prop :=
  ∀ P4 : Int32 → Int32 → Int32 → Mem → Prop, (∀ (x1 : Int32) (x2 : Int32) (x3 : Int32) (μ : Mem), B_X12_many_4 post P4 x1 x2 x3 μ → P4 x1 x2 x3 μ) → P4 x1 x2 x3 μ
theorem bv_X12_many_4 {X : Cx} {w : Wd} {l : Launch} {D : va_G} {A : Nat → Prop} (g : Gd X w RX12 cX12_many 4 rm_X12_many) (hX : atX X l D A) (post : Int32 → Mem → Prop) (hR : Rt X w shM 22 (some .int) (pI post)) (P4 : Int32 → Int32 → Int32 → Mem → Prop) (hP4 : ∀ (x1 : Int32) (x2 : Int32) (x3 : Int32) (μ : Mem), P4 x1 x2 x3 μ → V X 4 [(0, .ref (w.1 0)), (1, .int x1), (2, .int x2), (3, .int x3)] [] (wls w shM 22 μ)) (x1 : Int32) (x2 : Int32) (x3 : Int32) (μ : Mem) (h : B_X12_many_4 post P4 x1 x2 x3 μ) : V X 4 [(0, .ref (w.1 0)), (1, .int x1), (2, .int x2), (3, .int x3)] [] (wls w shM 22 μ) := by
  refine r_iload_n (pc := 4) 3 g dX12_many_4 rfl ?_
  refine r_aload_n (pc := 5) 0 g dX12_many_5 rfl ?_
  refine r_geti (pc := 6) (μ := μ) g dX12_many_6 fa_RX12_83 shM_out sM_0 rfl ?_
  refine r_icmp_ge (pc := 9) 30 g dX12_many_9 rfl (fun q => ?_) (fun q => ?_)
  · have h := h.1 q
    refine r_iload_n (pc := 30) 1 g dX12_many_30 rfl ?_
    have hs1 := h
    by_cases c0 : x1 = 0
    · have h := hs1.1 c0
      refine r_tswK (pc := 31) 0 60 g dX12_many_31 c0 ⟨by decide, by decide, rfl, rfl⟩ ?_
      refine r_aload_n (pc := 60) 0 g dX12_many_60 rfl ?_
      refine r_geti (pc := 61) (μ := μ) g dX12_many_61 fa_RX12_83 shM_out sM_0 rfl ?_
      exact r_ireti (pc := 64) g hR dX12_many_64 h
    by_cases c1 : x1 = 1
    · have h := hs1.2.1 c1
      refine r_tswK (pc := 31) 1 65 g dX12_many_31 c1 ⟨by decide, by decide, rfl, rfl⟩ ?_
      refine r_aload_n (pc := 65) 0 g dX12_many_65 rfl ?_
      refine r_geti (pc := 66) (μ := μ) g dX12_many_66 fa_RX12_131 shM_out sM_0 rfl ?_
      exact r_ireti (pc := 69) g hR dX12_many_69 h
    by_cases c2 : x1 = 2
    · have h := hs1.2.2.1 c2
      refine r_tswK (pc := 31) 2 70 g dX12_many_31 c2 ⟨by decide, by decide, rfl, rfl⟩ ?_
      refine r_iload_n (pc := 70) 2 g dX12_many_70 rfl ?_
      exact r_ireti (pc := 71) g hR dX12_many_71 h
    by_cases c3 : x1 = 3
    · have h := hs1.2.2.2.1 c3
      refine r_tswK (pc := 31) 3 72 g dX12_many_31 c3 ⟨by decide, by decide, rfl, rfl⟩ ?_
      refine r_aload_n (pc := 72) 0 g dX12_many_72 rfl ?_
      refine r_aload_n (pc := 73) 0 g dX12_many_73 rfl ?_
      refine r_callVi (pc := 74) (st := [.ref (w.1 0)]) g hX dX12_many_74 (m_X12_all μ _ h) kb_RX12_134 kv_X12_all shM_out sM_0 rfl rfl rfl rfl (fun u2 μ3 h => ?_)
      refine r_callVi (pc := 77) (st := []) g hX dX12_many_77 (m_X12_needsOf u2 μ3 _ h) kb_RX12_171 kv_X12_needsOf shM_out sM_0 rfl rfl rfl rfl (fun u4 μ5 h => ?_)
      refine r_callSi (pc := 80) (st := []) g hX dX12_many_80 (m_X12_bitsOf u4 μ5 _ h) kb_RX12_205 k_1259 rfl rfl rfl rfl (fun u6 μ7 h => ?_)
      exact r_ireti (pc := 83) g hR dX12_many_83 h
    have h := hs1.2.2.2.2 c0 c1 c2 c3
    refine r_tswD (pc := 31) 84 g dX12_many_31 (by have e0 := ne_toInt c0 (w := 0) (by decide); have e1 := ne_toInt c1 (w := 1) (by decide); have e2 := ne_toInt c2 (w := 2) (by decide); have e3 := ne_toInt c3 (w := 3) (by decide); omega) rfl ?_
    refine r_bipush (pc := 84) g dX12_many_84 cb_m2 ?_
    exact r_ireti (pc := 86) g hR dX12_many_86 h
  · have h := h.2 q
    refine r_iload_n (pc := 12) 2 g dX12_many_12 rfl ?_
    refine r_aload_n (pc := 13) 0 g dX12_many_13 rfl ?_
    refine r_getr (pc := 14) (μ := μ) g dX12_many_14 fa_RX12_22 shM_out sM_0 rfl ?_
    refine r_iload_n (pc := 17) 3 g dX12_many_17 rfl ?_
    obtain ⟨b8, h⟩ := h
    refine r_iaload (pc := 18) (μ := μ) g dX12_many_18 shM_out sM_5 b8 ?_
    refine r_callSi (pc := 19) (st := [.int x2]) g hX dX12_many_19 (m_X12_bitsOf (μ 5 x3.toNatClampNeg) μ _ h) kb_RX12_205 k_1259 rfl rfl rfl rfl (fun u9 μ10 h => ?_)
    refine r_iadd (pc := 22) g dX12_many_22 ?_
    refine r_istore_n (pc := 23) (lv' := [(2, .int (x2 + u9)), (0, .ref (w.1 0)), (1, .int x1), (3, .int x3)]) g dX12_many_23 rfl rfl ?_
    refine r_iinc (pc := 24) (lv' := [(3, .int (x3 + 1)), (2, .int (x2 + u9)), (0, .ref (w.1 0)), (1, .int x1)]) 3 g dX12_many_24 rfl ci_1 rfl rfl ?_
    refine r_goto (pc := 27) 4 g dX12_many_27 rfl ?_
    refine r_sub [2, 3, 1, 0] (lv' := [(0, .ref (w.1 0)), (1, .int x1), (2, .int (x2 + u9)), (3, .int (x3 + 1))]) rfl ?_
    exact hP4 x1 (x2 + u9) (x3 + 1) μ10 h
theorem v_X12_many_4 {X : Cx} {w : Wd} {l : Launch} {D : va_G} {A : Nat → Prop} (g : Gd X w RX12 cX12_many 4 rm_X12_many) (hX : atX X l D A) (post : Int32 → Mem → Prop) (hR : Rt X w shM 22 (some .int) (pI post)) (x1 : Int32) (x2 : Int32) (x3 : Int32) (μ : Mem) (h : T_X12_many_4 post x1 x2 x3 μ) : V X 4 [(0, .ref (w.1 0)), (1, .int x1), (2, .int x2), (3, .int x3)] [] (wls w shM 22 μ) :=
  h (fun x1 x2 x3 μ => V X 4 [(0, .ref (w.1 0)), (1, .int x1), (2, .int x2), (3, .int x3)] [] (wls w shM 22 μ)) (fun x1 x2 x3 μ h => bv_X12_many_4 g hX post hR (fun x1 x2 x3 μ => V X 4 [(0, .ref (w.1 0)), (1, .int x1), (2, .int x2), (3, .int x3)] [] (wls w shM 22 μ)) (fun _ _ _ _ h => h) x1 x2 x3 μ h)
def T_X12_many (x1 : Int32) (μ : Mem) (post : Int32 → Mem → Prop) : Prop :=
  T_X12_many_4 post x1 0 0 μ
theorem m_X12_many {w : Wd} {l : Launch} {D : va_G} {A : Nat → Prop} (x1 : Int32) (μ : Mem) (post : Int32 → Mem → Prop) (h : T_X12_many x1 μ post) : MetX l D A w shM 22 yX12_many cX12_many 4 (some .int) rm_X12_many [.ref (w.1 0), .int x1] μ (pI post) := by
  refine metX_of (by decide) rfl (lv := [(0, .ref (w.1 0)), (1, .int x1)]) rfl (fun X hX g hR => ?_)
  refine r_iconst (pc := 0) g dX12_many_0 ci_0 ?_
  refine r_istore_n (pc := 1) (lv' := [(2, .int 0), (0, .ref (w.1 0)), (1, .int x1)]) g dX12_many_1 rfl rfl ?_
  refine r_iconst (pc := 2) g dX12_many_2 ci_0 ?_
  refine r_istore_n (pc := 3) (lv' := [(3, .int 0), (2, .int 0), (0, .ref (w.1 0)), (1, .int x1)]) g dX12_many_3 rfl rfl ?_
  refine r_sub [2, 3, 1, 0] (lv' := [(0, .ref (w.1 0)), (1, .int x1), (2, .int 0), (3, .int 0)]) rfl ?_
  exact v_X12_many_4 g hX post hR x1 0 0 μ h
