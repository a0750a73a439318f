theorem dX7_cellFault_0 : decode cX7_cellFault 0 = .ok (.aload_n 0, 1) := by decide +kernel
theorem dX7_cellFault_1 : decode cX7_cellFault 1 = .ok (.iload_n 1, 1) := by decide +kernel
theorem dX7_cellFault_2 : decode cX7_cellFault 2 = .ok (.iload_n 2, 1) := by decide +kernel
theorem dX7_cellFault_3 : decode cX7_cellFault 3 = .ok (.invokevirtual 23, 3) := by decide +kernel
theorem dX7_cellFault_6 : decode cX7_cellFault 6 = .ok (.istore 4, 2) := by decide +kernel
theorem dX7_cellFault_8 : decode cX7_cellFault 8 = .ok (.iload 4, 2) := by decide +kernel
theorem dX7_cellFault_10 : decode cX7_cellFault 10 = .ok (.ifCond .eq 6, 3) := by decide +kernel
theorem dX7_cellFault_13 : decode cX7_cellFault 13 = .ok (.iload 4, 2) := by decide +kernel
theorem dX7_cellFault_15 : decode cX7_cellFault 15 = .ok (.ireturn, 1) := by decide +kernel
theorem dX7_cellFault_16 : decode cX7_cellFault 16 = .ok (.iload_n 3, 1) := by decide +kernel
theorem dX7_cellFault_17 : decode cX7_cellFault 17 = .ok (.ifCond .lt 13, 3) := by decide +kernel
theorem dX7_cellFault_20 : decode cX7_cellFault 20 = .ok (.iload_n 3, 1) := by decide +kernel
theorem dX7_cellFault_21 : decode cX7_cellFault 21 = .ok (.aload_n 0, 1) := by decide +kernel
theorem dX7_cellFault_22 : decode cX7_cellFault 22 = .ok (.getfield 20, 3) := by decide +kernel
theorem dX7_cellFault_25 : decode cX7_cellFault 25 = .ok (.iload_n 1, 1) := by decide +kernel
theorem dX7_cellFault_26 : decode cX7_cellFault 26 = .ok (.iaload, 1) := by decide +kernel
theorem dX7_cellFault_27 : decode cX7_cellFault 27 = .ok (.if_icmp .lt 7, 3) := by decide +kernel
theorem dX7_cellFault_30 : decode cX7_cellFault 30 = .ok (.iconst 3, 1) := by decide +kernel
theorem dX7_cellFault_31 : decode cX7_cellFault 31 = .ok (.goto 4, 3) := by decide +kernel
theorem dX7_cellFault_34 : decode cX7_cellFault 34 = .ok (.iconst 0, 1) := by decide +kernel
theorem dX7_cellFault_35 : decode cX7_cellFault 35 = .ok (.ireturn, 1) := by decide +kernel
theorem dX7_cellsFault_0 : decode cX7_cellsFault 0 = .ok (.aload_n 0, 1) := by decide +kernel
theorem dX7_cellsFault_1 : decode cX7_cellsFault 1 = .ok (.iload_n 1, 1) := by decide +kernel
theorem dX7_cellsFault_2 : decode cX7_cellsFault 2 = .ok (.iload_n 2, 1) := by decide +kernel
theorem dX7_cellsFault_3 : decode cX7_cellsFault 3 = .ok (.invokevirtual 23, 3) := by decide +kernel
theorem dX7_cellsFault_6 : decode cX7_cellsFault 6 = .ok (.istore 5, 2) := by decide +kernel
theorem dX7_cellsFault_8 : decode cX7_cellsFault 8 = .ok (.iload 5, 2) := by decide +kernel
theorem dX7_cellsFault_10 : decode cX7_cellsFault 10 = .ok (.ifCond .eq 6, 3) := by decide +kernel
theorem dX7_cellsFault_13 : decode cX7_cellsFault 13 = .ok (.iload 5, 2) := by decide +kernel
theorem dX7_cellsFault_15 : decode cX7_cellsFault 15 = .ok (.ireturn, 1) := by decide +kernel
theorem dX7_cellsFault_16 : decode cX7_cellsFault 16 = .ok (.iload 4, 2) := by decide +kernel
theorem dX7_cellsFault_18 : decode cX7_cellsFault 18 = .ok (.ifCond .ge 5, 3) := by decide +kernel
theorem dX7_cellsFault_21 : decode cX7_cellsFault 21 = .ok (.iconst 4, 1) := by decide +kernel
theorem dX7_cellsFault_22 : decode cX7_cellsFault 22 = .ok (.ireturn, 1) := by decide +kernel
theorem dX7_cellsFault_23 : decode cX7_cellsFault 23 = .ok (.iload_n 3, 1) := by decide +kernel
theorem dX7_cellsFault_24 : decode cX7_cellsFault 24 = .ok (.ifCond .lt 26, 3) := by decide +kernel
theorem dX7_cellsFault_27 : decode cX7_cellsFault 27 = .ok (.iload_n 3, 1) := by decide +kernel
theorem dX7_cellsFault_28 : decode cX7_cellsFault 28 = .ok (.aload_n 0, 1) := by decide +kernel
theorem dX7_cellsFault_29 : decode cX7_cellsFault 29 = .ok (.getfield 20, 3) := by decide +kernel
theorem dX7_cellsFault_32 : decode cX7_cellsFault 32 = .ok (.iload_n 1, 1) := by decide +kernel
theorem dX7_cellsFault_33 : decode cX7_cellsFault 33 = .ok (.iaload, 1) := by decide +kernel
theorem dX7_cellsFault_34 : decode cX7_cellsFault 34 = .ok (.if_icmp .gt 16, 3) := by decide +kernel
theorem dX7_cellsFault_37 : decode cX7_cellsFault 37 = .ok (.iload 4, 2) := by decide +kernel
theorem dX7_cellsFault_39 : decode cX7_cellsFault 39 = .ok (.aload_n 0, 1) := by decide +kernel
theorem dX7_cellsFault_40 : decode cX7_cellsFault 40 = .ok (.getfield 20, 3) := by decide +kernel
theorem dX7_cellsFault_43 : decode cX7_cellsFault 43 = .ok (.iload_n 1, 1) := by decide +kernel
theorem dX7_cellsFault_44 : decode cX7_cellsFault 44 = .ok (.iaload, 1) := by decide +kernel
theorem dX7_cellsFault_45 : decode cX7_cellsFault 45 = .ok (.iload_n 3, 1) := by decide +kernel
theorem dX7_cellsFault_46 : decode cX7_cellsFault 46 = .ok (.isub, 1) := by decide +kernel
theorem dX7_cellsFault_47 : decode cX7_cellsFault 47 = .ok (.if_icmp .le 7, 3) := by decide +kernel
theorem dX7_cellsFault_50 : decode cX7_cellsFault 50 = .ok (.iconst 3, 1) := by decide +kernel
theorem dX7_cellsFault_51 : decode cX7_cellsFault 51 = .ok (.goto 4, 3) := by decide +kernel
theorem dX7_cellsFault_54 : decode cX7_cellsFault 54 = .ok (.iconst 0, 1) := by decide +kernel
theorem dX7_cellsFault_55 : decode cX7_cellsFault 55 = .ok (.ireturn, 1) := by decide +kernel
theorem dX8_divide_0 : decode cX8_divide 0 = .ok (.aload_n 0, 1) := by decide +kernel
theorem dX8_divide_1 : decode cX8_divide 1 = .ok (.getfield 15, 3) := by decide +kernel
theorem dX8_divide_4 : decode cX8_divide 4 = .ok (.invokevirtual 29, 3) := by decide +kernel
theorem dX8_divide_7 : decode cX8_divide 7 = .ok (.istore_n 1, 1) := by decide +kernel
theorem dX8_divide_8 : decode cX8_divide 8 = .ok (.aload_n 0, 1) := by decide +kernel
theorem dX8_divide_9 : decode cX8_divide 9 = .ok (.getfield 15, 3) := by decide +kernel
theorem dX8_divide_12 : decode cX8_divide 12 = .ok (.invokevirtual 33, 3) := by decide +kernel
theorem dX8_divide_15 : decode cX8_divide 15 = .ok (.istore_n 2, 1) := by decide +kernel
theorem dX8_divide_16 : decode cX8_divide 16 = .ok (.ldc 36, 2) := by decide +kernel
theorem dX8_divide_18 : decode cX8_divide 18 = .ok (.istore_n 3, 1) := by decide +kernel
theorem dX8_divide_19 : decode cX8_divide 19 = .ok (.iconst 1, 1) := by decide +kernel
theorem dX8_divide_20 : decode cX8_divide 20 = .ok (.istore 4, 2) := by decide +kernel
theorem dX8_divide_22 : decode cX8_divide 22 = .ok (.iload 4, 2) := by decide +kernel
theorem dX8_divide_24 : decode cX8_divide 24 = .ok (.iload_n 1, 1) := by decide +kernel
theorem dX8_divide_25 : decode cX8_divide 25 = .ok (.if_icmp .gt 80, 3) := by decide +kernel
theorem dX8_divide_28 : decode cX8_divide 28 = .ok (.iload_n 3, 1) := by decide +kernel
theorem dX8_divide_29 : decode cX8_divide 29 = .ok (.iload_n 2, 1) := by decide +kernel
theorem dX8_divide_30 : decode cX8_divide 30 = .ok (.if_icmp .le 75, 3) := by decide +kernel
theorem dX8_divide_33 : decode cX8_divide 33 = .ok (.aload_n 0, 1) := by decide +kernel
theorem dX8_divide_34 : decode cX8_divide 34 = .ok (.getfield 19, 3) := by decide +kernel
theorem dX8_divide_37 : decode cX8_divide 37 = .ok (.iload 4, 2) := by decide +kernel
theorem dX8_divide_39 : decode cX8_divide 39 = .ok (.iload_n 3, 1) := by decide +kernel
theorem dX8_divide_40 : decode cX8_divide 40 = .ok (.invokevirtual 37, 3) := by decide +kernel
theorem dX8_divide_43 : decode cX8_divide 43 = .ok (.istore 5, 2) := by decide +kernel
theorem dX8_divide_45 : decode cX8_divide 45 = .ok (.iload 5, 2) := by decide +kernel
theorem dX8_divide_47 : decode cX8_divide 47 = .ok (.iload_n 3, 1) := by decide +kernel
theorem dX8_divide_48 : decode cX8_divide 48 = .ok (.if_icmp .ge 51, 3) := by decide +kernel
theorem dX8_divide_51 : decode cX8_divide 51 = .ok (.aload_n 0, 1) := by decide +kernel
theorem dX8_divide_52 : decode cX8_divide 52 = .ok (.getfield 19, 3) := by decide +kernel
theorem dX8_divide_55 : decode cX8_divide 55 = .ok (.iload_n 1, 1) := by decide +kernel
theorem dX8_divide_56 : decode cX8_divide 56 = .ok (.iload 4, 2) := by decide +kernel
theorem dX8_divide_58 : decode cX8_divide 58 = .ok (.iconst (-1), 1) := by decide +kernel
theorem dX8_divide_59 : decode cX8_divide 59 = .ok (.ixor, 1) := by decide +kernel
theorem dX8_divide_60 : decode cX8_divide 60 = .ok (.iand, 1) := by decide +kernel
theorem dX8_divide_61 : decode cX8_divide 61 = .ok (.iload_n 3, 1) := by decide +kernel
theorem dX8_divide_62 : decode cX8_divide 62 = .ok (.invokevirtual 37, 3) := by decide +kernel
theorem dX8_divide_65 : decode cX8_divide 65 = .ok (.istore 6, 2) := by decide +kernel
theorem dX8_divide_67 : decode cX8_divide 67 = .ok (.iload 6, 2) := by decide +kernel
theorem dX8_divide_69 : decode cX8_divide 69 = .ok (.iload_n 3, 1) := by decide +kernel
theorem dX8_divide_70 : decode cX8_divide 70 = .ok (.if_icmp .ge 29, 3) := by decide +kernel
theorem dX8_divide_73 : decode cX8_divide 73 = .ok (.iload 5, 2) := by decide +kernel
theorem dX8_divide_75 : decode cX8_divide 75 = .ok (.iload 6, 2) := by decide +kernel
theorem dX8_divide_77 : decode cX8_divide 77 = .ok (.invokestatic 43, 3) := by decide +kernel
theorem dX8_divide_80 : decode cX8_divide 80 = .ok (.istore_n 3, 1) := by decide +kernel
theorem dX8_divide_81 : decode cX8_divide 81 = .ok (.aload_n 0, 1) := by decide +kernel
theorem dX8_divide_82 : decode cX8_divide 82 = .ok (.iload 4, 2) := by decide +kernel
theorem dX8_divide_84 : decode cX8_divide 84 = .ok (.putfield 48, 3) := by decide +kernel
theorem dX8_divide_87 : decode cX8_divide 87 = .ok (.aload_n 0, 1) := by decide +kernel
theorem dX8_divide_88 : decode cX8_divide 88 = .ok (.iload 5, 2) := by decide +kernel
theorem dX8_divide_90 : decode cX8_divide 90 = .ok (.putfield 51, 3) := by decide +kernel
theorem dX8_divide_93 : decode cX8_divide 93 = .ok (.aload_n 0, 1) := by decide +kernel
theorem dX8_divide_94 : decode cX8_divide 94 = .ok (.iload 6, 2) := by decide +kernel
theorem dX8_divide_96 : decode cX8_divide 96 = .ok (.putfield 54, 3) := by decide +kernel
theorem dX8_divide_99 : decode cX8_divide 99 = .ok (.iinc 4 2, 3) := by decide +kernel
theorem dX8_divide_102 : decode cX8_divide 102 = .ok (.goto (-80), 3) := by decide +kernel
theorem dX8_divide_105 : decode cX8_divide 105 = .ok (.return_, 1) := by decide +kernel
theorem dX8_refresh_0 : decode cX8_refresh 0 = .ok (.aload_n 0, 1) := by decide +kernel
theorem dX8_refresh_1 : decode cX8_refresh 1 = .ok (.getfield 9, 3) := by decide +kernel
theorem dX8_refresh_4 : decode cX8_refresh 4 = .ok (.aload_n 0, 1) := by decide +kernel
theorem dX8_refresh_5 : decode cX8_refresh 5 = .ok (.getfield 15, 3) := by decide +kernel
theorem dX8_refresh_8 : decode cX8_refresh 8 = .ok (.getfield 23, 3) := by decide +kernel
theorem dX8_refresh_11 : decode cX8_refresh 11 = .ok (.if_icmp .eq 18, 3) := by decide +kernel
theorem dX8_refresh_14 : decode cX8_refresh 14 = .ok (.aload_n 0, 1) := by decide +kernel
theorem dX8_refresh_15 : decode cX8_refresh 15 = .ok (.invokevirtual 26, 3) := by decide +kernel
theorem dX8_refresh_18 : decode cX8_refresh 18 = .ok (.aload_n 0, 1) := by decide +kernel
theorem dX8_refresh_19 : decode cX8_refresh 19 = .ok (.aload_n 0, 1) := by decide +kernel
theorem dX8_refresh_20 : decode cX8_refresh 20 = .ok (.getfield 15, 3) := by decide +kernel
theorem dX8_refresh_23 : decode cX8_refresh 23 = .ok (.getfield 23, 3) := by decide +kernel
theorem dX8_refresh_26 : decode cX8_refresh 26 = .ok (.putfield 9, 3) := by decide +kernel
theorem dX8_refresh_29 : decode cX8_refresh 29 = .ok (.return_, 1) := by decide +kernel
theorem dX9_forget_0 : decode cX9_forget 0 = .ok (.aload_n 0, 1) := by decide +kernel
theorem dX9_forget_1 : decode cX9_forget 1 = .ok (.iconst 0, 1) := by decide +kernel
theorem dX9_forget_2 : decode cX9_forget 2 = .ok (.putfield 28, 3) := by decide +kernel
theorem dX9_forget_5 : decode cX9_forget 5 = .ok (.aload_n 0, 1) := by decide +kernel
theorem dX9_forget_6 : decode cX9_forget 6 = .ok (.iconst 0, 1) := by decide +kernel
theorem dX9_forget_7 : decode cX9_forget 7 = .ok (.putfield 32, 3) := by decide +kernel
theorem dX9_forget_10 : decode cX9_forget 10 = .ok (.aload_n 0, 1) := by decide +kernel
theorem dX9_forget_11 : decode cX9_forget 11 = .ok (.iconst 0, 1) := by decide +kernel
theorem dX9_forget_12 : decode cX9_forget 12 = .ok (.putfield 35, 3) := by decide +kernel
theorem dX9_forget_15 : decode cX9_forget 15 = .ok (.iconst 0, 1) := by decide +kernel
theorem dX9_forget_16 : decode cX9_forget 16 = .ok (.istore_n 1, 1) := by decide +kernel
theorem dX9_forget_17 : decode cX9_forget 17 = .ok (.iload_n 1, 1) := by decide +kernel
theorem dX9_forget_18 : decode cX9_forget 18 = .ok (.bipush 10, 2) := by decide +kernel
theorem dX9_forget_20 : decode cX9_forget 20 = .ok (.if_icmp .ge 16, 3) := by decide +kernel
theorem dX9_forget_23 : decode cX9_forget 23 = .ok (.aload_n 0, 1) := by decide +kernel
theorem dX9_forget_24 : decode cX9_forget 24 = .ok (.getfield 18, 3) := by decide +kernel
theorem dX9_forget_27 : decode cX9_forget 27 = .ok (.iload_n 1, 1) := by decide +kernel
theorem dX9_forget_28 : decode cX9_forget 28 = .ok (.iconst 1, 1) := by decide +kernel
theorem dX9_forget_29 : decode cX9_forget 29 = .ok (.iastore, 1) := by decide +kernel
theorem dX9_forget_30 : decode cX9_forget 30 = .ok (.iinc 1 1, 3) := by decide +kernel
theorem dX9_forget_33 : decode cX9_forget 33 = .ok (.goto (-16), 3) := by decide +kernel
theorem dX9_forget_36 : decode cX9_forget 36 = .ok (.return_, 1) := by decide +kernel
theorem dX9_beginItem_0 : decode cX9_beginItem 0 = .ok (.aload_n 0, 1) := by decide +kernel
theorem dX9_beginItem_1 : decode cX9_beginItem 1 = .ok (.dup, 1) := by decide +kernel
theorem dX9_beginItem_2 : decode cX9_beginItem 2 = .ok (.getfield 32, 3) := by decide +kernel
theorem dX9_beginItem_5 : decode cX9_beginItem 5 = .ok (.iconst 1, 1) := by decide +kernel
theorem dX9_beginItem_6 : decode cX9_beginItem 6 = .ok (.iadd, 1) := by decide +kernel
theorem dX9_beginItem_7 : decode cX9_beginItem 7 = .ok (.putfield 32, 3) := by decide +kernel
theorem dX9_beginItem_10 : decode cX9_beginItem 10 = .ok (.iload_n 1, 1) := by decide +kernel
theorem dX9_beginItem_11 : decode cX9_beginItem 11 = .ok (.bipush 119, 2) := by decide +kernel
theorem dX9_beginItem_13 : decode cX9_beginItem 13 = .ok (.if_icmp .ne 51, 3) := by decide +kernel
theorem dX9_beginItem_16 : decode cX9_beginItem 16 = .ok (.aload_n 0, 1) := by decide +kernel
theorem dX9_beginItem_17 : decode cX9_beginItem 17 = .ok (.getfield 35, 3) := by decide +kernel
theorem dX9_beginItem_20 : decode cX9_beginItem 20 = .ok (.ifCond .ne 44, 3) := by decide +kernel
theorem dX9_beginItem_23 : decode cX9_beginItem 23 = .ok (.aload_n 0, 1) := by decide +kernel
theorem dX9_beginItem_24 : decode cX9_beginItem 24 = .ok (.getfield 28, 3) := by decide +kernel
theorem dX9_beginItem_27 : decode cX9_beginItem 27 = .ok (.bipush 9, 2) := by decide +kernel
theorem dX9_beginItem_29 : decode cX9_beginItem 29 = .ok (.if_icmp .ge 35, 3) := by decide +kernel
theorem dX9_beginItem_32 : decode cX9_beginItem 32 = .ok (.aload_n 0, 1) := by decide +kernel
theorem dX9_beginItem_33 : decode cX9_beginItem 33 = .ok (.getfield 9, 3) := by decide +kernel
theorem dX9_beginItem_36 : decode cX9_beginItem 36 = .ok (.aload_n 0, 1) := by decide +kernel
theorem dX9_beginItem_37 : decode cX9_beginItem 37 = .ok (.getfield 28, 3) := by decide +kernel
theorem dX9_beginItem_40 : decode cX9_beginItem 40 = .ok (.iconst 0, 1) := by decide +kernel
theorem dX9_beginItem_41 : decode cX9_beginItem 41 = .ok (.iastore, 1) := by decide +kernel
theorem dX9_beginItem_42 : decode cX9_beginItem 42 = .ok (.aload_n 0, 1) := by decide +kernel
theorem dX9_beginItem_43 : decode cX9_beginItem 43 = .ok (.getfield 15, 3) := by decide +kernel
theorem dX9_beginItem_46 : decode cX9_beginItem 46 = .ok (.aload_n 0, 1) := by decide +kernel
theorem dX9_beginItem_47 : decode cX9_beginItem 47 = .ok (.getfield 28, 3) := by decide +kernel
theorem dX9_beginItem_50 : decode cX9_beginItem 50 = .ok (.iconst 0, 1) := by decide +kernel
theorem dX9_beginItem_51 : decode cX9_beginItem 51 = .ok (.iastore, 1) := by decide +kernel
theorem dX9_beginItem_52 : decode cX9_beginItem 52 = .ok (.aload_n 0, 1) := by decide +kernel
theorem dX9_beginItem_53 : decode cX9_beginItem 53 = .ok (.dup, 1) := by decide +kernel
theorem dX9_beginItem_54 : decode cX9_beginItem 54 = .ok (.getfield 28, 3) := by decide +kernel
theorem dX9_beginItem_57 : decode cX9_beginItem 57 = .ok (.iconst 1, 1) := by decide +kernel
theorem dX9_beginItem_58 : decode cX9_beginItem 58 = .ok (.iadd, 1) := by decide +kernel
theorem dX9_beginItem_59 : decode cX9_beginItem 59 = .ok (.putfield 28, 3) := by decide +kernel
theorem dX9_beginItem_62 : decode cX9_beginItem 62 = .ok (.iconst 2, 1) := by decide +kernel
theorem dX9_beginItem_63 : decode cX9_beginItem 63 = .ok (.ireturn, 1) := by decide +kernel
theorem dX9_beginItem_64 : decode cX9_beginItem 64 = .ok (.iload_n 1, 1) := by decide +kernel
theorem dX9_beginItem_65 : decode cX9_beginItem 65 = .ok (.bipush 115, 2) := by decide +kernel
theorem dX9_beginItem_67 : decode cX9_beginItem 67 = .ok (.if_icmp .ne 24, 3) := by decide +kernel
theorem dX9_beginItem_70 : decode cX9_beginItem 70 = .ok (.aload_n 0, 1) := by decide +kernel
theorem dX9_beginItem_71 : decode cX9_beginItem 71 = .ok (.getfield 28, 3) := by decide +kernel
theorem dX9_beginItem_74 : decode cX9_beginItem 74 = .ok (.ifCond .le 17, 3) := by decide +kernel
theorem dX9_beginItem_77 : decode cX9_beginItem 77 = .ok (.aload_n 0, 1) := by decide +kernel
theorem dX9_beginItem_78 : decode cX9_beginItem 78 = .ok (.getfield 35, 3) := by decide +kernel
theorem dX9_beginItem_81 : decode cX9_beginItem 81 = .ok (.sipush 1023, 3) := by decide +kernel
theorem dX9_beginItem_84 : decode cX9_beginItem 84 = .ok (.if_icmp .eq 7, 3) := by decide +kernel
theorem dX9_beginItem_87 : decode cX9_beginItem 87 = .ok (.iconst 5, 1) := by decide +kernel
theorem dX9_beginItem_88 : decode cX9_beginItem 88 = .ok (.goto 4, 3) := by decide +kernel
theorem dX9_beginItem_91 : decode cX9_beginItem 91 = .ok (.iconst 0, 1) := by decide +kernel
theorem dX9_beginItem_92 : decode cX9_beginItem 92 = .ok (.ireturn, 1) := by decide +kernel
theorem dX9_endItem_0 : decode cX9_endItem 0 = .ok (.iload_n 1, 1) := by decide +kernel
theorem dX9_endItem_1 : decode cX9_endItem 1 = .ok (.bipush 59, 2) := by decide +kernel
theorem dX9_endItem_3 : decode cX9_endItem 3 = .ok (.if_icmp .ne 16, 3) := by decide +kernel
theorem dX9_endItem_6 : decode cX9_endItem 6 = .ok (.aload_n 0, 1) := by decide +kernel
theorem dX9_endItem_7 : decode cX9_endItem 7 = .ok (.getfield 32, 3) := by decide +kernel
theorem dX9_endItem_10 : decode cX9_endItem 10 = .ok (.bipush 12, 2) := by decide +kernel
theorem dX9_endItem_12 : decode cX9_endItem 12 = .ok (.if_icmp .ge 7, 3) := by decide +kernel
theorem dX9_endItem_15 : decode cX9_endItem 15 = .ok (.iconst 1, 1) := by decide +kernel
theorem dX9_endItem_16 : decode cX9_endItem 16 = .ok (.goto 4, 3) := by decide +kernel
theorem dX9_endItem_19 : decode cX9_endItem 19 = .ok (.iconst 0, 1) := by decide +kernel
theorem dX9_endItem_20 : decode cX9_endItem 20 = .ok (.ireturn, 1) := by decide +kernel
theorem dX9_goOnInWork_0 : decode cX9_goOnInWork 0 = .ok (.iload_n 1, 1) := by decide +kernel
theorem dX9_goOnInWork_1 : decode cX9_goOnInWork 1 = .ok (.bipush 60, 2) := by decide +kernel
theorem dX9_goOnInWork_3 : decode cX9_goOnInWork 3 = .ok (.if_icmp .ne 7, 3) := by decide +kernel
theorem dX9_goOnInWork_6 : decode cX9_goOnInWork 6 = .ok (.iconst 3, 1) := by decide +kernel
theorem dX9_goOnInWork_7 : decode cX9_goOnInWork 7 = .ok (.goto 8, 3) := by decide +kernel
theorem dX9_goOnInWork_10 : decode cX9_goOnInWork 10 = .ok (.aload_n 0, 1) := by decide +kernel
theorem dX9_goOnInWork_11 : decode cX9_goOnInWork 11 = .ok (.iload_n 1, 1) := by decide +kernel
theorem dX9_goOnInWork_12 : decode cX9_goOnInWork 12 = .ok (.invokevirtual 57, 3) := by decide +kernel
theorem dX9_goOnInWork_15 : decode cX9_goOnInWork 15 = .ok (.ireturn, 1) := by decide +kernel
theorem dX9_takeBefore_0 : decode cX9_takeBefore 0 = .ok (.iconst 1, 1) := by decide +kernel
theorem dX9_takeBefore_1 : decode cX9_takeBefore 1 = .ok (.iload_n 1, 1) := by decide +kernel
theorem dX9_takeBefore_2 : decode cX9_takeBefore 2 = .ok (.ishl, 1) := by decide +kernel
theorem dX9_takeBefore_3 : decode cX9_takeBefore 3 = .ok (.istore_n 2, 1) := by decide +kernel
theorem dX9_takeBefore_4 : decode cX9_takeBefore 4 = .ok (.iload_n 1, 1) := by decide +kernel
theorem dX9_takeBefore_5 : decode cX9_takeBefore 5 = .ok (.aload_n 0, 1) := by decide +kernel
theorem dX9_takeBefore_6 : decode cX9_takeBefore 6 = .ok (.getfield 28, 3) := by decide +kernel
theorem dX9_takeBefore_9 : decode cX9_takeBefore 9 = .ok (.iconst 1, 1) := by decide +kernel
theorem dX9_takeBefore_10 : decode cX9_takeBefore 10 = .ok (.isub, 1) := by decide +kernel
theorem dX9_takeBefore_11 : decode cX9_takeBefore 11 = .ok (.if_icmp .ge 19, 3) := by decide +kernel
theorem dX9_takeBefore_14 : decode cX9_takeBefore 14 = .ok (.aload_n 0, 1) := by decide +kernel
theorem dX9_takeBefore_15 : decode cX9_takeBefore 15 = .ok (.getfield 15, 3) := by decide +kernel
theorem dX9_takeBefore_18 : decode cX9_takeBefore 18 = .ok (.aload_n 0, 1) := by decide +kernel
theorem dX9_takeBefore_19 : decode cX9_takeBefore 19 = .ok (.getfield 28, 3) := by decide +kernel
theorem dX9_takeBefore_22 : decode cX9_takeBefore 22 = .ok (.iconst 1, 1) := by decide +kernel
theorem dX9_takeBefore_23 : decode cX9_takeBefore 23 = .ok (.isub, 1) := by decide +kernel
theorem dX9_takeBefore_24 : decode cX9_takeBefore 24 = .ok (.iaload, 1) := by decide +kernel
theorem dX9_takeBefore_25 : decode cX9_takeBefore 25 = .ok (.iload_n 2, 1) := by decide +kernel
theorem dX9_takeBefore_26 : decode cX9_takeBefore 26 = .ok (.iand, 1) := by decide +kernel
theorem dX9_takeBefore_27 : decode cX9_takeBefore 27 = .ok (.ifCond .eq 5, 3) := by decide +kernel
theorem dX9_takeBefore_30 : decode cX9_takeBefore 30 = .ok (.iconst 0, 1) := by decide +kernel
theorem dX9_takeBefore_31 : decode cX9_takeBefore 31 = .ok (.ireturn, 1) := by decide +kernel
theorem dX9_takeBefore_32 : decode cX9_takeBefore 32 = .ok (.aload_n 0, 1) := by decide +kernel
theorem dX9_takeBefore_33 : decode cX9_takeBefore 33 = .ok (.getfield 15, 3) := by decide +kernel
theorem dX9_takeBefore_36 : decode cX9_takeBefore 36 = .ok (.aload_n 0, 1) := by decide +kernel
theorem dX9_takeBefore_37 : decode cX9_takeBefore 37 = .ok (.getfield 28, 3) := by decide +kernel
theorem dX9_takeBefore_40 : decode cX9_takeBefore 40 = .ok (.iconst 1, 1) := by decide +kernel
theorem dX9_takeBefore_41 : decode cX9_takeBefore 41 = .ok (.isub, 1) := by decide +kernel
theorem dX9_takeBefore_42 : decode cX9_takeBefore 42 = .ok (.dup2, 1) := by decide +kernel
theorem dX9_takeBefore_43 : decode cX9_takeBefore 43 = .ok (.iaload, 1) := by decide +kernel
theorem dX9_takeBefore_44 : decode cX9_takeBefore 44 = .ok (.iload_n 2, 1) := by decide +kernel
theorem dX9_takeBefore_45 : decode cX9_takeBefore 45 = .ok (.ior, 1) := by decide +kernel
theorem dX9_takeBefore_46 : decode cX9_takeBefore 46 = .ok (.iastore, 1) := by decide +kernel
theorem dX9_takeBefore_47 : decode cX9_takeBefore 47 = .ok (.iconst 4, 1) := by decide +kernel
theorem dX9_takeBefore_48 : decode cX9_takeBefore 48 = .ok (.ireturn, 1) := by decide +kernel
theorem dX9_takeNeed_0 : decode cX9_takeNeed 0 = .ok (.iconst 1, 1) := by decide +kernel
theorem dX9_takeNeed_1 : decode cX9_takeNeed 1 = .ok (.iload_n 1, 1) := by decide +kernel
theorem dX9_takeNeed_2 : decode cX9_takeNeed 2 = .ok (.ishl, 1) := by decide +kernel
theorem dX9_takeNeed_3 : decode cX9_takeNeed 3 = .ok (.istore_n 2, 1) := by decide +kernel
theorem dX9_takeNeed_4 : decode cX9_takeNeed 4 = .ok (.aload_n 0, 1) := by decide +kernel
theorem dX9_takeNeed_5 : decode cX9_takeNeed 5 = .ok (.getfield 9, 3) := by decide +kernel
theorem dX9_takeNeed_8 : decode cX9_takeNeed 8 = .ok (.aload_n 0, 1) := by decide +kernel
theorem dX9_takeNeed_9 : decode cX9_takeNeed 9 = .ok (.getfield 28, 3) := by decide +kernel
theorem dX9_takeNeed_12 : decode cX9_takeNeed 12 = .ok (.iconst 1, 1) := by decide +kernel
theorem dX9_takeNeed_13 : decode cX9_takeNeed 13 = .ok (.isub, 1) := by decide +kernel
theorem dX9_takeNeed_14 : decode cX9_takeNeed 14 = .ok (.iaload, 1) := by decide +kernel
theorem dX9_takeNeed_15 : decode cX9_takeNeed 15 = .ok (.iload_n 2, 1) := by decide +kernel
theorem dX9_takeNeed_16 : decode cX9_takeNeed 16 = .ok (.iand, 1) := by decide +kernel
theorem dX9_takeNeed_17 : decode cX9_takeNeed 17 = .ok (.ifCond .eq 5, 3) := by decide +kernel
theorem dX9_takeNeed_20 : decode cX9_takeNeed 20 = .ok (.iconst 0, 1) := by decide +kernel
theorem dX9_takeNeed_21 : decode cX9_takeNeed 21 = .ok (.ireturn, 1) := by decide +kernel
theorem dX9_takeNeed_22 : decode cX9_takeNeed 22 = .ok (.aload_n 0, 1) := by decide +kernel
theorem dX9_takeNeed_23 : decode cX9_takeNeed 23 = .ok (.getfield 9, 3) := by decide +kernel
theorem dX9_takeNeed_26 : decode cX9_takeNeed 26 = .ok (.aload_n 0, 1) := by decide +kernel
theorem dX9_takeNeed_27 : decode cX9_takeNeed 27 = .ok (.getfield 28, 3) := by decide +kernel
theorem dX9_takeNeed_30 : decode cX9_takeNeed 30 = .ok (.iconst 1, 1) := by decide +kernel
theorem dX9_takeNeed_31 : decode cX9_takeNeed 31 = .ok (.isub, 1) := by decide +kernel
theorem dX9_takeNeed_32 : decode cX9_takeNeed 32 = .ok (.dup2, 1) := by decide +kernel
theorem dX9_takeNeed_33 : decode cX9_takeNeed 33 = .ok (.iaload, 1) := by decide +kernel
theorem dX9_takeNeed_34 : decode cX9_takeNeed 34 = .ok (.iload_n 2, 1) := by decide +kernel
theorem dX9_takeNeed_35 : decode cX9_takeNeed 35 = .ok (.ior, 1) := by decide +kernel
theorem dX9_takeNeed_36 : decode cX9_takeNeed 36 = .ok (.iastore, 1) := by decide +kernel
theorem dX9_takeNeed_37 : decode cX9_takeNeed 37 = .ok (.iconst 2, 1) := by decide +kernel
theorem dX9_takeNeed_38 : decode cX9_takeNeed 38 = .ok (.ireturn, 1) := by decide +kernel
theorem dX9_takeSize_0 : decode cX9_takeSize 0 = .ok (.aload_n 0, 1) := by decide +kernel
theorem dX9_takeSize_1 : decode cX9_takeSize 1 = .ok (.getfield 18, 3) := by decide +kernel
theorem dX9_takeSize_4 : decode cX9_takeSize 4 = .ok (.aload_n 0, 1) := by decide +kernel
theorem dX9_takeSize_5 : decode cX9_takeSize 5 = .ok (.getfield 60, 3) := by decide +kernel
theorem dX9_takeSize_8 : decode cX9_takeSize 8 = .ok (.iload_n 1, 1) := by decide +kernel
theorem dX9_takeSize_9 : decode cX9_takeSize 9 = .ok (.iastore, 1) := by decide +kernel
theorem dX9_takeSize_10 : decode cX9_takeSize 10 = .ok (.bipush 7, 2) := by decide +kernel
theorem dX9_takeSize_12 : decode cX9_takeSize 12 = .ok (.ireturn, 1) := by decide +kernel
theorem dX9_takeSized_0 : decode cX9_takeSized 0 = .ok (.iconst 1, 1) := by decide +kernel
theorem dX9_takeSized_1 : decode cX9_takeSized 1 = .ok (.iload_n 1, 1) := by decide +kernel
theorem dX9_takeSized_2 : decode cX9_takeSized 2 = .ok (.ishl, 1) := by decide +kernel
theorem dX9_takeSized_3 : decode cX9_takeSized 3 = .ok (.istore_n 2, 1) := by decide +kernel
theorem dX9_takeSized_4 : decode cX9_takeSized 4 = .ok (.aload_n 0, 1) := by decide +kernel
theorem dX9_takeSized_5 : decode cX9_takeSized 5 = .ok (.getfield 35, 3) := by decide +kernel
theorem dX9_takeSized_8 : decode cX9_takeSized 8 = .ok (.iload_n 2, 1) := by decide +kernel
theorem dX9_takeSized_9 : decode cX9_takeSized 9 = .ok (.iand, 1) := by decide +kernel
theorem dX9_takeSized_10 : decode cX9_takeSized 10 = .ok (.ifCond .eq 5, 3) := by decide +kernel
theorem dX9_takeSized_13 : decode cX9_takeSized 13 = .ok (.iconst 0, 1) := by decide +kernel
theorem dX9_takeSized_14 : decode cX9_takeSized 14 = .ok (.ireturn, 1) := by decide +kernel
theorem dX9_takeSized_15 : decode cX9_takeSized 15 = .ok (.aload_n 0, 1) := by decide +kernel
theorem dX9_takeSized_16 : decode cX9_takeSized 16 = .ok (.dup, 1) := by decide +kernel
theorem dX9_takeSized_17 : decode cX9_takeSized 17 = .ok (.getfield 35, 3) := by decide +kernel
theorem dX9_takeSized_20 : decode cX9_takeSized 20 = .ok (.iload_n 2, 1) := by decide +kernel
theorem dX9_takeSized_21 : decode cX9_takeSized 21 = .ok (.ior, 1) := by decide +kernel
theorem dX9_takeSized_22 : decode cX9_takeSized 22 = .ok (.putfield 35, 3) := by decide +kernel
theorem dX9_takeSized_25 : decode cX9_takeSized 25 = .ok (.aload_n 0, 1) := by decide +kernel
theorem dX9_takeSized_26 : decode cX9_takeSized 26 = .ok (.iload_n 1, 1) := by decide +kernel
theorem dX9_takeSized_27 : decode cX9_takeSized 27 = .ok (.putfield 60, 3) := by decide +kernel
theorem dX9_takeSized_30 : decode cX9_takeSized 30 = .ok (.bipush 6, 2) := by decide +kernel
theorem dX9_takeSized_32 : decode cX9_takeSized 32 = .ok (.ireturn, 1) := by decide +kernel
theorem dX9_step_0 : decode cX9_step 0 = .ok (.iload_n 1, 1) := by decide +kernel
theorem dX9_step_1 : decode cX9_step 1 = .ok (.tableswitch 155 1 6 #[39, 45, 74, 99, 105, 130], 39) := by decide +kernel
theorem dX9_step_40 : decode cX9_step 40 = .ok (.aload_n 0, 1) := by decide +kernel
theorem dX9_step_41 : decode cX9_step 41 = .ok (.iload_n 2, 1) := by decide +kernel
theorem dX9_step_42 : decode cX9_step 42 = .ok (.invokevirtual 38, 3) := by decide +kernel
theorem dX9_step_45 : decode cX9_step 45 = .ok (.ireturn, 1) := by decide +kernel
theorem dX9_step_46 : decode cX9_step 46 = .ok (.iload_n 2, 1) := by decide +kernel
theorem dX9_step_47 : decode cX9_step 47 = .ok (.bipush 97, 2) := by decide +kernel
theorem dX9_step_49 : decode cX9_step 49 = .ok (.if_icmp .lt 20, 3) := by decide +kernel
theorem dX9_step_52 : decode cX9_step 52 = .ok (.iload_n 2, 1) := by decide +kernel
theorem dX9_step_53 : decode cX9_step 53 = .ok (.bipush 106, 2) := by decide +kernel
theorem dX9_step_55 : decode cX9_step 55 = .ok (.if_icmp .gt 14, 3) := by decide +kernel
theorem dX9_step_58 : decode cX9_step 58 = .ok (.aload_n 0, 1) := by decide +kernel
theorem dX9_step_59 : decode cX9_step 59 = .ok (.iload_n 2, 1) := by decide +kernel
theorem dX9_step_60 : decode cX9_step 60 = .ok (.bipush 97, 2) := by decide +kernel
theorem dX9_step_62 : decode cX9_step 62 = .ok (.isub, 1) := by decide +kernel
theorem dX9_step_63 : decode cX9_step 63 = .ok (.invokevirtual 42, 3) := by decide +kernel
theorem dX9_step_66 : decode cX9_step 66 = .ok (.goto 8, 3) := by decide +kernel
theorem dX9_step_69 : decode cX9_step 69 = .ok (.aload_n 0, 1) := by decide +kernel
theorem dX9_step_70 : decode cX9_step 70 = .ok (.iload_n 2, 1) := by decide +kernel
theorem dX9_step_71 : decode cX9_step 71 = .ok (.invokevirtual 45, 3) := by decide +kernel
theorem dX9_step_74 : decode cX9_step 74 = .ok (.ireturn, 1) := by decide +kernel
theorem dX9_step_75 : decode cX9_step 75 = .ok (.iload_n 2, 1) := by decide +kernel
theorem dX9_step_76 : decode cX9_step 76 = .ok (.bipush 48, 2) := by decide +kernel
theorem dX9_step_78 : decode cX9_step 78 = .ok (.if_icmp .lt 20, 3) := by decide +kernel
theorem dX9_step_81 : decode cX9_step 81 = .ok (.iload_n 2, 1) := by decide +kernel
theorem dX9_step_82 : decode cX9_step 82 = .ok (.bipush 57, 2) := by decide +kernel
theorem dX9_step_84 : decode cX9_step 84 = .ok (.if_icmp .gt 14, 3) := by decide +kernel
theorem dX9_step_87 : decode cX9_step 87 = .ok (.aload_n 0, 1) := by decide +kernel
theorem dX9_step_88 : decode cX9_step 88 = .ok (.iload_n 2, 1) := by decide +kernel
theorem dX9_step_89 : decode cX9_step 89 = .ok (.bipush 48, 2) := by decide +kernel
theorem dX9_step_91 : decode cX9_step 91 = .ok (.isub, 1) := by decide +kernel
theorem dX9_step_92 : decode cX9_step 92 = .ok (.invokevirtual 48, 3) := by decide +kernel
theorem dX9_step_95 : decode cX9_step 95 = .ok (.goto 4, 3) := by decide +kernel
theorem dX9_step_98 : decode cX9_step 98 = .ok (.iconst 0, 1) := by decide +kernel
theorem dX9_step_99 : decode cX9_step 99 = .ok (.ireturn, 1) := by decide +kernel
theorem dX9_step_100 : decode cX9_step 100 = .ok (.aload_n 0, 1) := by decide +kernel
theorem dX9_step_101 : decode cX9_step 101 = .ok (.iload_n 2, 1) := by decide +kernel
theorem dX9_step_102 : decode cX9_step 102 = .ok (.invokevirtual 45, 3) := by decide +kernel
theorem dX9_step_105 : decode cX9_step 105 = .ok (.ireturn, 1) := by decide +kernel
theorem dX9_step_106 : decode cX9_step 106 = .ok (.iload_n 2, 1) := by decide +kernel
theorem dX9_step_107 : decode cX9_step 107 = .ok (.bipush 97, 2) := by decide +kernel
theorem dX9_step_109 : decode cX9_step 109 = .ok (.if_icmp .lt 20, 3) := by decide +kernel
theorem dX9_step_112 : decode cX9_step 112 = .ok (.iload_n 2, 1) := by decide +kernel
theorem dX9_step_113 : decode cX9_step 113 = .ok (.bipush 106, 2) := by decide +kernel
theorem dX9_step_115 : decode cX9_step 115 = .ok (.if_icmp .gt 14, 3) := by decide +kernel
theorem dX9_step_118 : decode cX9_step 118 = .ok (.aload_n 0, 1) := by decide +kernel
theorem dX9_step_119 : decode cX9_step 119 = .ok (.iload_n 2, 1) := by decide +kernel
theorem dX9_step_120 : decode cX9_step 120 = .ok (.bipush 97, 2) := by decide +kernel
theorem dX9_step_122 : decode cX9_step 122 = .ok (.isub, 1) := by decide +kernel
theorem dX9_step_123 : decode cX9_step 123 = .ok (.invokevirtual 51, 3) := by decide +kernel
theorem dX9_step_126 : decode cX9_step 126 = .ok (.goto 4, 3) := by decide +kernel
theorem dX9_step_129 : decode cX9_step 129 = .ok (.iconst 0, 1) := by decide +kernel
theorem dX9_step_130 : decode cX9_step 130 = .ok (.ireturn, 1) := by decide +kernel
theorem dX9_step_131 : decode cX9_step 131 = .ok (.iload_n 2, 1) := by decide +kernel
theorem dX9_step_132 : decode cX9_step 132 = .ok (.bipush 49, 2) := by decide +kernel
theorem dX9_step_134 : decode cX9_step 134 = .ok (.if_icmp .lt 20, 3) := by decide +kernel
theorem dX9_step_137 : decode cX9_step 137 = .ok (.iload_n 2, 1) := by decide +kernel
theorem dX9_step_138 : decode cX9_step 138 = .ok (.bipush 57, 2) := by decide +kernel
theorem dX9_step_140 : decode cX9_step 140 = .ok (.if_icmp .gt 14, 3) := by decide +kernel
theorem dX9_step_143 : decode cX9_step 143 = .ok (.aload_n 0, 1) := by decide +kernel
theorem dX9_step_144 : decode cX9_step 144 = .ok (.iload_n 2, 1) := by decide +kernel
theorem dX9_step_145 : decode cX9_step 145 = .ok (.bipush 48, 2) := by decide +kernel
theorem dX9_step_147 : decode cX9_step 147 = .ok (.isub, 1) := by decide +kernel
theorem dX9_step_148 : decode cX9_step 148 = .ok (.invokevirtual 54, 3) := by decide +kernel
theorem dX9_step_151 : decode cX9_step 151 = .ok (.goto 4, 3) := by decide +kernel
theorem dX9_step_154 : decode cX9_step 154 = .ok (.iconst 0, 1) := by decide +kernel
theorem dX9_step_155 : decode cX9_step 155 = .ok (.ireturn, 1) := by decide +kernel
theorem dX9_step_156 : decode cX9_step 156 = .ok (.aload_n 0, 1) := by decide +kernel
theorem dX9_step_157 : decode cX9_step 157 = .ok (.iload_n 2, 1) := by decide +kernel
theorem dX9_step_158 : decode cX9_step 158 = .ok (.invokevirtual 57, 3) := by decide +kernel
theorem dX9_step_161 : decode cX9_step 161 = .ok (.ireturn, 1) := by decide +kernel
theorem dX9_firstFault_0 : decode cX9_firstFault 0 = .ok (.aload_n 0, 1) := by decide +kernel
theorem dX9_firstFault_1 : decode cX9_firstFault 1 = .ok (.invokevirtual 21, 3) := by decide +kernel
theorem dX9_firstFault_4 : decode cX9_firstFault 4 = .ok (.iconst 1, 1) := by decide +kernel
theorem dX9_firstFault_5 : decode cX9_firstFault 5 = .ok (.istore 4, 2) := by decide +kernel
theorem dX9_firstFault_7 : decode cX9_firstFault 7 = .ok (.iconst 0, 1) := by decide +kernel
theorem dX9_firstFault_8 : decode cX9_firstFault 8 = .ok (.istore 5, 2) := by decide +kernel
theorem dX9_firstFault_10 : decode cX9_firstFault 10 = .ok (.iload 5, 2) := by decide +kernel
theorem dX9_firstFault_12 : decode cX9_firstFault 12 = .ok (.iload_n 3, 1) := by decide +kernel
theorem dX9_firstFault_13 : decode cX9_firstFault 13 = .ok (.if_icmp .ge 31, 3) := by decide +kernel
theorem dX9_firstFault_16 : decode cX9_firstFault 16 = .ok (.aload_n 0, 1) := by decide +kernel
theorem dX9_firstFault_17 : decode cX9_firstFault 17 = .ok (.iload 4, 2) := by decide +kernel
theorem dX9_firstFault_19 : decode cX9_firstFault 19 = .ok (.aload_n 1, 1) := by decide +kernel
theorem dX9_firstFault_20 : decode cX9_firstFault 20 = .ok (.iload_n 2, 1) := by decide +kernel
theorem dX9_firstFault_21 : decode cX9_firstFault 21 = .ok (.iload 5, 2) := by decide +kernel
theorem dX9_firstFault_23 : decode cX9_firstFault 23 = .ok (.iadd, 1) := by decide +kernel
theorem dX9_firstFault_24 : decode cX9_firstFault 24 = .ok (.iaload, 1) := by decide +kernel
theorem dX9_firstFault_25 : decode cX9_firstFault 25 = .ok (.invokevirtual 24, 3) := by decide +kernel
theorem dX9_firstFault_28 : decode cX9_firstFault 28 = .ok (.istore 4, 2) := by decide +kernel
theorem dX9_firstFault_30 : decode cX9_firstFault 30 = .ok (.iload 4, 2) := by decide +kernel
theorem dX9_firstFault_32 : decode cX9_firstFault 32 = .ok (.ifCond .ne 6, 3) := by decide +kernel
theorem dX9_firstFault_35 : decode cX9_firstFault 35 = .ok (.iload 5, 2) := by decide +kernel
theorem dX9_firstFault_37 : decode cX9_firstFault 37 = .ok (.ireturn, 1) := by decide +kernel
theorem dX9_firstFault_38 : decode cX9_firstFault 38 = .ok (.iinc 5 1, 3) := by decide +kernel
theorem dX9_firstFault_41 : decode cX9_firstFault 41 = .ok (.goto (-31), 3) := by decide +kernel
theorem dX9_firstFault_44 : decode cX9_firstFault 44 = .ok (.iload 4, 2) := by decide +kernel
theorem dX9_firstFault_46 : decode cX9_firstFault 46 = .ok (.iconst 2, 1) := by decide +kernel
theorem dX9_firstFault_47 : decode cX9_firstFault 47 = .ok (.if_icmp .eq 16, 3) := by decide +kernel
theorem dX9_firstFault_50 : decode cX9_firstFault 50 = .ok (.iload 4, 2) := by decide +kernel
theorem dX9_firstFault_52 : decode cX9_firstFault 52 = .ok (.iconst 4, 1) := by decide +kernel
theorem dX9_firstFault_53 : decode cX9_firstFault 53 = .ok (.if_icmp .eq 10, 3) := by decide +kernel
theorem dX9_firstFault_56 : decode cX9_firstFault 56 = .ok (.iload 4, 2) := by decide +kernel
theorem dX9_firstFault_58 : decode cX9_firstFault 58 = .ok (.bipush 7, 2) := by decide +kernel
theorem dX9_firstFault_60 : decode cX9_firstFault 60 = .ok (.if_icmp .ne 7, 3) := by decide +kernel
theorem dX9_firstFault_63 : decode cX9_firstFault 63 = .ok (.iconst (-1), 1) := by decide +kernel
theorem dX9_firstFault_64 : decode cX9_firstFault 64 = .ok (.goto 4, 3) := by decide +kernel
theorem dX9_firstFault_67 : decode cX9_firstFault 67 = .ok (.iload_n 3, 1) := by decide +kernel
theorem dX9_firstFault_68 : decode cX9_firstFault 68 = .ok (.ireturn, 1) := by decide +kernel
theorem dX10_has_0 : decode cX10_has 0 = .ok (.iload_n 1, 1) := by decide +kernel
theorem dX10_has_1 : decode cX10_has 1 = .ok (.ifCond .lt 15, 3) := by decide +kernel
theorem dX10_has_4 : decode cX10_has 4 = .ok (.iload_n 1, 1) := by decide +kernel
theorem dX10_has_5 : decode cX10_has 5 = .ok (.aload_n 0, 1) := by decide +kernel
theorem dX10_has_6 : decode cX10_has 6 = .ok (.getfield 28, 3) := by decide +kernel
theorem dX10_has_9 : decode cX10_has 9 = .ok (.if_icmp .ge 7, 3) := by decide +kernel
theorem dX10_has_12 : decode cX10_has 12 = .ok (.iconst 1, 1) := by decide +kernel
theorem dX10_has_13 : decode cX10_has 13 = .ok (.goto 4, 3) := by decide +kernel
theorem dX10_has_16 : decode cX10_has 16 = .ok (.iconst 0, 1) := by decide +kernel
theorem dX10_has_17 : decode cX10_has 17 = .ok (.ireturn, 1) := by decide +kernel
theorem dX10_takeOver_0 : decode cX10_takeOver 0 = .ok (.aload_n 0, 1) := by decide +kernel
theorem dX10_takeOver_1 : decode cX10_takeOver 1 = .ok (.aload_n 1, 1) := by decide +kernel
theorem dX10_takeOver_2 : decode cX10_takeOver 2 = .ok (.getfield 32, 3) := by decide +kernel
theorem dX10_takeOver_5 : decode cX10_takeOver 5 = .ok (.putfield 28, 3) := by decide +kernel
theorem dX10_takeOver_8 : decode cX10_takeOver 8 = .ok (.iconst 0, 1) := by decide +kernel
theorem dX10_takeOver_9 : decode cX10_takeOver 9 = .ok (.istore_n 2, 1) := by decide +kernel
theorem dX10_takeOver_10 : decode cX10_takeOver 10 = .ok (.iload_n 2, 1) := by decide +kernel
theorem dX10_takeOver_11 : decode cX10_takeOver 11 = .ok (.aload_n 0, 1) := by decide +kernel
theorem dX10_takeOver_12 : decode cX10_takeOver 12 = .ok (.getfield 28, 3) := by decide +kernel
theorem dX10_takeOver_15 : decode cX10_takeOver 15 = .ok (.if_icmp .ge 33, 3) := by decide +kernel
theorem dX10_takeOver_18 : decode cX10_takeOver 18 = .ok (.aload_n 0, 1) := by decide +kernel
theorem dX10_takeOver_19 : decode cX10_takeOver 19 = .ok (.getfield 9, 3) := by decide +kernel
theorem dX10_takeOver_22 : decode cX10_takeOver 22 = .ok (.iload_n 2, 1) := by decide +kernel
theorem dX10_takeOver_23 : decode cX10_takeOver 23 = .ok (.aload_n 1, 1) := by decide +kernel
theorem dX10_takeOver_24 : decode cX10_takeOver 24 = .ok (.getfield 35, 3) := by decide +kernel
theorem dX10_takeOver_27 : decode cX10_takeOver 27 = .ok (.iload_n 2, 1) := by decide +kernel
theorem dX10_takeOver_28 : decode cX10_takeOver 28 = .ok (.iaload, 1) := by decide +kernel
theorem dX10_takeOver_29 : decode cX10_takeOver 29 = .ok (.iastore, 1) := by decide +kernel
theorem dX10_takeOver_30 : decode cX10_takeOver 30 = .ok (.aload_n 0, 1) := by decide +kernel
theorem dX10_takeOver_31 : decode cX10_takeOver 31 = .ok (.getfield 15, 3) := by decide +kernel
theorem dX10_takeOver_34 : decode cX10_takeOver 34 = .ok (.iload_n 2, 1) := by decide +kernel
theorem dX10_takeOver_35 : decode cX10_takeOver 35 = .ok (.aload_n 1, 1) := by decide +kernel
theorem dX10_takeOver_36 : decode cX10_takeOver 36 = .ok (.getfield 36, 3) := by decide +kernel
theorem dX10_takeOver_39 : decode cX10_takeOver 39 = .ok (.iload_n 2, 1) := by decide +kernel
theorem dX10_takeOver_40 : decode cX10_takeOver 40 = .ok (.iaload, 1) := by decide +kernel
theorem dX10_takeOver_41 : decode cX10_takeOver 41 = .ok (.iastore, 1) := by decide +kernel
theorem dX10_takeOver_42 : decode cX10_takeOver 42 = .ok (.iinc 2 1, 3) := by decide +kernel
theorem dX10_takeOver_45 : decode cX10_takeOver 45 = .ok (.goto (-35), 3) := by decide +kernel
theorem dX10_takeOver_48 : decode cX10_takeOver 48 = .ok (.iconst 0, 1) := by decide +kernel
theorem dX10_takeOver_49 : decode cX10_takeOver 49 = .ok (.istore_n 2, 1) := by decide +kernel
theorem dX10_takeOver_50 : decode cX10_takeOver 50 = .ok (.iload_n 2, 1) := by decide +kernel
theorem dX10_takeOver_51 : decode cX10_takeOver 51 = .ok (.bipush 10, 2) := by decide +kernel
theorem dX10_takeOver_53 : decode cX10_takeOver 53 = .ok (.if_icmp .ge 24, 3) := by decide +kernel
theorem dX10_takeOver_56 : decode cX10_takeOver 56 = .ok (.aload_n 0, 1) := by decide +kernel
theorem dX10_takeOver_57 : decode cX10_takeOver 57 = .ok (.getfield 21, 3) := by decide +kernel
theorem dX10_takeOver_60 : decode cX10_takeOver 60 = .ok (.iload_n 2, 1) := by decide +kernel
theorem dX10_takeOver_61 : decode cX10_takeOver 61 = .ok (.aload_n 1, 1) := by decide +kernel
theorem dX10_takeOver_62 : decode cX10_takeOver 62 = .ok (.getfield 37, 3) := by decide +kernel
theorem dX10_takeOver_65 : decode cX10_takeOver 65 = .ok (.iload_n 2, 1) := by decide +kernel
theorem dX10_takeOver_66 : decode cX10_takeOver 66 = .ok (.iaload, 1) := by decide +kernel
theorem dX10_takeOver_67 : decode cX10_takeOver 67 = .ok (.invokevirtual 39, 3) := by decide +kernel
theorem dX10_takeOver_70 : decode cX10_takeOver 70 = .ok (.pop, 1) := by decide +kernel
theorem dX10_takeOver_71 : decode cX10_takeOver 71 = .ok (.iinc 2 1, 3) := by decide +kernel
theorem dX10_takeOver_74 : decode cX10_takeOver 74 = .ok (.goto (-24), 3) := by decide +kernel
theorem dX10_takeOver_77 : decode cX10_takeOver 77 = .ok (.aload_n 0, 1) := by decide +kernel
theorem dX10_takeOver_78 : decode cX10_takeOver 78 = .ok (.dup, 1) := by decide +kernel
theorem dX10_takeOver_79 : decode cX10_takeOver 79 = .ok (.getfield 43, 3) := by decide +kernel
theorem dX10_takeOver_82 : decode cX10_takeOver 82 = .ok (.iconst 1, 1) := by decide +kernel
theorem dX10_takeOver_83 : decode cX10_takeOver 83 = .ok (.iadd, 1) := by decide +kernel
theorem dX10_takeOver_84 : decode cX10_takeOver 84 = .ok (.putfield 43, 3) := by decide +kernel
theorem dX10_takeOver_87 : decode cX10_takeOver 87 = .ok (.return_, 1) := by decide +kernel
theorem dX10_add_0 : decode cX10_add 0 = .ok (.aload_n 0, 1) := by decide +kernel
theorem dX10_add_1 : decode cX10_add 1 = .ok (.getfield 9, 3) := by decide +kernel
theorem dX10_add_4 : decode cX10_add 4 = .ok (.aload_n 0, 1) := by decide +kernel
theorem dX10_add_5 : decode cX10_add 5 = .ok (.getfield 28, 3) := by decide +kernel
theorem dX10_add_8 : decode cX10_add 8 = .ok (.iload_n 1, 1) := by decide +kernel
theorem dX10_add_9 : decode cX10_add 9 = .ok (.iastore, 1) := by decide +kernel
theorem dX10_add_10 : decode cX10_add 10 = .ok (.aload_n 0, 1) := by decide +kernel
theorem dX10_add_11 : decode cX10_add 11 = .ok (.getfield 15, 3) := by decide +kernel
theorem dX10_add_14 : decode cX10_add 14 = .ok (.aload_n 0, 1) := by decide +kernel
theorem dX10_add_15 : decode cX10_add 15 = .ok (.getfield 28, 3) := by decide +kernel
theorem dX10_add_18 : decode cX10_add 18 = .ok (.iload_n 2, 1) := by decide +kernel
theorem dX10_add_19 : decode cX10_add 19 = .ok (.iastore, 1) := by decide +kernel
theorem dX10_add_20 : decode cX10_add 20 = .ok (.aload_n 0, 1) := by decide +kernel
theorem dX10_add_21 : decode cX10_add 21 = .ok (.dup, 1) := by decide +kernel
theorem dX10_add_22 : decode cX10_add 22 = .ok (.getfield 28, 3) := by decide +kernel
theorem dX10_add_25 : decode cX10_add 25 = .ok (.iconst 1, 1) := by decide +kernel
theorem dX10_add_26 : decode cX10_add 26 = .ok (.iadd, 1) := by decide +kernel
theorem dX10_add_27 : decode cX10_add 27 = .ok (.putfield 28, 3) := by decide +kernel
theorem dX10_add_30 : decode cX10_add 30 = .ok (.aload_n 0, 1) := by decide +kernel
theorem dX10_add_31 : decode cX10_add 31 = .ok (.dup, 1) := by decide +kernel
theorem dX10_add_32 : decode cX10_add 32 = .ok (.getfield 43, 3) := by decide +kernel
theorem dX10_add_35 : decode cX10_add 35 = .ok (.iconst 1, 1) := by decide +kernel
theorem dX10_add_36 : decode cX10_add 36 = .ok (.iadd, 1) := by decide +kernel
theorem dX10_add_37 : decode cX10_add 37 = .ok (.putfield 43, 3) := by decide +kernel
theorem dX10_add_40 : decode cX10_add 40 = .ok (.return_, 1) := by decide +kernel
theorem dX10_changeSize_0 : decode cX10_changeSize 0 = .ok (.aload_n 0, 1) := by decide +kernel
theorem dX10_changeSize_1 : decode cX10_changeSize 1 = .ok (.dup, 1) := by decide +kernel
theorem dX10_changeSize_2 : decode cX10_changeSize 2 = .ok (.getfield 43, 3) := by decide +kernel
theorem dX10_changeSize_5 : decode cX10_changeSize 5 = .ok (.iconst 1, 1) := by decide +kernel
theorem dX10_changeSize_6 : decode cX10_changeSize 6 = .ok (.iadd, 1) := by decide +kernel
theorem dX10_changeSize_7 : decode cX10_changeSize 7 = .ok (.putfield 43, 3) := by decide +kernel
theorem dX10_changeSize_10 : decode cX10_changeSize 10 = .ok (.aload_n 0, 1) := by decide +kernel
theorem dX10_changeSize_11 : decode cX10_changeSize 11 = .ok (.getfield 21, 3) := by decide +kernel
theorem dX10_changeSize_14 : decode cX10_changeSize 14 = .ok (.iload_n 1, 1) := by decide +kernel
theorem dX10_changeSize_15 : decode cX10_changeSize 15 = .ok (.iload_n 2, 1) := by decide +kernel
theorem dX10_changeSize_16 : decode cX10_changeSize 16 = .ok (.invokevirtual 39, 3) := by decide +kernel
theorem dX10_changeSize_19 : decode cX10_changeSize 19 = .ok (.ireturn, 1) := by decide +kernel
theorem dX10_isBefore_0 : decode cX10_isBefore 0 = .ok (.aload_n 0, 1) := by decide +kernel
theorem dX10_isBefore_1 : decode cX10_isBefore 1 = .ok (.getfield 15, 3) := by decide +kernel
theorem dX10_isBefore_4 : decode cX10_isBefore 4 = .ok (.iload_n 2, 1) := by decide +kernel
theorem dX10_isBefore_5 : decode cX10_isBefore 5 = .ok (.iaload, 1) := by decide +kernel
theorem dX10_isBefore_6 : decode cX10_isBefore 6 = .ok (.iload_n 1, 1) := by decide +kernel
theorem dX10_isBefore_7 : decode cX10_isBefore 7 = .ok (.ishr, 1) := by decide +kernel
theorem dX10_isBefore_8 : decode cX10_isBefore 8 = .ok (.iconst 1, 1) := by decide +kernel
theorem dX10_isBefore_9 : decode cX10_isBefore 9 = .ok (.iand, 1) := by decide +kernel
theorem dX10_isBefore_10 : decode cX10_isBefore 10 = .ok (.ifCond .eq 7, 3) := by decide +kernel
theorem dX10_isBefore_13 : decode cX10_isBefore 13 = .ok (.iconst 1, 1) := by decide +kernel
theorem dX10_isBefore_14 : decode cX10_isBefore 14 = .ok (.goto 4, 3) := by decide +kernel
theorem dX10_isBefore_17 : decode cX10_isBefore 17 = .ok (.iconst 0, 1) := by decide +kernel
theorem dX10_isBefore_18 : decode cX10_isBefore 18 = .ok (.ireturn, 1) := by decide +kernel
theorem dX10_turnBefore_0 : decode cX10_turnBefore 0 = .ok (.aload_n 0, 1) := by decide +kernel
theorem dX10_turnBefore_1 : decode cX10_turnBefore 1 = .ok (.getfield 15, 3) := by decide +kernel
theorem dX10_turnBefore_4 : decode cX10_turnBefore 4 = .ok (.iload_n 2, 1) := by decide +kernel
theorem dX10_turnBefore_5 : decode cX10_turnBefore 5 = .ok (.dup2, 1) := by decide +kernel
theorem dX10_turnBefore_6 : decode cX10_turnBefore 6 = .ok (.iaload, 1) := by decide +kernel
theorem dX10_turnBefore_7 : decode cX10_turnBefore 7 = .ok (.iconst 1, 1) := by decide +kernel
theorem dX10_turnBefore_8 : decode cX10_turnBefore 8 = .ok (.iload_n 1, 1) := by decide +kernel
theorem dX10_turnBefore_9 : decode cX10_turnBefore 9 = .ok (.ishl, 1) := by decide +kernel
theorem dX10_turnBefore_10 : decode cX10_turnBefore 10 = .ok (.ixor, 1) := by decide +kernel
theorem dX10_turnBefore_11 : decode cX10_turnBefore 11 = .ok (.iastore, 1) := by decide +kernel
theorem dX10_turnBefore_12 : decode cX10_turnBefore 12 = .ok (.aload_n 0, 1) := by decide +kernel
theorem dX10_turnBefore_13 : decode cX10_turnBefore 13 = .ok (.dup, 1) := by decide +kernel
theorem dX10_turnBefore_14 : decode cX10_turnBefore 14 = .ok (.getfield 43, 3) := by decide +kernel
theorem dX10_turnBefore_17 : decode cX10_turnBefore 17 = .ok (.iconst 1, 1) := by decide +kernel
theorem dX10_turnBefore_18 : decode cX10_turnBefore 18 = .ok (.iadd, 1) := by decide +kernel
theorem dX10_turnBefore_19 : decode cX10_turnBefore 19 = .ok (.putfield 43, 3) := by decide +kernel
theorem dX10_turnBefore_22 : decode cX10_turnBefore 22 = .ok (.return_, 1) := by decide +kernel
theorem dX10_comesAhead_0 : decode cX10_comesAhead 0 = .ok (.aload_n 0, 1) := by decide +kernel
theorem dX10_comesAhead_1 : decode cX10_comesAhead 1 = .ok (.getfield 15, 3) := by decide +kernel
theorem dX10_comesAhead_4 : decode cX10_comesAhead 4 = .ok (.iload_n 2, 1) := by decide +kernel
theorem dX10_comesAhead_5 : decode cX10_comesAhead 5 = .ok (.iaload, 1) := by decide +kernel
theorem dX10_comesAhead_6 : decode cX10_comesAhead 6 = .ok (.istore_n 3, 1) := by decide +kernel
theorem dX10_comesAhead_7 : decode cX10_comesAhead 7 = .ok (.iconst 0, 1) := by decide +kernel
theorem dX10_comesAhead_8 : decode cX10_comesAhead 8 = .ok (.istore 4, 2) := by decide +kernel
theorem dX10_comesAhead_10 : decode cX10_comesAhead 10 = .ok (.iload 4, 2) := by decide +kernel
theorem dX10_comesAhead_12 : decode cX10_comesAhead 12 = .ok (.aload_n 0, 1) := by decide +kernel
theorem dX10_comesAhead_13 : decode cX10_comesAhead 13 = .ok (.getfield 28, 3) := by decide +kernel
theorem dX10_comesAhead_16 : decode cX10_comesAhead 16 = .ok (.if_icmp .ge 46, 3) := by decide +kernel
theorem dX10_comesAhead_19 : decode cX10_comesAhead 19 = .ok (.iconst 0, 1) := by decide +kernel
theorem dX10_comesAhead_20 : decode cX10_comesAhead 20 = .ok (.istore 5, 2) := by decide +kernel
theorem dX10_comesAhead_22 : decode cX10_comesAhead 22 = .ok (.iload 5, 2) := by decide +kernel
theorem dX10_comesAhead_24 : decode cX10_comesAhead 24 = .ok (.aload_n 0, 1) := by decide +kernel
theorem dX10_comesAhead_25 : decode cX10_comesAhead 25 = .ok (.getfield 28, 3) := by decide +kernel
theorem dX10_comesAhead_28 : decode cX10_comesAhead 28 = .ok (.if_icmp .ge 28, 3) := by decide +kernel
theorem dX10_comesAhead_31 : decode cX10_comesAhead 31 = .ok (.iload_n 3, 1) := by decide +kernel
theorem dX10_comesAhead_32 : decode cX10_comesAhead 32 = .ok (.iload 5, 2) := by decide +kernel
theorem dX10_comesAhead_34 : decode cX10_comesAhead 34 = .ok (.ishr, 1) := by decide +kernel
theorem dX10_comesAhead_35 : decode cX10_comesAhead 35 = .ok (.iconst 1, 1) := by decide +kernel
theorem dX10_comesAhead_36 : decode cX10_comesAhead 36 = .ok (.iand, 1) := by decide +kernel
theorem dX10_comesAhead_37 : decode cX10_comesAhead 37 = .ok (.ifCond .eq 13, 3) := by decide +kernel
theorem dX10_comesAhead_40 : decode cX10_comesAhead 40 = .ok (.iload_n 3, 1) := by decide +kernel
theorem dX10_comesAhead_41 : decode cX10_comesAhead 41 = .ok (.aload_n 0, 1) := by decide +kernel
theorem dX10_comesAhead_42 : decode cX10_comesAhead 42 = .ok (.getfield 15, 3) := by decide +kernel
theorem dX10_comesAhead_45 : decode cX10_comesAhead 45 = .ok (.iload 5, 2) := by decide +kernel
theorem dX10_comesAhead_47 : decode cX10_comesAhead 47 = .ok (.iaload, 1) := by decide +kernel
theorem dX10_comesAhead_48 : decode cX10_comesAhead 48 = .ok (.ior, 1) := by decide +kernel
theorem dX10_comesAhead_49 : decode cX10_comesAhead 49 = .ok (.istore_n 3, 1) := by decide +kernel
theorem dX10_comesAhead_50 : decode cX10_comesAhead 50 = .ok (.iinc 5 1, 3) := by decide +kernel
theorem dX10_comesAhead_53 : decode cX10_comesAhead 53 = .ok (.goto (-31), 3) := by decide +kernel
theorem dX10_comesAhead_56 : decode cX10_comesAhead 56 = .ok (.iinc 4 1, 3) := by decide +kernel
theorem dX10_comesAhead_59 : decode cX10_comesAhead 59 = .ok (.goto (-49), 3) := by decide +kernel
theorem dX10_comesAhead_62 : decode cX10_comesAhead 62 = .ok (.iload_n 3, 1) := by decide +kernel
theorem dX10_comesAhead_63 : decode cX10_comesAhead 63 = .ok (.iload_n 1, 1) := by decide +kernel
theorem dX10_comesAhead_64 : decode cX10_comesAhead 64 = .ok (.ishr, 1) := by decide +kernel
theorem dX10_comesAhead_65 : decode cX10_comesAhead 65 = .ok (.iconst 1, 1) := by decide +kernel
theorem dX10_comesAhead_66 : decode cX10_comesAhead 66 = .ok (.iand, 1) := by decide +kernel
theorem dX10_comesAhead_67 : decode cX10_comesAhead 67 = .ok (.ifCond .eq 7, 3) := by decide +kernel
theorem dX10_comesAhead_70 : decode cX10_comesAhead 70 = .ok (.iconst 1, 1) := by decide +kernel
theorem dX10_comesAhead_71 : decode cX10_comesAhead 71 = .ok (.goto 4, 3) := by decide +kernel
theorem dX10_comesAhead_74 : decode cX10_comesAhead 74 = .ok (.iconst 0, 1) := by decide +kernel
theorem dX10_comesAhead_75 : decode cX10_comesAhead 75 = .ok (.ireturn, 1) := by decide +kernel
theorem dX10_countBefores_0 : decode cX10_countBefores 0 = .ok (.iconst 0, 1) := by decide +kernel
theorem dX10_countBefores_1 : decode cX10_countBefores 1 = .ok (.istore_n 1, 1) := by decide +kernel
theorem dX10_countBefores_2 : decode cX10_countBefores 2 = .ok (.iconst 0, 1) := by decide +kernel
theorem dX10_countBefores_3 : decode cX10_countBefores 3 = .ok (.istore_n 2, 1) := by decide +kernel
theorem dX10_countBefores_4 : decode cX10_countBefores 4 = .ok (.iload_n 2, 1) := by decide +kernel
theorem dX10_countBefores_5 : decode cX10_countBefores 5 = .ok (.aload_n 0, 1) := by decide +kernel
theorem dX10_countBefores_6 : decode cX10_countBefores 6 = .ok (.getfield 28, 3) := by decide +kernel
theorem dX10_countBefores_9 : decode cX10_countBefores 9 = .ok (.if_icmp .ge 21, 3) := by decide +kernel
theorem dX10_countBefores_12 : decode cX10_countBefores 12 = .ok (.iload_n 1, 1) := by decide +kernel
theorem dX10_countBefores_13 : decode cX10_countBefores 13 = .ok (.aload_n 0, 1) := by decide +kernel
theorem dX10_countBefores_14 : decode cX10_countBefores 14 = .ok (.getfield 15, 3) := by decide +kernel
theorem dX10_countBefores_17 : decode cX10_countBefores 17 = .ok (.iload_n 2, 1) := by decide +kernel
theorem dX10_countBefores_18 : decode cX10_countBefores 18 = .ok (.iaload, 1) := by decide +kernel
theorem dX10_countBefores_19 : decode cX10_countBefores 19 = .ok (.invokestatic 55, 3) := by decide +kernel
theorem dX10_countBefores_22 : decode cX10_countBefores 22 = .ok (.iadd, 1) := by decide +kernel
theorem dX10_countBefores_23 : decode cX10_countBefores 23 = .ok (.istore_n 1, 1) := by decide +kernel
theorem dX10_countBefores_24 : decode cX10_countBefores 24 = .ok (.iinc 2 1, 3) := by decide +kernel
theorem dX10_countBefores_27 : decode cX10_countBefores 27 = .ok (.goto (-23), 3) := by decide +kernel
theorem dX10_countBefores_30 : decode cX10_countBefores 30 = .ok (.iload_n 1, 1) := by decide +kernel
theorem dX10_countBefores_31 : decode cX10_countBefores 31 = .ok (.ireturn, 1) := by decide +kernel
theorem dX10_score_0 : decode cX10_score 0 = .ok (.aload_n 0, 1) := by decide +kernel
theorem dX10_score_1 : decode cX10_score 1 = .ok (.invokevirtual 65, 3) := by decide +kernel
theorem dX10_score_4 : decode cX10_score 4 = .ok (.iload_n 3, 1) := by decide +kernel
theorem dX10_score_5 : decode cX10_score 5 = .ok (.iconst (-1), 1) := by decide +kernel
theorem dX10_score_6 : decode cX10_score 6 = .ok (.ixor, 1) := by decide +kernel
theorem dX10_score_7 : decode cX10_score 7 = .ok (.iand, 1) := by decide +kernel
theorem dX10_score_8 : decode cX10_score 8 = .ok (.iconst 1, 1) := by decide +kernel
theorem dX10_score_9 : decode cX10_score 9 = .ok (.iload_n 2, 1) := by decide +kernel
theorem dX10_score_10 : decode cX10_score 10 = .ok (.ishl, 1) := by decide +kernel
theorem dX10_score_11 : decode cX10_score 11 = .ok (.iconst (-1), 1) := by decide +kernel
theorem dX10_score_12 : decode cX10_score 12 = .ok (.ixor, 1) := by decide +kernel
theorem dX10_score_13 : decode cX10_score 13 = .ok (.iand, 1) := by decide +kernel
theorem dX10_score_14 : decode cX10_score 14 = .ok (.istore 4, 2) := by decide +kernel
theorem dX10_score_16 : decode cX10_score 16 = .ok (.aload_n 0, 1) := by decide +kernel
theorem dX10_score_17 : decode cX10_score 17 = .ok (.getfield 21, 3) := by decide +kernel
theorem dX10_score_20 : decode cX10_score 20 = .ok (.aload_n 0, 1) := by decide +kernel
theorem dX10_score_21 : decode cX10_score 21 = .ok (.getfield 9, 3) := by decide +kernel
theorem dX10_score_24 : decode cX10_score 24 = .ok (.iload_n 2, 1) := by decide +kernel
theorem dX10_score_25 : decode cX10_score 25 = .ok (.iaload, 1) := by decide +kernel
theorem dX10_score_26 : decode cX10_score 26 = .ok (.aload_n 0, 1) := by decide +kernel
theorem dX10_score_27 : decode cX10_score 27 = .ok (.iload 4, 2) := by decide +kernel
theorem dX10_score_29 : decode cX10_score 29 = .ok (.invokevirtual 69, 3) := by decide +kernel
theorem dX10_score_32 : decode cX10_score 32 = .ok (.iconst (-1), 1) := by decide +kernel
theorem dX10_score_33 : decode cX10_score 33 = .ok (.ixor, 1) := by decide +kernel
theorem dX10_score_34 : decode cX10_score 34 = .ok (.iand, 1) := by decide +kernel
theorem dX10_score_35 : decode cX10_score 35 = .ok (.invokevirtual 46, 3) := by decide +kernel
theorem dX10_score_38 : decode cX10_score 38 = .ok (.istore 5, 2) := by decide +kernel
theorem dX10_score_40 : decode cX10_score 40 = .ok (.aload_n 0, 1) := by decide +kernel
theorem dX10_score_41 : decode cX10_score 41 = .ok (.getfield 21, 3) := by decide +kernel
theorem dX10_score_44 : decode cX10_score 44 = .ok (.aload_n 0, 1) := by decide +kernel
theorem dX10_score_45 : decode cX10_score 45 = .ok (.getfield 9, 3) := by decide +kernel
theorem dX10_score_48 : decode cX10_score 48 = .ok (.iload_n 2, 1) := by decide +kernel
theorem dX10_score_49 : decode cX10_score 49 = .ok (.iaload, 1) := by decide +kernel
theorem dX10_score_50 : decode cX10_score 50 = .ok (.aload_n 0, 1) := by decide +kernel
theorem dX10_score_51 : decode cX10_score 51 = .ok (.iload_n 3, 1) := by decide +kernel
theorem dX10_score_52 : decode cX10_score 52 = .ok (.invokevirtual 69, 3) := by decide +kernel
theorem dX10_score_55 : decode cX10_score 55 = .ok (.iconst (-1), 1) := by decide +kernel
theorem dX10_score_56 : decode cX10_score 56 = .ok (.ixor, 1) := by decide +kernel
theorem dX10_score_57 : decode cX10_score 57 = .ok (.iand, 1) := by decide +kernel
theorem dX10_score_58 : decode cX10_score 58 = .ok (.invokevirtual 46, 3) := by decide +kernel
theorem dX10_score_61 : decode cX10_score 61 = .ok (.istore 6, 2) := by decide +kernel
theorem dX10_score_63 : decode cX10_score 63 = .ok (.iload_n 1, 1) := by decide +kernel
theorem dX10_score_64 : decode cX10_score 64 = .ok (.ifCond .ne 7, 3) := by decide +kernel
theorem dX10_score_67 : decode cX10_score 67 = .ok (.iload 5, 2) := by decide +kernel
theorem dX10_score_69 : decode cX10_score 69 = .ok (.ineg, 1) := by decide +kernel
theorem dX10_score_70 : decode cX10_score 70 = .ok (.ireturn, 1) := by decide +kernel
theorem dX10_score_71 : decode cX10_score 71 = .ok (.iload_n 1, 1) := by decide +kernel
theorem dX10_score_72 : decode cX10_score 72 = .ok (.iconst 1, 1) := by decide +kernel
theorem dX10_score_73 : decode cX10_score 73 = .ok (.if_icmp .ne 8, 3) := by decide +kernel
theorem dX10_score_76 : decode cX10_score 76 = .ok (.iload 6, 2) := by decide +kernel
theorem dX10_score_78 : decode cX10_score 78 = .ok (.goto 8, 3) := by decide +kernel
theorem dX10_score_81 : decode cX10_score 81 = .ok (.iload 6, 2) := by decide +kernel
theorem dX10_score_83 : decode cX10_score 83 = .ok (.iload 5, 2) := by decide +kernel
theorem dX10_score_85 : decode cX10_score 85 = .ok (.isub, 1) := by decide +kernel
theorem dX10_score_86 : decode cX10_score 86 = .ok (.ireturn, 1) := by decide +kernel
theorem dX10_choose_0 : decode cX10_choose 0 = .ok (.iconst 0, 1) := by decide +kernel
theorem dX10_choose_1 : decode cX10_choose 1 = .ok (.istore 4, 2) := by decide +kernel
theorem dX10_choose_3 : decode cX10_choose 3 = .ok (.ldc 60, 2) := by decide +kernel
theorem dX10_choose_5 : decode cX10_choose 5 = .ok (.istore 5, 2) := by decide +kernel
theorem dX10_choose_7 : decode cX10_choose 7 = .ok (.iload_n 2, 1) := by decide +kernel
theorem dX10_choose_8 : decode cX10_choose 8 = .ok (.istore 6, 2) := by decide +kernel
theorem dX10_choose_10 : decode cX10_choose 10 = .ok (.iconst 0, 1) := by decide +kernel
theorem dX10_choose_11 : decode cX10_choose 11 = .ok (.istore 7, 2) := by decide +kernel
theorem dX10_choose_13 : decode cX10_choose 13 = .ok (.iload 7, 2) := by decide +kernel
theorem dX10_choose_15 : decode cX10_choose 15 = .ok (.aload_n 0, 1) := by decide +kernel
theorem dX10_choose_16 : decode cX10_choose 16 = .ok (.getfield 28, 3) := by decide +kernel
theorem dX10_choose_19 : decode cX10_choose 19 = .ok (.if_icmp .ge 65, 3) := by decide +kernel
theorem dX10_choose_22 : decode cX10_choose 22 = .ok (.iload 6, 2) := by decide +kernel
theorem dX10_choose_24 : decode cX10_choose 24 = .ok (.ifCond .le 60, 3) := by decide +kernel
theorem dX10_choose_27 : decode cX10_choose 27 = .ok (.iload_n 3, 1) := by decide +kernel
theorem dX10_choose_28 : decode cX10_choose 28 = .ok (.iload 7, 2) := by decide +kernel
theorem dX10_choose_30 : decode cX10_choose 30 = .ok (.ishr, 1) := by decide +kernel
theorem dX10_choose_31 : decode cX10_choose 31 = .ok (.iconst 1, 1) := by decide +kernel
theorem dX10_choose_32 : decode cX10_choose 32 = .ok (.iand, 1) := by decide +kernel
theorem dX10_choose_33 : decode cX10_choose 33 = .ok (.ifCond .ne 45, 3) := by decide +kernel
theorem dX10_choose_36 : decode cX10_choose 36 = .ok (.aload_n 0, 1) := by decide +kernel
theorem dX10_choose_37 : decode cX10_choose 37 = .ok (.getfield 15, 3) := by decide +kernel
theorem dX10_choose_40 : decode cX10_choose 40 = .ok (.iload 7, 2) := by decide +kernel
theorem dX10_choose_42 : decode cX10_choose 42 = .ok (.iaload, 1) := by decide +kernel
theorem dX10_choose_43 : decode cX10_choose 43 = .ok (.iload_n 3, 1) := by decide +kernel
theorem dX10_choose_44 : decode cX10_choose 44 = .ok (.iconst (-1), 1) := by decide +kernel
theorem dX10_choose_45 : decode cX10_choose 45 = .ok (.ixor, 1) := by decide +kernel
theorem dX10_choose_46 : decode cX10_choose 46 = .ok (.iand, 1) := by decide +kernel
theorem dX10_choose_47 : decode cX10_choose 47 = .ok (.ifCond .ne 31, 3) := by decide +kernel
theorem dX10_choose_50 : decode cX10_choose 50 = .ok (.iinc 6 (-1), 3) := by decide +kernel
theorem dX10_choose_53 : decode cX10_choose 53 = .ok (.aload_n 0, 1) := by decide +kernel
theorem dX10_choose_54 : decode cX10_choose 54 = .ok (.iload_n 1, 1) := by decide +kernel
theorem dX10_choose_55 : decode cX10_choose 55 = .ok (.iload 7, 2) := by decide +kernel
theorem dX10_choose_57 : decode cX10_choose 57 = .ok (.iload_n 3, 1) := by decide +kernel
theorem dX10_choose_58 : decode cX10_choose 58 = .ok (.invokevirtual 61, 3) := by decide +kernel
theorem dX10_choose_61 : decode cX10_choose 61 = .ok (.istore 8, 2) := by decide +kernel
theorem dX10_choose_63 : decode cX10_choose 63 = .ok (.iload 8, 2) := by decide +kernel
theorem dX10_choose_65 : decode cX10_choose 65 = .ok (.iload 5, 2) := by decide +kernel
theorem dX10_choose_67 : decode cX10_choose 67 = .ok (.if_icmp .ge 11, 3) := by decide +kernel
theorem dX10_choose_70 : decode cX10_choose 70 = .ok (.iload 8, 2) := by decide +kernel
theorem dX10_choose_72 : decode cX10_choose 72 = .ok (.istore 5, 2) := by decide +kernel
theorem dX10_choose_74 : decode cX10_choose 74 = .ok (.iload 7, 2) := by decide +kernel
theorem dX10_choose_76 : decode cX10_choose 76 = .ok (.istore 4, 2) := by decide +kernel
theorem dX10_choose_78 : decode cX10_choose 78 = .ok (.iinc 7 1, 3) := by decide +kernel
theorem dX10_choose_81 : decode cX10_choose 81 = .ok (.goto (-68), 3) := by decide +kernel
theorem dX10_choose_84 : decode cX10_choose 84 = .ok (.iload 4, 2) := by decide +kernel
theorem dX10_choose_86 : decode cX10_choose 86 = .ok (.ireturn, 1) := by decide +kernel
theorem dX11_faulted_0 : decode cX11_faulted 0 = .ok (.aload_n 0, 1) := by decide +kernel
theorem dX11_faulted_1 : decode cX11_faulted 1 = .ok (.iload_n 1, 1) := by decide +kernel
theorem dX11_faulted_2 : decode cX11_faulted 2 = .ok (.putfield 94, 3) := by decide +kernel
theorem dX11_faulted_5 : decode cX11_faulted 5 = .ok (.bipush (-10), 2) := by decide +kernel
theorem dX11_faulted_7 : decode cX11_faulted 7 = .ok (.iload_n 1, 1) := by decide +kernel
theorem dX11_faulted_8 : decode cX11_faulted 8 = .ok (.isub, 1) := by decide +kernel
theorem dX11_faulted_9 : decode cX11_faulted 9 = .ok (.ireturn, 1) := by decide +kernel
theorem dX11_isLane_0 : decode cX11_isLane 0 = .ok (.iload_n 0, 1) := by decide +kernel
theorem dX11_isLane_1 : decode cX11_isLane 1 = .ok (.ifCond .lt 12, 3) := by decide +kernel
theorem dX11_isLane_4 : decode cX11_isLane 4 = .ok (.iload_n 0, 1) := by decide +kernel
theorem dX11_isLane_5 : decode cX11_isLane 5 = .ok (.iconst 3, 1) := by decide +kernel
theorem dX11_isLane_6 : decode cX11_isLane 6 = .ok (.if_icmp .ge 7, 3) := by decide +kernel
theorem dX11_isLane_9 : decode cX11_isLane 9 = .ok (.iconst 1, 1) := by decide +kernel
theorem dX11_isLane_10 : decode cX11_isLane 10 = .ok (.goto 4, 3) := by decide +kernel
theorem dX11_isLane_13 : decode cX11_isLane 13 = .ok (.iconst 0, 1) := by decide +kernel
theorem dX11_isLane_14 : decode cX11_isLane 14 = .ok (.ireturn, 1) := by decide +kernel
theorem dX11_isSheet_0 : decode cX11_isSheet 0 = .ok (.iload_n 0, 1) := by decide +kernel
theorem dX11_isSheet_1 : decode cX11_isSheet 1 = .ok (.ifCond .lt 12, 3) := by decide +kernel
theorem dX11_isSheet_4 : decode cX11_isSheet 4 = .ok (.iload_n 0, 1) := by decide +kernel
theorem dX11_isSheet_5 : decode cX11_isSheet 5 = .ok (.iconst 4, 1) := by decide +kernel
theorem dX11_isSheet_6 : decode cX11_isSheet 6 = .ok (.if_icmp .ge 7, 3) := by decide +kernel
theorem dX11_isSheet_9 : decode cX11_isSheet 9 = .ok (.iconst 1, 1) := by decide +kernel
theorem dX11_isSheet_10 : decode cX11_isSheet 10 = .ok (.goto 4, 3) := by decide +kernel
theorem dX11_isSheet_13 : decode cX11_isSheet 13 = .ok (.iconst 0, 1) := by decide +kernel
theorem dX11_isSheet_14 : decode cX11_isSheet 14 = .ok (.ireturn, 1) := by decide +kernel
theorem dX11_shop_0 : decode cX11_shop 0 = .ok (.aload_n 0, 1) := by decide +kernel
theorem dX11_shop_1 : decode cX11_shop 1 = .ok (.iconst 0, 1) := by decide +kernel
theorem dX11_shop_2 : decode cX11_shop 2 = .ok (.putfield 94, 3) := by decide +kernel
theorem dX11_shop_5 : decode cX11_shop 5 = .ok (.iload_n 1, 1) := by decide +kernel
theorem dX11_shop_6 : decode cX11_shop 6 = .ok (.invokestatic 98, 3) := by decide +kernel
theorem dX11_shop_9 : decode cX11_shop 9 = .ok (.ifCond .ne 5, 3) := by decide +kernel
theorem dX11_shop_12 : decode cX11_shop 12 = .ok (.iconst (-1), 1) := by decide +kernel
theorem dX11_shop_13 : decode cX11_shop 13 = .ok (.ireturn, 1) := by decide +kernel
theorem dX11_shop_14 : decode cX11_shop 14 = .ok (.iload_n 2, 1) := by decide +kernel
theorem dX11_shop_15 : decode cX11_shop 15 = .ok (.invokestatic 102, 3) := by decide +kernel
theorem dX11_shop_18 : decode cX11_shop 18 = .ok (.ifCond .ne 6, 3) := by decide +kernel
theorem dX11_shop_21 : decode cX11_shop 21 = .ok (.bipush (-2), 2) := by decide +kernel
theorem dX11_shop_23 : decode cX11_shop 23 = .ok (.ireturn, 1) := by decide +kernel
theorem dX11_shop_24 : decode cX11_shop 24 = .ok (.aload_n 0, 1) := by decide +kernel
theorem dX11_shop_25 : decode cX11_shop 25 = .ok (.getfield 14, 3) := by decide +kernel
theorem dX11_shop_28 : decode cX11_shop 28 = .ok (.iload_n 1, 1) := by decide +kernel
theorem dX11_shop_29 : decode cX11_shop 29 = .ok (.iload_n 2, 1) := by decide +kernel
theorem dX11_shop_30 : decode cX11_shop 30 = .ok (.iload_n 3, 1) := by decide +kernel
theorem dX11_shop_31 : decode cX11_shop 31 = .ok (.iload 4, 2) := by decide +kernel
theorem dX11_shop_33 : decode cX11_shop 33 = .ok (.invokevirtual 105, 3) := by decide +kernel
theorem dX11_shop_36 : decode cX11_shop 36 = .ok (.istore 5, 2) := by decide +kernel
theorem dX11_shop_38 : decode cX11_shop 38 = .ok (.iload 5, 2) := by decide +kernel
theorem dX11_shop_40 : decode cX11_shop 40 = .ok (.ifCond .eq 10, 3) := by decide +kernel
theorem dX11_shop_43 : decode cX11_shop 43 = .ok (.aload_n 0, 1) := by decide +kernel
theorem dX11_shop_44 : decode cX11_shop 44 = .ok (.iload 5, 2) := by decide +kernel
theorem dX11_shop_46 : decode cX11_shop 46 = .ok (.invokevirtual 109, 3) := by decide +kernel
theorem dX11_shop_49 : decode cX11_shop 49 = .ok (.ireturn, 1) := by decide +kernel
theorem dX11_shop_50 : decode cX11_shop 50 = .ok (.aload_n 0, 1) := by decide +kernel
theorem dX11_shop_51 : decode cX11_shop 51 = .ok (.getfield 21, 3) := by decide +kernel
theorem dX11_shop_54 : decode cX11_shop 54 = .ok (.aload_n 0, 1) := by decide +kernel
theorem dX11_shop_55 : decode cX11_shop 55 = .ok (.getfield 14, 3) := by decide +kernel
theorem dX11_shop_58 : decode cX11_shop 58 = .ok (.getfield 113, 3) := by decide +kernel
theorem dX11_shop_61 : decode cX11_shop 61 = .ok (.iload_n 1, 1) := by decide +kernel
theorem dX11_shop_62 : decode cX11_shop 62 = .ok (.aaload, 1) := by decide +kernel
theorem dX11_shop_63 : decode cX11_shop 63 = .ok (.iload_n 3, 1) := by decide +kernel
theorem dX11_shop_64 : decode cX11_shop 64 = .ok (.iload 4, 2) := by decide +kernel
theorem dX11_shop_66 : decode cX11_shop 66 = .ok (.invokevirtual 117, 3) := by decide +kernel
theorem dX11_shop_69 : decode cX11_shop 69 = .ok (.istore 6, 2) := by decide +kernel
theorem dX11_shop_71 : decode cX11_shop 71 = .ok (.iload 6, 2) := by decide +kernel
theorem dX11_shop_73 : decode cX11_shop 73 = .ok (.ifCond .lt 9, 3) := by decide +kernel
theorem dX11_shop_76 : decode cX11_shop 76 = .ok (.bipush (-100), 2) := by decide +kernel
theorem dX11_shop_78 : decode cX11_shop 78 = .ok (.iload 6, 2) := by decide +kernel
theorem dX11_shop_80 : decode cX11_shop 80 = .ok (.isub, 1) := by decide +kernel
theorem dX11_shop_81 : decode cX11_shop 81 = .ok (.ireturn, 1) := by decide +kernel
theorem dX11_shop_82 : decode cX11_shop 82 = .ok (.aload_n 0, 1) := by decide +kernel
theorem dX11_shop_83 : decode cX11_shop 83 = .ok (.getfield 28, 3) := by decide +kernel
theorem dX11_shop_86 : decode cX11_shop 86 = .ok (.aload_n 0, 1) := by decide +kernel
theorem dX11_shop_87 : decode cX11_shop 87 = .ok (.getfield 21, 3) := by decide +kernel
theorem dX11_shop_90 : decode cX11_shop 90 = .ok (.invokevirtual 121, 3) := by decide +kernel
theorem dX11_shop_93 : decode cX11_shop 93 = .ok (.aload_n 0, 1) := by decide +kernel
theorem dX11_shop_94 : decode cX11_shop 94 = .ok (.getfield 35, 3) := by decide +kernel
theorem dX11_shop_97 : decode cX11_shop 97 = .ok (.iconst 0, 1) := by decide +kernel
theorem dX11_shop_98 : decode cX11_shop 98 = .ok (.putfield 125, 3) := by decide +kernel
theorem dX11_shop_101 : decode cX11_shop 101 = .ok (.aload_n 0, 1) := by decide +kernel
theorem dX11_shop_102 : decode cX11_shop 102 = .ok (.getfield 28, 3) := by decide +kernel
theorem dX11_shop_105 : decode cX11_shop 105 = .ok (.getfield 128, 3) := by decide +kernel
theorem dX11_shop_108 : decode cX11_shop 108 = .ok (.ireturn, 1) := by decide +kernel
theorem dX11_work_0 : decode cX11_work 0 = .ok (.iload_n 1, 1) := by decide +kernel
theorem dX11_work_1 : decode cX11_work 1 = .ok (.ifCond .lt 25, 3) := by decide +kernel
theorem dX11_work_4 : decode cX11_work 4 = .ok (.iload_n 1, 1) := by decide +kernel
theorem dX11_work_5 : decode cX11_work 5 = .ok (.sipush 1024, 3) := by decide +kernel
theorem dX11_work_8 : decode cX11_work 8 = .ok (.if_icmp .ge 18, 3) := by decide +kernel
theorem dX11_work_11 : decode cX11_work 11 = .ok (.iload_n 2, 1) := by decide +kernel
theorem dX11_work_12 : decode cX11_work 12 = .ok (.ifCond .lt 14, 3) := by decide +kernel
theorem dX11_work_15 : decode cX11_work 15 = .ok (.iload_n 2, 1) := by decide +kernel
theorem dX11_work_16 : decode cX11_work 16 = .ok (.aload_n 0, 1) := by decide +kernel
theorem dX11_work_17 : decode cX11_work 17 = .ok (.getfield 28, 3) := by decide +kernel
theorem dX11_work_20 : decode cX11_work 20 = .ok (.invokevirtual 129, 3) := by decide +kernel
theorem dX11_work_23 : decode cX11_work 23 = .ok (.if_icmp .le 6, 3) := by decide +kernel
theorem dX11_work_26 : decode cX11_work 26 = .ok (.bipush (-2), 2) := by decide +kernel
theorem dX11_work_28 : decode cX11_work 28 = .ok (.ireturn, 1) := by decide +kernel
theorem dX11_work_29 : decode cX11_work 29 = .ok (.aload_n 0, 1) := by decide +kernel
theorem dX11_work_30 : decode cX11_work 30 = .ok (.getfield 28, 3) := by decide +kernel
theorem dX11_work_33 : decode cX11_work 33 = .ok (.getfield 128, 3) := by decide +kernel
theorem dX11_work_36 : decode cX11_work 36 = .ok (.bipush 9, 2) := by decide +kernel
theorem dX11_work_38 : decode cX11_work 38 = .ok (.if_icmp .lt 6, 3) := by decide +kernel
theorem dX11_work_41 : decode cX11_work 41 = .ok (.bipush (-4), 2) := by decide +kernel
theorem dX11_work_43 : decode cX11_work 43 = .ok (.ireturn, 1) := by decide +kernel
theorem dX11_work_44 : decode cX11_work 44 = .ok (.aload_n 0, 1) := by decide +kernel
theorem dX11_work_45 : decode cX11_work 45 = .ok (.getfield 28, 3) := by decide +kernel
theorem dX11_work_48 : decode cX11_work 48 = .ok (.iload_n 1, 1) := by decide +kernel
theorem dX11_work_49 : decode cX11_work 49 = .ok (.iload_n 2, 1) := by decide +kernel
theorem dX11_work_50 : decode cX11_work 50 = .ok (.invokevirtual 133, 3) := by decide +kernel
theorem dX11_work_53 : decode cX11_work 53 = .ok (.aload_n 0, 1) := by decide +kernel
theorem dX11_work_54 : decode cX11_work 54 = .ok (.getfield 35, 3) := by decide +kernel
theorem dX11_work_57 : decode cX11_work 57 = .ok (.iconst 0, 1) := by decide +kernel
theorem dX11_work_58 : decode cX11_work 58 = .ok (.putfield 125, 3) := by decide +kernel
theorem dX11_work_61 : decode cX11_work 61 = .ok (.aload_n 0, 1) := by decide +kernel
theorem dX11_work_62 : decode cX11_work 62 = .ok (.getfield 28, 3) := by decide +kernel
theorem dX11_work_65 : decode cX11_work 65 = .ok (.getfield 128, 3) := by decide +kernel
theorem dX11_work_68 : decode cX11_work 68 = .ok (.iconst 1, 1) := by decide +kernel
theorem dX11_work_69 : decode cX11_work 69 = .ok (.isub, 1) := by decide +kernel
theorem dX11_work_70 : decode cX11_work 70 = .ok (.ireturn, 1) := by decide +kernel
theorem dX11_ofWork_0 : decode cX11_ofWork 0 = .ok (.aload_n 0, 1) := by decide +kernel
theorem dX11_ofWork_1 : decode cX11_ofWork 1 = .ok (.getfield 28, 3) := by decide +kernel
theorem dX11_ofWork_4 : decode cX11_ofWork 4 = .ok (.iload_n 1, 1) := by decide +kernel
theorem dX11_ofWork_5 : decode cX11_ofWork 5 = .ok (.invokevirtual 137, 3) := by decide +kernel
theorem dX11_ofWork_8 : decode cX11_ofWork 8 = .ok (.ifCond .ne 5, 3) := by decide +kernel
theorem dX11_ofWork_11 : decode cX11_ofWork 11 = .ok (.iconst (-1), 1) := by decide +kernel
theorem dX11_ofWork_12 : decode cX11_ofWork 12 = .ok (.ireturn, 1) := by decide +kernel
theorem dX11_ofWork_13 : decode cX11_ofWork 13 = .ok (.iload_n 2, 1) := by decide +kernel
theorem dX11_ofWork_14 : decode cX11_ofWork 14 = .ok (.ifCond .ne 13, 3) := by decide +kernel
theorem dX11_ofWork_17 : decode cX11_ofWork 17 = .ok (.aload_n 0, 1) := by decide +kernel
theorem dX11_ofWork_18 : decode cX11_ofWork 18 = .ok (.getfield 28, 3) := by decide +kernel
theorem dX11_ofWork_21 : decode cX11_ofWork 21 = .ok (.getfield 140, 3) := by decide +kernel
theorem dX11_ofWork_24 : decode cX11_ofWork 24 = .ok (.iload_n 1, 1) := by decide +kernel
theorem dX11_ofWork_25 : decode cX11_ofWork 25 = .ok (.iaload, 1) := by decide +kernel
theorem dX11_ofWork_26 : decode cX11_ofWork 26 = .ok (.ireturn, 1) := by decide +kernel
theorem dX11_ofWork_27 : decode cX11_ofWork 27 = .ok (.iload_n 2, 1) := by decide +kernel
theorem dX11_ofWork_28 : decode cX11_ofWork 28 = .ok (.iconst 1, 1) := by decide +kernel
theorem dX11_ofWork_29 : decode cX11_ofWork 29 = .ok (.if_icmp .ne 15, 3) := by decide +kernel
theorem dX11_ofWork_32 : decode cX11_ofWork 32 = .ok (.aload_n 0, 1) := by decide +kernel
theorem dX11_ofWork_33 : decode cX11_ofWork 33 = .ok (.getfield 28, 3) := by decide +kernel
theorem dX11_ofWork_36 : decode cX11_ofWork 36 = .ok (.getfield 143, 3) := by decide +kernel
theorem dX11_ofWork_39 : decode cX11_ofWork 39 = .ok (.iload_n 1, 1) := by decide +kernel
theorem dX11_ofWork_40 : decode cX11_ofWork 40 = .ok (.iaload, 1) := by decide +kernel
theorem dX11_ofWork_41 : decode cX11_ofWork 41 = .ok (.goto 5, 3) := by decide +kernel
theorem dX11_ofWork_44 : decode cX11_ofWork 44 = .ok (.bipush (-2), 2) := by decide +kernel
theorem dX11_ofWork_46 : decode cX11_ofWork 46 = .ok (.ireturn, 1) := by decide +kernel
theorem dX11_before_0 : decode cX11_before 0 = .ok (.aload_n 0, 1) := by decide +kernel
theorem dX11_before_1 : decode cX11_before 1 = .ok (.getfield 28, 3) := by decide +kernel
theorem dX11_before_4 : decode cX11_before 4 = .ok (.iload_n 1, 1) := by decide +kernel
theorem dX11_before_5 : decode cX11_before 5 = .ok (.invokevirtual 137, 3) := by decide +kernel
theorem dX11_before_8 : decode cX11_before 8 = .ok (.ifCond .eq 14, 3) := by decide +kernel
theorem dX11_before_11 : decode cX11_before 11 = .ok (.aload_n 0, 1) := by decide +kernel
theorem dX11_before_12 : decode cX11_before 12 = .ok (.getfield 28, 3) := by decide +kernel
theorem dX11_before_15 : decode cX11_before 15 = .ok (.iload_n 2, 1) := by decide +kernel
theorem dX11_before_16 : decode cX11_before 16 = .ok (.invokevirtual 137, 3) := by decide +kernel
theorem dX11_before_19 : decode cX11_before 19 = .ok (.ifCond .ne 5, 3) := by decide +kernel
theorem dX11_before_22 : decode cX11_before 22 = .ok (.iconst (-1), 1) := by decide +kernel
theorem dX11_before_23 : decode cX11_before 23 = .ok (.ireturn, 1) := by decide +kernel
theorem dX11_before_24 : decode cX11_before 24 = .ok (.iload_n 1, 1) := by decide +kernel
theorem dX11_before_25 : decode cX11_before 25 = .ok (.iload_n 2, 1) := by decide +kernel
theorem dX11_before_26 : decode cX11_before 26 = .ok (.if_icmp .ne 6, 3) := by decide +kernel
theorem dX11_before_29 : decode cX11_before 29 = .ok (.bipush (-2), 2) := by decide +kernel
theorem dX11_before_31 : decode cX11_before 31 = .ok (.ireturn, 1) := by decide +kernel
theorem dX11_before_32 : decode cX11_before 32 = .ok (.aload_n 0, 1) := by decide +kernel
theorem dX11_before_33 : decode cX11_before 33 = .ok (.getfield 28, 3) := by decide +kernel
theorem dX11_before_36 : decode cX11_before 36 = .ok (.iload_n 1, 1) := by decide +kernel
theorem dX11_before_37 : decode cX11_before 37 = .ok (.iload_n 2, 1) := by decide +kernel
theorem dX11_before_38 : decode cX11_before 38 = .ok (.invokevirtual 146, 3) := by decide +kernel
theorem dX11_before_41 : decode cX11_before 41 = .ok (.iload_n 3, 1) := by decide +kernel
theorem dX11_before_42 : decode cX11_before 42 = .ok (.if_icmp .ne 5, 3) := by decide +kernel
theorem dX11_before_45 : decode cX11_before 45 = .ok (.iconst 0, 1) := by decide +kernel
theorem dX11_before_46 : decode cX11_before 46 = .ok (.ireturn, 1) := by decide +kernel
theorem dX11_before_47 : decode cX11_before 47 = .ok (.iload_n 3, 1) := by decide +kernel
theorem dX11_before_48 : decode cX11_before 48 = .ok (.ifCond .eq 18, 3) := by decide +kernel
theorem dX11_before_51 : decode cX11_before 51 = .ok (.aload_n 0, 1) := by decide +kernel
theorem dX11_before_52 : decode cX11_before 52 = .ok (.getfield 28, 3) := by decide +kernel
theorem dX11_before_55 : decode cX11_before 55 = .ok (.iload_n 2, 1) := by decide +kernel
theorem dX11_before_56 : decode cX11_before 56 = .ok (.iload_n 1, 1) := by decide +kernel
theorem dX11_before_57 : decode cX11_before 57 = .ok (.invokevirtual 150, 3) := by decide +kernel
theorem dX11_before_60 : decode cX11_before 60 = .ok (.ifCond .eq 6, 3) := by decide +kernel
theorem dX11_before_63 : decode cX11_before 63 = .ok (.bipush (-3), 2) := by decide +kernel
theorem dX11_before_65 : decode cX11_before 65 = .ok (.ireturn, 1) := by decide +kernel
theorem dX11_before_66 : decode cX11_before 66 = .ok (.aload_n 0, 1) := by decide +kernel
theorem dX11_before_67 : decode cX11_before 67 = .ok (.getfield 28, 3) := by decide +kernel
theorem dX11_before_70 : decode cX11_before 70 = .ok (.iload_n 1, 1) := by decide +kernel
theorem dX11_before_71 : decode cX11_before 71 = .ok (.iload_n 2, 1) := by decide +kernel
theorem dX11_before_72 : decode cX11_before 72 = .ok (.invokevirtual 153, 3) := by decide +kernel
theorem dX11_before_75 : decode cX11_before 75 = .ok (.iconst 1, 1) := by decide +kernel
theorem dX11_before_76 : decode cX11_before 76 = .ok (.ireturn, 1) := by decide +kernel
abbrev rm_X7_cellFault : Room := { frames := 1, cells := 0, slots := 0, locals := 22 }
def T_X7_cellFault_30 (post : Int32 → Mem → Prop) (μ : Mem) : Prop :=
  post 3 μ
theorem v_X7_cellFault_30 {X : Cx} {w : Wd} {l : Launch} {D : va_G} {A : Nat → Prop} (g : Gd X w RX7 cX7_cellFault 5 rm_X7_cellFault) (hX : atX X l D A) (post : Int32 → Mem → Prop) (hR : Rt X w shX 58 (some .int) (pI post)) (μ : Mem) (h : T_X7_cellFault_30 post μ) : V X 30 [] [] (wls w shX 58 μ) := by
  refine r_iconst (pc := 30) g dX7_cellFault_30 ci_3 ?_
  refine r_goto (pc := 31) 35 g dX7_cellFault_31 rfl ?_
  exact r_ireti (pc := 35) g hR dX7_cellFault_35 h
def T_X7_cellFault (x1 : Int32) (x2 : Int32) (x3 : Int32) (μ : Mem) (post : Int32 → Mem → Prop) : Prop :=
  T_X7_rowFault x1 x2 μ (fun (u1 : Int32) (μ2 : Mem) => ((u1 = 0 → ((x3 < 0 → T_X7_cellFault_30 post μ2) ∧ (¬ x3 < 0 → vp_in x1 4 ∧ ((x3 < (μ2 4 x1.toNatClampNeg) → post 0 μ2) ∧ (¬ x3 < (μ2 4 x1.toNatClampNeg) → T_X7_cellFault_30 post μ2))))) ∧ (¬ u1 = 0 → post u1 μ2)))
theorem m_X7_cellFault {w : Wd} {l : Launch} {D : va_G} {A : Nat → Prop} (x1 : Int32) (x2 : Int32) (x3 : Int32) (μ : Mem) (post : Int32 → Mem → Prop) (h : T_X7_cellFault x1 x2 x3 μ post) : MetX l D A w shX 58 yX7_cellFault cX7_cellFault 5 (some .int) rm_X7_cellFault [.ref (w.1 1), .int x1, .int x2, .int x3] μ (pI post) := by
  refine metX_of (by decide) rfl (lv := [(0, .ref (w.1 1)), (1, .int x1), (2, .int x2), (3, .int x3)]) rfl (fun X hX g hR => ?_)
  refine r_aload_n (pc := 0) 0 g dX7_cellFault_0 rfl ?_
  refine r_iload_n (pc := 1) 1 g dX7_cellFault_1 rfl ?_
  refine r_iload_n (pc := 2) 2 g dX7_cellFault_2 rfl ?_
  refine r_callVi (pc := 3) (st := []) g hX dX7_cellFault_3 (m_X7_rowFault x1 x2 μ _ h) kb_RX7_23 kv_X7_rowFault shX_out sX_1 rfl rfl rfl rfl (fun u1 μ2 h => ?_)
  refine r_istore (pc := 6) (lv' := [(4, .int u1), (0, .ref (w.1 1)), (1, .int x1), (2, .int x2), (3, .int x3)]) g dX7_cellFault_6 rfl rfl ?_
  refine r_iload (pc := 8) 0 g dX7_cellFault_8 rfl ?_
  refine r_if_eq (pc := 10) 16 g dX7_cellFault_10 rfl (fun q => ?_) (fun q => ?_)
  · have h := h.1 q
    refine r_iload_n (pc := 16) 4 g dX7_cellFault_16 rfl ?_
    refine r_if_lt (pc := 17) 30 g dX7_cellFault_17 rfl (fun q => ?_) (fun q => ?_)
    · have h := h.1 q
      refine r_sub [] (lv' := []) rfl ?_
      exact v_X7_cellFault_30 g hX post hR μ2 h
    · have h := h.2 q
      refine r_iload_n (pc := 20) 4 g dX7_cellFault_20 rfl ?_
      refine r_aload_n (pc := 21) 1 g dX7_cellFault_21 rfl ?_
      refine r_getr (pc := 22) (μ := μ2) g dX7_cellFault_22 fa_RX7_20 shX_out sX_1 rfl ?_
      refine r_iload_n (pc := 25) 2 g dX7_cellFault_25 rfl ?_
      obtain ⟨b3, h⟩ := h
      refine r_iaload (pc := 26) (μ := μ2) g dX7_cellFault_26 shX_out sX_4 b3 ?_
      refine r_icmp_lt (pc := 27) 34 g dX7_cellFault_27 rfl (fun q => ?_) (fun q => ?_)
      · have h := h.1 q
        refine r_iconst (pc := 34) g dX7_cellFault_34 ci_0 ?_
        exact r_ireti (pc := 35) g hR dX7_cellFault_35 h
      · have h := h.2 q
        refine r_sub [] (lv' := []) rfl ?_
        exact v_X7_cellFault_30 g hX post hR μ2 h
  · have h := h.2 q
    refine r_iload (pc := 13) 0 g dX7_cellFault_13 rfl ?_
    exact r_ireti (pc := 15) g hR dX7_cellFault_15 h
abbrev rm_X7_cellsFault : Room := { frames := 1, cells := 0, slots := 0, locals := 22 }
def T_X7_cellsFault_50 (post : Int32 → Mem → Prop) (μ : Mem) : Prop :=
  post 3 μ
theorem v_X7_cellsFault_50 {X : Cx} {w : Wd} {l : Launch} {D : va_G} {A : Nat → Prop} (g : Gd X w RX7 cX7_cellsFault 6 rm_X7_cellsFault) (hX : atX X l D A) (post : Int32 → Mem → Prop) (hR : Rt X w shX 58 (some .int) (pI post)) (μ : Mem) (h : T_X7_cellsFault_50 post μ) : V X 50 [] [] (wls w shX 58 μ) := by
  refine r_iconst (pc := 50) g dX7_cellsFault_50 ci_3 ?_
  refine r_goto (pc := 51) 55 g dX7_cellsFault_51 rfl ?_
  exact r_ireti (pc := 55) g hR dX7_cellsFault_55 h
def T_X7_cellsFault (x1 : Int32) (x2 : Int32) (x3 : Int32) (x4 : Int32) (μ : Mem) (post : Int32 → Mem → Prop) : Prop :=
  T_X7_rowFault x1 x2 μ (fun (u1 : Int32) (μ2 : Mem) => ((u1 = 0 → ((0 ≤ x4 → ((x3 < 0 → T_X7_cellsFault_50 post μ2) ∧ (¬ x3 < 0 → vp_in x1 4 ∧ (((μ2 4 x1.toNatClampNeg) < x3 → T_X7_cellsFault_50 post μ2) ∧ (¬ (μ2 4 x1.toNatClampNeg) < x3 → vp_in x1 4 ∧ ((x4 ≤ ((μ2 4 x1.toNatClampNeg) - x3) → post 0 μ2) ∧ (¬ x4 ≤ ((μ2 4 x1.toNatClampNeg) - x3) → T_X7_cellsFault_50 post μ2))))))) ∧ (¬ 0 ≤ x4 → post 4 μ2))) ∧ (¬ u1 = 0 → post u1 μ2)))
theorem m_X7_cellsFault {w : Wd} {l : Launch} {D : va_G} {A : Nat → Prop} (x1 : Int32) (x2 : Int32) (x3 : Int32) (x4 : Int32) (μ : Mem) (post : Int32 → Mem → Prop) (h : T_X7_cellsFault x1 x2 x3 x4 μ post) : MetX l D A w shX 58 yX7_cellsFault cX7_cellsFault 6 (some .int) rm_X7_cellsFault [.ref (w.1 1), .int x1, .int x2, .int x3, .int x4] μ (pI post) := by
  refine metX_of (by decide) rfl (lv := [(0, .ref (w.1 1)), (1, .int x1), (2, .int x2), (3, .int x3), (4, .int x4)]) rfl (fun X hX g hR => ?_)
  refine r_aload_n (pc := 0) 0 g dX7_cellsFault_0 rfl ?_
  refine r_iload_n (pc := 1) 1 g dX7_cellsFault_1 rfl ?_
  refine r_iload_n (pc := 2) 2 g dX7_cellsFault_2 rfl ?_
  refine r_callVi (pc := 3) (st := []) g hX dX7_cellsFault_3 (m_X7_rowFault x1 x2 μ _ h) kb_RX7_23 kv_X7_rowFault shX_out sX_1 rfl rfl rfl rfl (fun u1 μ2 h => ?_)
  refine r_istore (pc := 6) (lv' := [(5, .int u1), (0, .ref (w.1 1)), (1, .int x1), (2, .int x2), (3, .int x3), (4, .int x4)]) g dX7_cellsFault_6 rfl rfl ?_
  refine r_iload (pc := 8) 0 g dX7_cellsFault_8 rfl ?_
  refine r_if_eq (pc := 10) 16 g dX7_cellsFault_10 rfl (fun q => ?_) (fun q => ?_)
  · have h := h.1 q
    refine r_iload (pc := 16) 5 g dX7_cellsFault_16 rfl ?_
    refine r_if_ge (pc := 18) 23 g dX7_cellsFault_18 rfl (fun q => ?_) (fun q => ?_)
    · have h := h.1 q
      refine r_iload_n (pc := 23) 4 g dX7_cellsFault_23 rfl ?_
      refine r_if_lt (pc := 24) 50 g dX7_cellsFault_24 rfl (fun q => ?_) (fun q => ?_)
      · have h := h.1 q
        refine r_sub [] (lv' := []) rfl ?_
        exact v_X7_cellsFault_50 g hX post hR μ2 h
      · have h := h.2 q
        refine r_iload_n (pc := 27) 4 g dX7_cellsFault_27 rfl ?_
        refine r_aload_n (pc := 28) 1 g dX7_cellsFault_28 rfl ?_
        refine r_getr (pc := 29) (μ := μ2) g dX7_cellsFault_29 fa_RX7_20 shX_out sX_1 rfl ?_
        refine r_iload_n (pc := 32) 2 g dX7_cellsFault_32 rfl ?_
        obtain ⟨b3, h⟩ := h
        refine r_iaload (pc := 33) (μ := μ2) g dX7_cellsFault_33 shX_out sX_4 b3 ?_
        refine r_icmp_gt (pc := 34) 50 g dX7_cellsFault_34 rfl (fun q => ?_) (fun q => ?_)
        · have h := h.1 q
          refine r_sub [] (lv' := []) rfl ?_
          exact v_X7_cellsFault_50 g hX post hR μ2 h
        · have h := h.2 q
          refine r_iload (pc := 37) 5 g dX7_cellsFault_37 rfl ?_
          refine r_aload_n (pc := 39) 1 g dX7_cellsFault_39 rfl ?_
          refine r_getr (pc := 40) (μ := μ2) g dX7_cellsFault_40 fa_RX7_20 shX_out sX_1 rfl ?_
          refine r_iload_n (pc := 43) 2 g dX7_cellsFault_43 rfl ?_
          obtain ⟨b4, h⟩ := h
          refine r_iaload (pc := 44) (μ := μ2) g dX7_cellsFault_44 shX_out sX_4 b4 ?_
          refine r_iload_n (pc := 45) 4 g dX7_cellsFault_45 rfl ?_
          refine r_isub (pc := 46) g dX7_cellsFault_46 ?_
          refine r_icmp_le (pc := 47) 54 g dX7_cellsFault_47 rfl (fun q => ?_) (fun q => ?_)
          · have h := h.1 q
            refine r_iconst (pc := 54) g dX7_cellsFault_54 ci_0 ?_
            exact r_ireti (pc := 55) g hR dX7_cellsFault_55 h
          · have h := h.2 q
            refine r_sub [] (lv' := []) rfl ?_
            exact v_X7_cellsFault_50 g hX post hR μ2 h
    · have h := h.2 q
      refine r_iconst (pc := 21) g dX7_cellsFault_21 ci_4 ?_
      exact r_ireti (pc := 22) g hR dX7_cellsFault_22 h
  · have h := h.2 q
    refine r_iload (pc := 13) 0 g dX7_cellsFault_13 rfl ?_
    exact r_ireti (pc := 15) g hR dX7_cellsFault_15 h
abbrev rm_X8_divide : Room := { frames := 4, cells := 0, slots := 0, locals := 89 }
def B_X8_divide_22 (post : Mem → Prop) (P22 : Int32 → Int32 → Int32 → Int32 → Mem → Prop) (x1 : Int32) (x2 : Int32) (x3 : Int32) (x4 : Int32) (μ : Mem) : Prop :=
  ((x1 < x4 → post μ) ∧ (¬ x1 < x4 → ((x3 ≤ x2 → post μ) ∧ (¬ x3 ≤ x2 → T_X6_leastMost 41 x4 x3 μ (fun (u1 : Int32) (μ2 : Mem) => ((x3 ≤ u1 → P22 x1 x2 x3 (x4 + 2) μ2) ∧ (¬ x3 ≤ u1 → T_X6_leastMost 41 (x1 &&& (x4 ^^^ (-1))) x3 μ2 (fun (u3 : Int32) (μ4 : Mem) => ((x3 ≤ u3 → P22 x1 x2 x3 (x4 + 2) μ4) ∧ (¬ x3 ≤ u3 → P22 x1 x2 (if u1 < u3 then u3 else u1) (x4 + 2) (mset (mset (mset μ4 56 0 x4) 56 1 u1) 56 2 u3)))))))))))
def T_X8_divide_22 (post : Mem → Prop) (x1 : Int32) (x2 : Int32) (x3 : Int32) (x4 : Int32) (μ : Mem) : Prop :=
  ∀ P22 : Int32 → Int32 → Int32 → Int32 → Mem → Prop, (∀ (x1 : Int32) (x2 : Int32) (x3 : Int32) (x4 : Int32) (μ : Mem), B_X8_divide_22 post P22 x1 x2 x3 x4 μ → P22 x1 x2 x3 x4 μ) → P22 x1 x2 x3 x4 μ
theorem bv_X8_divide_22 {X : Cx} {w : Wd} {l : Launch} {D : va_G} {A : Nat → Prop} (g : Gd X w RX8 cX8_divide 7 rm_X8_divide) (hX : atX X l D A) (post : Mem → Prop) (hR : Rt X w shX 58 none (pV post)) (P22 : Int32 → Int32 → Int32 → Int32 → Mem → Prop) (hP22 : ∀ (x1 : Int32) (x2 : Int32) (x3 : Int32) (x4 : Int32) (μ : Mem), P22 x1 x2 x3 x4 μ → V X 22 [(0, .ref (w.1 56)), (1, .int x1), (2, .int x2), (3, .int x3), (4, .int x4)] [] (wls w shX 58 μ)) (x1 : Int32) (x2 : Int32) (x3 : Int32) (x4 : Int32) (μ : Mem) (h : B_X8_divide_22 post P22 x1 x2 x3 x4 μ) : V X 22 [(0, .ref (w.1 56)), (1, .int x1), (2, .int x2), (3, .int x3), (4, .int x4)] [] (wls w shX 58 μ) := by
  refine r_iload (pc := 22) 4 g dX8_divide_22 rfl ?_
  refine r_iload_n (pc := 24) 1 g dX8_divide_24 rfl ?_
  refine r_icmp_gt (pc := 25) 105 g dX8_divide_25 rfl (fun q => ?_) (fun q => ?_)
  · have h := h.1 q
    exact r_vretv (pc := 105) g hR dX8_divide_105 h
  · have h := h.2 q
    refine r_iload_n (pc := 28) 3 g dX8_divide_28 rfl ?_
    refine r_iload_n (pc := 29) 2 g dX8_divide_29 rfl ?_
    refine r_icmp_le (pc := 30) 105 g dX8_divide_30 rfl (fun q => ?_) (fun q => ?_)
    · have h := h.1 q
      exact r_vretv (pc := 105) g hR dX8_divide_105 h
    · have h := h.2 q
      refine r_aload_n (pc := 33) 0 g dX8_divide_33 rfl ?_
      refine r_getr (pc := 34) (μ := μ) g dX8_divide_34 fa_RX8_19 shX_out sX_56 rfl ?_
      refine r_iload (pc := 37) 4 g dX8_divide_37 rfl ?_
      refine r_iload_n (pc := 39) 3 g dX8_divide_39 rfl ?_
      refine r_callVi (pc := 40) (st := []) g hX dX8_divide_40 (m_X6_leastMost 41 (Or.inr rfl) x4 x3 μ _ h) kb_RX8_37 kv_X6_leastMost shX_out (sr_0 (Or.inr rfl)) rfl rfl rfl rfl (fun u1 μ2 h => ?_)
      refine r_istore (pc := 43) (lv' := [(5, .int u1), (0, .ref (w.1 56)), (1, .int x1), (2, .int x2), (3, .int x3), (4, .int x4)]) g dX8_divide_43 rfl rfl ?_
      refine r_iload (pc := 45) 0 g dX8_divide_45 rfl ?_
      refine r_iload_n (pc := 47) 4 g dX8_divide_47 rfl ?_
      refine r_icmp_ge (pc := 48) 99 g dX8_divide_48 rfl (fun q => ?_) (fun q => ?_)
      · have h := h.1 q
        refine r_iinc (pc := 99) (lv' := [(4, .int (x4 + 2)), (5, .int u1), (0, .ref (w.1 56)), (1, .int x1), (2, .int x2), (3, .int x3)]) 5 g dX8_divide_99 rfl ci_2 rfl rfl ?_
        refine r_goto (pc := 102) 22 g dX8_divide_102 rfl ?_
        refine r_sub [2, 3, 4, 5, 0] (lv' := [(0, .ref (w.1 56)), (1, .int x1), (2, .int x2), (3, .int x3), (4, .int (x4 + 2))]) rfl ?_
        exact hP22 x1 x2 x3 (x4 + 2) μ2 h
      · have h := h.2 q
        refine r_aload_n (pc := 51) 1 g dX8_divide_51 rfl ?_
        refine r_getr (pc := 52) (μ := μ2) g dX8_divide_52 fa_RX8_19 shX_out sX_56 rfl ?_
        refine r_iload_n (pc := 55) 2 g dX8_divide_55 rfl ?_
        refine r_iload (pc := 56) 5 g dX8_divide_56 rfl ?_
        refine r_iconst (pc := 58) g dX8_divide_58 ci_m1 ?_
        refine r_ixor (pc := 59) g dX8_divide_59 ?_
        refine r_iand (pc := 60) g dX8_divide_60 ?_
        refine r_iload_n (pc := 61) 4 g dX8_divide_61 rfl ?_
        refine r_callVi (pc := 62) (st := []) g hX dX8_divide_62 (m_X6_leastMost 41 (Or.inr rfl) (x1 &&& (x4 ^^^ (-1))) x3 μ2 _ h) kb_RX8_37 kv_X6_leastMost shX_out (sr_0 (Or.inr rfl)) rfl rfl rfl rfl (fun u3 μ4 h => ?_)
        refine r_istore (pc := 65) (lv' := [(6, .int u3), (5, .int u1), (0, .ref (w.1 56)), (1, .int x1), (2, .int x2), (3, .int x3), (4, .int x4)]) g dX8_divide_65 rfl rfl ?_
        refine r_iload (pc := 67) 0 g dX8_divide_67 rfl ?_
        refine r_iload_n (pc := 69) 5 g dX8_divide_69 rfl ?_
        refine r_icmp_ge (pc := 70) 99 g dX8_divide_70 rfl (fun q => ?_) (fun q => ?_)
        · have h := h.1 q
          refine r_iinc (pc := 99) (lv' := [(4, .int (x4 + 2)), (6, .int u3), (5, .int u1), (0, .ref (w.1 56)), (1, .int x1), (2, .int x2), (3, .int x3)]) 6 g dX8_divide_99 rfl ci_2 rfl rfl ?_
          refine r_goto (pc := 102) 22 g dX8_divide_102 rfl ?_
          refine r_sub [3, 4, 5, 6, 0] (lv' := [(0, .ref (w.1 56)), (1, .int x1), (2, .int x2), (3, .int x3), (4, .int (x4 + 2))]) rfl ?_
          exact hP22 x1 x2 x3 (x4 + 2) μ4 h
        · have h := h.2 q
          refine r_iload (pc := 73) 1 g dX8_divide_73 rfl ?_
          refine r_iload (pc := 75) 0 g dX8_divide_75 rfl ?_
          refine r_max (pc := 77) g dX8_divide_77 kj_RX8_43 ⟨rfl, rfl⟩ ?_
          refine r_istore_n (pc := 80) (lv' := [(3, .int (if u1 < u3 then u3 else u1)), (6, .int u3), (5, .int u1), (0, .ref (w.1 56)), (1, .int x1), (2, .int x2), (4, .int x4)]) g dX8_divide_80 rfl rfl ?_
          refine r_aload_n (pc := 81) 3 g dX8_divide_81 rfl ?_
          refine r_iload (pc := 82) 6 g dX8_divide_82 rfl ?_
          refine r_puti (pc := 84) (μ := μ4) g dX8_divide_84 fp_RX8_48 shX_out sX_56 rfl ?_
          refine r_aload_n (pc := 87) 3 g dX8_divide_87 rfl ?_
          refine r_iload (pc := 88) 2 g dX8_divide_88 rfl ?_
          refine r_puti (pc := 90) (μ := mset μ4 56 0 x4) g dX8_divide_90 fp_RX8_51 shX_out sX_56 rfl ?_
          refine r_aload_n (pc := 93) 3 g dX8_divide_93 rfl ?_
          refine r_iload (pc := 94) 1 g dX8_divide_94 rfl ?_
          refine r_puti (pc := 96) (μ := mset (mset μ4 56 0 x4) 56 1 u1) g dX8_divide_96 fp_RX8_54 shX_out sX_56 rfl ?_
          refine r_iinc (pc := 99) (lv' := [(4, .int (x4 + 2)), (3, .int (if u1 < u3 then u3 else u1)), (6, .int u3), (5, .int u1), (0, .ref (w.1 56)), (1, .int x1), (2, .int x2)]) 6 g dX8_divide_99 rfl ci_2 rfl rfl ?_
          refine r_goto (pc := 102) 22 g dX8_divide_102 rfl ?_
          refine r_sub [4, 5, 6, 1, 0] (lv' := [(0, .ref (w.1 56)), (1, .int x1), (2, .int x2), (3, .int (if u1 < u3 then u3 else u1)), (4, .int (x4 + 2))]) rfl ?_
          exact hP22 x1 x2 (if u1 < u3 then u3 else u1) (x4 + 2) (mset (mset (mset μ4 56 0 x4) 56 1 u1) 56 2 u3) h
theorem v_X8_divide_22 {X : Cx} {w : Wd} {l : Launch} {D : va_G} {A : Nat → Prop} (g : Gd X w RX8 cX8_divide 7 rm_X8_divide) (hX : atX X l D A) (post : Mem → Prop) (hR : Rt X w shX 58 none (pV post)) (x1 : Int32) (x2 : Int32) (x3 : Int32) (x4 : Int32) (μ : Mem) (h : T_X8_divide_22 post x1 x2 x3 x4 μ) : V X 22 [(0, .ref (w.1 56)), (1, .int x1), (2, .int x2), (3, .int x3), (4, .int x4)] [] (wls w shX 58 μ) :=
  h (fun x1 x2 x3 x4 μ => V X 22 [(0, .ref (w.1 56)), (1, .int x1), (2, .int x2), (3, .int x3), (4, .int x4)] [] (wls w shX 58 μ)) (fun x1 x2 x3 x4 μ h => bv_X8_divide_22 g hX post hR (fun x1 x2 x3 x4 μ => V X 22 [(0, .ref (w.1 56)), (1, .int x1), (2, .int x2), (3, .int x3), (4, .int x4)] [] (wls w shX 58 μ)) (fun _ _ _ _ _ h => h) x1 x2 x3 x4 μ h)
def T_X8_divide (μ : Mem) (post : Mem → Prop) : Prop :=
  T_X10_all μ (fun (u1 : Int32) (μ2 : Mem) => T_X10_greatestNeed μ2 (fun (u3 : Int32) (μ4 : Mem) => T_X8_divide_22 post u1 u3 1000000 1 μ4))
theorem m_X8_divide {w : Wd} {l : Launch} {D : va_G} {A : Nat → Prop} (μ : Mem) (post : Mem → Prop) (h : T_X8_divide μ post) : MetX l D A w shX 58 yX8_divide cX8_divide 7 none rm_X8_divide [.ref (w.1 56)] μ (pV post) := by
  refine metX_of (by decide) rfl (lv := [(0, .ref (w.1 56))]) rfl (fun X hX g hR => ?_)
  refine r_aload_n (pc := 0) 0 g dX8_divide_0 rfl ?_
  refine r_getr (pc := 1) (μ := μ) g dX8_divide_1 fa_RX8_15 shX_out sX_56 rfl ?_
  refine r_callVi (pc := 4) (st := []) g hX dX8_divide_4 (m_X10_all μ _ h) kb_RX8_29 kv_X10_all shX_out sX_13 rfl rfl rfl rfl (fun u1 μ2 h => ?_)
  refine r_istore_n (pc := 7) (lv' := [(1, .int u1), (0, .ref (w.1 56))]) g dX8_divide_7 rfl rfl ?_
  refine r_aload_n (pc := 8) 1 g dX8_divide_8 rfl ?_
  refine r_getr (pc := 9) (μ := μ2) g dX8_divide_9 fa_RX8_15 shX_out sX_56 rfl ?_
  refine r_callVi (pc := 12) (st := []) g hX dX8_divide_12 (m_X10_greatestNeed μ2 _ h) kb_RX8_33 kv_X10_greatestNeed shX_out sX_13 rfl rfl rfl rfl (fun u3 μ4 h => ?_)
  refine r_istore_n (pc := 15) (lv' := [(2, .int u3), (1, .int u1), (0, .ref (w.1 56))]) g dX8_divide_15 rfl rfl ?_
  refine r_ldc (pc := 16) g dX8_divide_16 k_890 ?_
  refine r_istore_n (pc := 18) (lv' := [(3, .int 1000000), (2, .int u3), (1, .int u1), (0, .ref (w.1 56))]) g dX8_divide_18 rfl rfl ?_
  refine r_iconst (pc := 19) g dX8_divide_19 ci_1 ?_
  refine r_istore (pc := 20) (lv' := [(4, .int 1), (3, .int 1000000), (2, .int u3), (1, .int u1), (0, .ref (w.1 56))]) g dX8_divide_20 rfl rfl ?_
  refine r_sub [4, 3, 2, 1, 0] (lv' := [(0, .ref (w.1 56)), (1, .int u1), (2, .int u3), (3, .int 1000000), (4, .int 1)]) rfl ?_
  exact v_X8_divide_22 g hX post hR u1 u3 1000000 1 μ4 h
abbrev rm_X8_refresh : Room := { frames := 5, cells := 0, slots := 0, locals := 115 }
def T_X8_refresh (μ : Mem) (post : Mem → Prop) : Prop :=
  (((μ 56 5) = (μ 13 5) → post μ) ∧ (¬ (μ 56 5) = (μ 13 5) → T_X8_divide μ (fun (μ2 : Mem) => post (mset μ2 56 5 (μ2 13 5)))))
theorem m_X8_refresh {w : Wd} {l : Launch} {D : va_G} {A : Nat → Prop} (μ : Mem) (post : Mem → Prop) (h : T_X8_refresh μ post) : MetX l D A w shX 58 yX8_refresh cX8_refresh 1 none rm_X8_refresh [.ref (w.1 56)] μ (pV post) := by
  refine metX_of (by decide) rfl (lv := [(0, .ref (w.1 56))]) rfl (fun X hX g hR => ?_)
  refine r_aload_n (pc := 0) 0 g dX8_refresh_0 rfl ?_
  refine r_geti (pc := 1) (μ := μ) g dX8_refresh_1 fa_RX8_9 shX_out sX_56 rfl ?_
  refine r_aload_n (pc := 4) 0 g dX8_refresh_4 rfl ?_
  refine r_getr (pc := 5) (μ := μ) g dX8_refresh_5 fa_RX8_15 shX_out sX_56 rfl ?_
  refine r_geti (pc := 8) (μ := μ) g dX8_refresh_8 fa_RX8_23 shX_out sX_13 rfl ?_
  refine r_icmp_eq (pc := 11) 29 g dX8_refresh_11 rfl (fun q => ?_) (fun q => ?_)
  · have h := h.1 q
    exact r_vretv (pc := 29) g hR dX8_refresh_29 h
  · have h := h.2 q
    refine r_aload_n (pc := 14) 0 g dX8_refresh_14 rfl ?_
    refine r_callVv (pc := 15) (st := []) g hX dX8_refresh_15 (m_X8_divide μ _ h) kb_RX8_26 kv_X8_divide shX_out sX_56 rfl rfl rfl rfl (fun μ2 h => ?_)
    refine r_aload_n (pc := 18) 0 g dX8_refresh_18 rfl ?_
    refine r_aload_n (pc := 19) 0 g dX8_refresh_19 rfl ?_
    refine r_getr (pc := 20) (μ := μ2) g dX8_refresh_20 fa_RX8_15 shX_out sX_56 rfl ?_
    refine r_geti (pc := 23) (μ := μ2) g dX8_refresh_23 fa_RX8_23 shX_out sX_13 rfl ?_
    refine r_puti (pc := 26) (μ := μ2) g dX8_refresh_26 fp_RX8_9 shX_out sX_56 rfl ?_
    exact r_vretv (pc := 29) g hR dX8_refresh_29 h
abbrev rm_X9_forget : Room := { frames := 0, cells := 0, slots := 0, locals := 0 }
def B_X9_forget_17 (post : Mem → Prop) (P17 : Int32 → Mem → Prop) (x1 : Int32) (μ : Mem) : Prop :=
  ((10 ≤ x1 → post μ) ∧ (¬ 10 ≤ x1 → vp_in x1 10 ∧ P17 (x1 + 1) (mset μ 12 x1.toNatClampNeg 1)))
def T_X9_forget_17 (post : Mem → Prop) (x1 : Int32) (μ : Mem) : Prop :=
  ∀ P17 : Int32 → Mem → Prop, (∀ (x1 : Int32) (μ : Mem), B_X9_forget_17 post P17 x1 μ → P17 x1 μ) → P17 x1 μ
theorem bv_X9_forget_17 {X : Cx} {w : Wd} {l : Launch} {D : va_G} {A : Nat → Prop} (g : Gd X w RX9 cX9_forget 2 rm_X9_forget) (hX : atX X l D A) (post : Mem → Prop) (hR : Rt X w shX 58 none (pV post)) (P17 : Int32 → Mem → Prop) (hP17 : ∀ (x1 : Int32) (μ : Mem), P17 x1 μ → V X 17 [(0, .ref (w.1 9)), (1, .int x1)] [] (wls w shX 58 μ)) (x1 : Int32) (μ : Mem) (h : B_X9_forget_17 post P17 x1 μ) : V X 17 [(0, .ref (w.1 9)), (1, .int x1)] [] (wls w shX 58 μ) := by
  refine r_iload_n (pc := 17) 1 g dX9_forget_17 rfl ?_
  refine r_bipush (pc := 18) g dX9_forget_18 cb_10 ?_
  refine r_icmp_ge (pc := 20) 36 g dX9_forget_20 rfl (fun q => ?_) (fun q => ?_)
  · have h := h.1 q
    exact r_vretv (pc := 36) g hR dX9_forget_36 h
  · have h := h.2 q
    refine r_aload_n (pc := 23) 0 g dX9_forget_23 rfl ?_
    refine r_getr (pc := 24) (μ := μ) g dX9_forget_24 fa_RX9_18 shX_out sX_9 rfl ?_
    refine r_iload_n (pc := 27) 1 g dX9_forget_27 rfl ?_
    refine r_iconst (pc := 28) g dX9_forget_28 ci_1 ?_
    obtain ⟨b1, h⟩ := h
    refine r_iastore (pc := 29) (μ := μ) g dX9_forget_29 shX_out sX_12 b1 ?_
    refine r_iinc (pc := 30) (lv' := [(1, .int (x1 + 1)), (0, .ref (w.1 9))]) 1 g dX9_forget_30 rfl ci_1 rfl rfl ?_
    refine r_goto (pc := 33) 17 g dX9_forget_33 rfl ?_
    refine r_sub [1, 0] (lv' := [(0, .ref (w.1 9)), (1, .int (x1 + 1))]) rfl ?_
    exact hP17 (x1 + 1) (mset μ 12 x1.toNatClampNeg 1) h
theorem v_X9_forget_17 {X : Cx} {w : Wd} {l : Launch} {D : va_G} {A : Nat → Prop} (g : Gd X w RX9 cX9_forget 2 rm_X9_forget) (hX : atX X l D A) (post : Mem → Prop) (hR : Rt X w shX 58 none (pV post)) (x1 : Int32) (μ : Mem) (h : T_X9_forget_17 post x1 μ) : V X 17 [(0, .ref (w.1 9)), (1, .int x1)] [] (wls w shX 58 μ) :=
  h (fun x1 μ => V X 17 [(0, .ref (w.1 9)), (1, .int x1)] [] (wls w shX 58 μ)) (fun x1 μ h => bv_X9_forget_17 g hX post hR (fun x1 μ => V X 17 [(0, .ref (w.1 9)), (1, .int x1)] [] (wls w shX 58 μ)) (fun _ _ h => h) x1 μ h)
def T_X9_forget (μ : Mem) (post : Mem → Prop) : Prop :=
  T_X9_forget_17 post 0 (mset (mset (mset μ 9 3 0) 9 4 0) 9 5 0)
theorem m_X9_forget {w : Wd} {l : Launch} {D : va_G} {A : Nat → Prop} (μ : Mem) (post : Mem → Prop) (h : T_X9_forget μ post) : MetX l D A w shX 58 yX9_forget cX9_forget 2 none rm_X9_forget [.ref (w.1 9)] μ (pV post) := by
  refine metX_of (by decide) rfl (lv := [(0, .ref (w.1 9))]) rfl (fun X hX g hR => ?_)
  refine r_aload_n (pc := 0) 0 g dX9_forget_0 rfl ?_
  refine r_iconst (pc := 1) g dX9_forget_1 ci_0 ?_
  refine r_puti (pc := 2) (μ := μ) g dX9_forget_2 fp_RX9_28 shX_out sX_9 rfl ?_
  refine r_aload_n (pc := 5) 0 g dX9_forget_5 rfl ?_
  refine r_iconst (pc := 6) g dX9_forget_6 ci_0 ?_
  refine r_puti (pc := 7) (μ := mset μ 9 3 0) g dX9_forget_7 fp_RX9_32 shX_out sX_9 rfl ?_
  refine r_aload_n (pc := 10) 0 g dX9_forget_10 rfl ?_
  refine r_iconst (pc := 11) g dX9_forget_11 ci_0 ?_
  refine r_puti (pc := 12) (μ := mset (mset μ 9 3 0) 9 4 0) g dX9_forget_12 fp_RX9_35 shX_out sX_9 rfl ?_
  refine r_iconst (pc := 15) g dX9_forget_15 ci_0 ?_
  refine r_istore_n (pc := 16) (lv' := [(1, .int 0), (0, .ref (w.1 9))]) g dX9_forget_16 rfl rfl ?_
  refine r_sub [1, 0] (lv' := [(0, .ref (w.1 9)), (1, .int 0)]) rfl ?_
  exact v_X9_forget_17 g hX post hR 0 (mset (mset (mset μ 9 3 0) 9 4 0) 9 5 0) h
abbrev rm_X9_beginItem : Room := { frames := 0, cells := 0, slots := 0, locals := 0 }
def T_X9_beginItem_64 (post : Int32 → Mem → Prop) (x1 : Int32) (μ : Mem) : Prop :=
  ((¬ x1 = 115 → post 0 μ) ∧ (x1 = 115 → (((μ 9 3) ≤ 0 → post 0 μ) ∧ (¬ (μ 9 3) ≤ 0 → (((μ 9 5) = 1023 → post 0 μ) ∧ (¬ (μ 9 5) = 1023 → post 5 μ))))))
theorem v_X9_beginItem_64 {X : Cx} {w : Wd} {l : Launch} {D : va_G} {A : Nat → Prop} (g : Gd X w RX9 cX9_beginItem 2 rm_X9_beginItem) (hX : atX X l D A) (post : Int32 → Mem → Prop) (hR : Rt X w shX 58 (some .int) (pI post)) (x1 : Int32) (μ : Mem) (h : T_X9_beginItem_64 post x1 μ) : V X 64 [(0, .ref (w.1 9)), (1, .int x1)] [] (wls w shX 58 μ) := by
  refine r_iload_n (pc := 64) 1 g dX9_beginItem_64 rfl ?_
  refine r_bipush (pc := 65) g dX9_beginItem_65 cb_115 ?_
  refine r_icmp_ne (pc := 67) 91 g dX9_beginItem_67 rfl (fun q => ?_) (fun q => ?_)
  · have h := h.1 q
    refine r_iconst (pc := 91) g dX9_beginItem_91 ci_0 ?_
    exact r_ireti (pc := 92) g hR dX9_beginItem_92 h
  · have h := h.2 q
    refine r_aload_n (pc := 70) 0 g dX9_beginItem_70 rfl ?_
    refine r_geti (pc := 71) (μ := μ) g dX9_beginItem_71 fa_RX9_28 shX_out sX_9 rfl ?_
    refine r_if_le (pc := 74) 91 g dX9_beginItem_74 rfl (fun q => ?_) (fun q => ?_)
    · have h := h.1 q
      refine r_iconst (pc := 91) g dX9_beginItem_91 ci_0 ?_
      exact r_ireti (pc := 92) g hR dX9_beginItem_92 h
    · have h := h.2 q
      refine r_aload_n (pc := 77) 0 g dX9_beginItem_77 rfl ?_
      refine r_geti (pc := 78) (μ := μ) g dX9_beginItem_78 fa_RX9_35 shX_out sX_9 rfl ?_
      refine r_sipush (pc := 81) g dX9_beginItem_81 cs_1023 ?_
      refine r_icmp_eq (pc := 84) 91 g dX9_beginItem_84 rfl (fun q => ?_) (fun q => ?_)
      · have h := h.1 q
        refine r_iconst (pc := 91) g dX9_beginItem_91 ci_0 ?_
        exact r_ireti (pc := 92) g hR dX9_beginItem_92 h
      · have h := h.2 q
        refine r_iconst (pc := 87) g dX9_beginItem_87 ci_5 ?_
        refine r_goto (pc := 88) 92 g dX9_beginItem_88 rfl ?_
        exact r_ireti (pc := 92) g hR dX9_beginItem_92 h
def T_X9_beginItem (x1 : Int32) (μ : Mem) (post : Int32 → Mem → Prop) : Prop :=
  ((¬ x1 = 119 → T_X9_beginItem_64 post x1 (mset μ 9 4 ((μ 9 4) + 1))) ∧ (x1 = 119 → ((¬ ((mset μ 9 4 ((μ 9 4) + 1)) 9 5) = 0 → T_X9_beginItem_64 post x1 (mset μ 9 4 ((μ 9 4) + 1))) ∧ (((mset μ 9 4 ((μ 9 4) + 1)) 9 5) = 0 → ((9 ≤ ((mset μ 9 4 ((μ 9 4) + 1)) 9 3) → T_X9_beginItem_64 post x1 (mset μ 9 4 ((μ 9 4) + 1))) ∧ (¬ 9 ≤ ((mset μ 9 4 ((μ 9 4) + 1)) 9 3) → vp_in ((mset μ 9 4 ((μ 9 4) + 1)) 9 3) 9 ∧ vp_in ((mset (mset μ 9 4 ((μ 9 4) + 1)) 10 ((mset μ 9 4 ((μ 9 4) + 1)) 9 3).toNatClampNeg 0) 9 3) 9 ∧ post 2 (mset (mset (mset (mset μ 9 4 ((μ 9 4) + 1)) 10 ((mset μ 9 4 ((μ 9 4) + 1)) 9 3).toNatClampNeg 0) 11 ((mset (mset μ 9 4 ((μ 9 4) + 1)) 10 ((mset μ 9 4 ((μ 9 4) + 1)) 9 3).toNatClampNeg 0) 9 3).toNatClampNeg 0) 9 3 (((mset (mset (mset μ 9 4 ((μ 9 4) + 1)) 10 ((mset μ 9 4 ((μ 9 4) + 1)) 9 3).toNatClampNeg 0) 11 ((mset (mset μ 9 4 ((μ 9 4) + 1)) 10 ((mset μ 9 4 ((μ 9 4) + 1)) 9 3).toNatClampNeg 0) 9 3).toNatClampNeg 0) 9 3) + 1))))))))
theorem m_X9_beginItem {w : Wd} {l : Launch} {D : va_G} {A : Nat → Prop} (x1 : Int32) (μ : Mem) (post : Int32 → Mem → Prop) (h : T_X9_beginItem x1 μ post) : MetX l D A w shX 58 yX9_beginItem cX9_beginItem 2 (some .int) rm_X9_beginItem [.ref (w.1 9), .int x1] μ (pI post) := by
  refine metX_of (by decide) rfl (lv := [(0, .ref (w.1 9)), (1, .int x1)]) rfl (fun X hX g hR => ?_)
  refine r_aload_n (pc := 0) 0 g dX9_beginItem_0 rfl ?_
  refine r_dup (pc := 1) g dX9_beginItem_1 rfl ?_
  refine r_geti (pc := 2) (μ := μ) g dX9_beginItem_2 fa_RX9_32 shX_out sX_9 rfl ?_
  refine r_iconst (pc := 5) g dX9_beginItem_5 ci_1 ?_
  refine r_iadd (pc := 6) g dX9_beginItem_6 ?_
  refine r_puti (pc := 7) (μ := μ) g dX9_beginItem_7 fp_RX9_32 shX_out sX_9 rfl ?_
  refine r_iload_n (pc := 10) 1 g dX9_beginItem_10 rfl ?_
  refine r_bipush (pc := 11) g dX9_beginItem_11 cb_119 ?_
  refine r_icmp_ne (pc := 13) 64 g dX9_beginItem_13 rfl (fun q => ?_) (fun q => ?_)
  · have h := h.1 q
    refine r_sub [0, 1] (lv' := [(0, .ref (w.1 9)), (1, .int x1)]) rfl ?_
    exact v_X9_beginItem_64 g hX post hR x1 (mset μ 9 4 ((μ 9 4) + 1)) h
  · have h := h.2 q
    refine r_aload_n (pc := 16) 0 g dX9_beginItem_16 rfl ?_
    refine r_geti (pc := 17) (μ := mset μ 9 4 ((μ 9 4) + 1)) g dX9_beginItem_17 fa_RX9_35 shX_out sX_9 rfl ?_
    refine r_if_ne (pc := 20) 64 g dX9_beginItem_20 rfl (fun q => ?_) (fun q => ?_)
    · have h := h.1 q
      refine r_sub [0, 1] (lv' := [(0, .ref (w.1 9)), (1, .int x1)]) rfl ?_
      exact v_X9_beginItem_64 g hX post hR x1 (mset μ 9 4 ((μ 9 4) + 1)) h
    · have h := h.2 q
      refine r_aload_n (pc := 23) 0 g dX9_beginItem_23 rfl ?_
      refine r_geti (pc := 24) (μ := mset μ 9 4 ((μ 9 4) + 1)) g dX9_beginItem_24 fa_RX9_28 shX_out sX_9 rfl ?_
      refine r_bipush (pc := 27) g dX9_beginItem_27 cb_9 ?_
      refine r_icmp_ge (pc := 29) 64 g dX9_beginItem_29 rfl (fun q => ?_) (fun q => ?_)
      · have h := h.1 q
        refine r_sub [0, 1] (lv' := [(0, .ref (w.1 9)), (1, .int x1)]) rfl ?_
        exact v_X9_beginItem_64 g hX post hR x1 (mset μ 9 4 ((μ 9 4) + 1)) h
      · have h := h.2 q
        refine r_aload_n (pc := 32) 0 g dX9_beginItem_32 rfl ?_
        refine r_getr (pc := 33) (μ := mset μ 9 4 ((μ 9 4) + 1)) g dX9_beginItem_33 fa_RX9_9 shX_out sX_9 rfl ?_
        refine r_aload_n (pc := 36) 0 g dX9_beginItem_36 rfl ?_
        refine r_geti (pc := 37) (μ := mset μ 9 4 ((μ 9 4) + 1)) g dX9_beginItem_37 fa_RX9_28 shX_out sX_9 rfl ?_
        refine r_iconst (pc := 40) g dX9_beginItem_40 ci_0 ?_
        obtain ⟨b1, h⟩ := h
        refine r_iastore (pc := 41) (μ := mset μ 9 4 ((μ 9 4) + 1)) g dX9_beginItem_41 shX_out sX_10 b1 ?_
        refine r_aload_n (pc := 42) 0 g dX9_beginItem_42 rfl ?_
        refine r_getr (pc := 43) (μ := mset (mset μ 9 4 ((μ 9 4) + 1)) 10 ((mset μ 9 4 ((μ 9 4) + 1)) 9 3).toNatClampNeg 0) g dX9_beginItem_43 fa_RX9_15 shX_out sX_9 rfl ?_
        refine r_aload_n (pc := 46) 0 g dX9_beginItem_46 rfl ?_
        refine r_geti (pc := 47) (μ := mset (mset μ 9 4 ((μ 9 4) + 1)) 10 ((mset μ 9 4 ((μ 9 4) + 1)) 9 3).toNatClampNeg 0) g dX9_beginItem_47 fa_RX9_28 shX_out sX_9 rfl ?_
        refine r_iconst (pc := 50) g dX9_beginItem_50 ci_0 ?_
        obtain ⟨b2, h⟩ := h
        refine r_iastore (pc := 51) (μ := mset (mset μ 9 4 ((μ 9 4) + 1)) 10 ((mset μ 9 4 ((μ 9 4) + 1)) 9 3).toNatClampNeg 0) g dX9_beginItem_51 shX_out sX_11 b2 ?_
        refine r_aload_n (pc := 52) 0 g dX9_beginItem_52 rfl ?_
        refine r_dup (pc := 53) g dX9_beginItem_53 rfl ?_
        refine r_geti (pc := 54) (μ := mset (mset (mset μ 9 4 ((μ 9 4) + 1)) 10 ((mset μ 9 4 ((μ 9 4) + 1)) 9 3).toNatClampNeg 0) 11 ((mset (mset μ 9 4 ((μ 9 4) + 1)) 10 ((mset μ 9 4 ((μ 9 4) + 1)) 9 3).toNatClampNeg 0) 9 3).toNatClampNeg 0) g dX9_beginItem_54 fa_RX9_28 shX_out sX_9 rfl ?_
        refine r_iconst (pc := 57) g dX9_beginItem_57 ci_1 ?_
        refine r_iadd (pc := 58) g dX9_beginItem_58 ?_
        refine r_puti (pc := 59) (μ := mset (mset (mset μ 9 4 ((μ 9 4) + 1)) 10 ((mset μ 9 4 ((μ 9 4) + 1)) 9 3).toNatClampNeg 0) 11 ((mset (mset μ 9 4 ((μ 9 4) + 1)) 10 ((mset μ 9 4 ((μ 9 4) + 1)) 9 3).toNatClampNeg 0) 9 3).toNatClampNeg 0) g dX9_beginItem_59 fp_RX9_28 shX_out sX_9 rfl ?_
        refine r_iconst (pc := 62) g dX9_beginItem_62 ci_2 ?_
        exact r_ireti (pc := 63) g hR dX9_beginItem_63 h
abbrev rm_X9_endItem : Room := { frames := 0, cells := 0, slots := 0, locals := 0 }
def T_X9_endItem (x1 : Int32) (μ : Mem) (post : Int32 → Mem → Prop) : Prop :=
  ((¬ x1 = 59 → post 0 μ) ∧ (x1 = 59 → ((12 ≤ (μ 9 4) → post 0 μ) ∧ (¬ 12 ≤ (μ 9 4) → post 1 μ))))
theorem m_X9_endItem {w : Wd} {l : Launch} {D : va_G} {A : Nat → Prop} (x1 : Int32) (μ : Mem) (post : Int32 → Mem → Prop) (h : T_X9_endItem x1 μ post) : MetX l D A w shX 58 yX9_endItem cX9_endItem 2 (some .int) rm_X9_endItem [.ref (w.1 9), .int x1] μ (pI post) := by
  refine metX_of (by decide) rfl (lv := [(0, .ref (w.1 9)), (1, .int x1)]) rfl (fun X hX g hR => ?_)
  refine r_iload_n (pc := 0) 1 g dX9_endItem_0 rfl ?_
  refine r_bipush (pc := 1) g dX9_endItem_1 cb_59 ?_
  refine r_icmp_ne (pc := 3) 19 g dX9_endItem_3 rfl (fun q => ?_) (fun q => ?_)
  · have h := h.1 q
    refine r_iconst (pc := 19) g dX9_endItem_19 ci_0 ?_
    exact r_ireti (pc := 20) g hR dX9_endItem_20 h
  · have h := h.2 q
    refine r_aload_n (pc := 6) 0 g dX9_endItem_6 rfl ?_
    refine r_geti (pc := 7) (μ := μ) g dX9_endItem_7 fa_RX9_32 shX_out sX_9 rfl ?_
    refine r_bipush (pc := 10) g dX9_endItem_10 cb_12 ?_
    refine r_icmp_ge (pc := 12) 19 g dX9_endItem_12 rfl (fun q => ?_) (fun q => ?_)
    · have h := h.1 q
      refine r_iconst (pc := 19) g dX9_endItem_19 ci_0 ?_
      exact r_ireti (pc := 20) g hR dX9_endItem_20 h
    · have h := h.2 q
      refine r_iconst (pc := 15) g dX9_endItem_15 ci_1 ?_
      refine r_goto (pc := 16) 20 g dX9_endItem_16 rfl ?_
      exact r_ireti (pc := 20) g hR dX9_endItem_20 h
abbrev rm_X9_goOnInWork : Room := { frames := 1, cells := 0, slots := 0, locals := 21 }
def T_X9_goOnInWork (x1 : Int32) (μ : Mem) (post : Int32 → Mem → Prop) : Prop :=
  ((¬ x1 = 60 → T_X9_endItem x1 μ (fun (u1 : Int32) (μ2 : Mem) => post u1 μ2)) ∧ (x1 = 60 → post 3 μ))
theorem m_X9_goOnInWork {w : Wd} {l : Launch} {D : va_G} {A : Nat → Prop} (x1 : Int32) (μ : Mem) (post : Int32 → Mem → Prop) (h : T_X9_goOnInWork x1 μ post) : MetX l D A w shX 58 yX9_goOnInWork cX9_goOnInWork 2 (some .int) rm_X9_goOnInWork [.ref (w.1 9), .int x1] μ (pI post) := by
  refine metX_of (by decide) rfl (lv := [(0, .ref (w.1 9)), (1, .int x1)]) rfl (fun X hX g hR => ?_)
  refine r_iload_n (pc := 0) 1 g dX9_goOnInWork_0 rfl ?_
  refine r_bipush (pc := 1) g dX9_goOnInWork_1 cb_60 ?_
  refine r_icmp_ne (pc := 3) 10 g dX9_goOnInWork_3 rfl (fun q => ?_) (fun q => ?_)
  · have h := h.1 q
    refine r_aload_n (pc := 10) 0 g dX9_goOnInWork_10 rfl ?_
    refine r_iload_n (pc := 11) 1 g dX9_goOnInWork_11 rfl ?_
    refine r_callVi (pc := 12) (st := []) g hX dX9_goOnInWork_12 (m_X9_endItem x1 μ _ h) kb_RX9_57 kv_X9_endItem shX_out sX_9 rfl rfl rfl rfl (fun u1 μ2 h => ?_)
    exact r_ireti (pc := 15) g hR dX9_goOnInWork_15 h
  · have h := h.2 q
    refine r_iconst (pc := 6) g dX9_goOnInWork_6 ci_3 ?_
    refine r_goto (pc := 7) 15 g dX9_goOnInWork_7 rfl ?_
    exact r_ireti (pc := 15) g hR dX9_goOnInWork_15 h
abbrev rm_X9_takeBefore : Room := { frames := 0, cells := 0, slots := 0, locals := 0 }
def T_X9_takeBefore (x1 : Int32) (μ : Mem) (post : Int32 → Mem → Prop) : Prop :=
  ((((μ 9 3) - 1) ≤ x1 → post 0 μ) ∧ (¬ ((μ 9 3) - 1) ≤ x1 → vp_in ((μ 9 3) - 1) 9 ∧ ((((μ 11 ((μ 9 3) - 1).toNatClampNeg) &&& ((1 : Int32) <<< (x1 &&& 31))) = 0 → vp_in ((μ 9 3) - 1) 9 ∧ vp_in ((μ 9 3) - 1) 9 ∧ post 4 (mset μ 11 ((μ 9 3) - 1).toNatClampNeg ((μ 11 ((μ 9 3) - 1).toNatClampNeg) ||| ((1 : Int32) <<< (x1 &&& 31))))) ∧ (¬ ((μ 11 ((μ 9 3) - 1).toNatClampNeg) &&& ((1 : Int32) <<< (x1 &&& 31))) = 0 → post 0 μ))))
theorem m_X9_takeBefore {w : Wd} {l : Launch} {D : va_G} {A : Nat → Prop} (x1 : Int32) (μ : Mem) (post : Int32 → Mem → Prop) (h : T_X9_takeBefore x1 μ post) : MetX l D A w shX 58 yX9_takeBefore cX9_takeBefore 3 (some .int) rm_X9_takeBefore [.ref (w.1 9), .int x1] μ (pI post) := by
  refine metX_of (by decide) rfl (lv := [(0, .ref (w.1 9)), (1, .int x1)]) rfl (fun X hX g hR => ?_)
  refine r_iconst (pc := 0) g dX9_takeBefore_0 ci_1 ?_
  refine r_iload_n (pc := 1) 1 g dX9_takeBefore_1 rfl ?_
  refine r_ishl (pc := 2) g dX9_takeBefore_2 ?_
  refine r_istore_n (pc := 3) (lv' := [(2, .int ((1 : Int32) <<< (x1 &&& 31))), (0, .ref (w.1 9)), (1, .int x1)]) g dX9_takeBefore_3 rfl rfl ?_
  refine r_iload_n (pc := 4) 2 g dX9_takeBefore_4 rfl ?_
  refine r_aload_n (pc := 5) 1 g dX9_takeBefore_5 rfl ?_
  refine r_geti (pc := 6) (μ := μ) g dX9_takeBefore_6 fa_RX9_28 shX_out sX_9 rfl ?_
  refine r_iconst (pc := 9) g dX9_takeBefore_9 ci_1 ?_
  refine r_isub (pc := 10) g dX9_takeBefore_10 ?_
  refine r_icmp_ge (pc := 11) 30 g dX9_takeBefore_11 rfl (fun q => ?_) (fun q => ?_)
  · have h := h.1 q
    refine r_iconst (pc := 30) g dX9_takeBefore_30 ci_0 ?_
    exact r_ireti (pc := 31) g hR dX9_takeBefore_31 h
  · have h := h.2 q
    refine r_aload_n (pc := 14) 1 g dX9_takeBefore_14 rfl ?_
    refine r_getr (pc := 15) (μ := μ) g dX9_takeBefore_15 fa_RX9_15 shX_out sX_9 rfl ?_
    refine r_aload_n (pc := 18) 1 g dX9_takeBefore_18 rfl ?_
    refine r_geti (pc := 19) (μ := μ) g dX9_takeBefore_19 fa_RX9_28 shX_out sX_9 rfl ?_
    refine r_iconst (pc := 22) g dX9_takeBefore_22 ci_1 ?_
    refine r_isub (pc := 23) g dX9_takeBefore_23 ?_
    obtain ⟨b1, h⟩ := h
    refine r_iaload (pc := 24) (μ := μ) g dX9_takeBefore_24 shX_out sX_11 b1 ?_
    refine r_iload_n (pc := 25) 0 g dX9_takeBefore_25 rfl ?_
    refine r_iand (pc := 26) g dX9_takeBefore_26 ?_
    refine r_if_eq (pc := 27) 32 g dX9_takeBefore_27 rfl (fun q => ?_) (fun q => ?_)
    · have h := h.1 q
      refine r_aload_n (pc := 32) 1 g dX9_takeBefore_32 rfl ?_
      refine r_getr (pc := 33) (μ := μ) g dX9_takeBefore_33 fa_RX9_15 shX_out sX_9 rfl ?_
      refine r_aload_n (pc := 36) 1 g dX9_takeBefore_36 rfl ?_
      refine r_geti (pc := 37) (μ := μ) g dX9_takeBefore_37 fa_RX9_28 shX_out sX_9 rfl ?_
      refine r_iconst (pc := 40) g dX9_takeBefore_40 ci_1 ?_
      refine r_isub (pc := 41) g dX9_takeBefore_41 ?_
      refine r_dup2 (pc := 42) g dX9_takeBefore_42 rfl rfl ?_
      obtain ⟨b2, h⟩ := h
      refine r_iaload (pc := 43) (μ := μ) g dX9_takeBefore_43 shX_out sX_11 b2 ?_
      refine r_iload_n (pc := 44) 0 g dX9_takeBefore_44 rfl ?_
      refine r_ior (pc := 45) g dX9_takeBefore_45 ?_
      obtain ⟨b3, h⟩ := h
      refine r_iastore (pc := 46) (μ := μ) g dX9_takeBefore_46 shX_out sX_11 b3 ?_
      refine r_iconst (pc := 47) g dX9_takeBefore_47 ci_4 ?_
      exact r_ireti (pc := 48) g hR dX9_takeBefore_48 h
    · have h := h.2 q
      refine r_iconst (pc := 30) g dX9_takeBefore_30 ci_0 ?_
      exact r_ireti (pc := 31) g hR dX9_takeBefore_31 h
abbrev rm_X9_takeNeed : Room := { frames := 0, cells := 0, slots := 0, locals := 0 }
def T_X9_takeNeed (x1 : Int32) (μ : Mem) (post : Int32 → Mem → Prop) : Prop :=
  vp_in ((μ 9 3) - 1) 9 ∧ ((((μ 10 ((μ 9 3) - 1).toNatClampNeg) &&& ((1 : Int32) <<< (x1 &&& 31))) = 0 → vp_in ((μ 9 3) - 1) 9 ∧ vp_in ((μ 9 3) - 1) 9 ∧ post 2 (mset μ 10 ((μ 9 3) - 1).toNatClampNeg ((μ 10 ((μ 9 3) - 1).toNatClampNeg) ||| ((1 : Int32) <<< (x1 &&& 31))))) ∧ (¬ ((μ 10 ((μ 9 3) - 1).toNatClampNeg) &&& ((1 : Int32) <<< (x1 &&& 31))) = 0 → post 0 μ))
theorem m_X9_takeNeed {w : Wd} {l : Launch} {D : va_G} {A : Nat → Prop} (x1 : Int32) (μ : Mem) (post : Int32 → Mem → Prop) (h : T_X9_takeNeed x1 μ post) : MetX l D A w shX 58 yX9_takeNeed cX9_takeNeed 3 (some .int) rm_X9_takeNeed [.ref (w.1 9), .int x1] μ (pI post) := by
  refine metX_of (by decide) rfl (lv := [(0, .ref (w.1 9)), (1, .int x1)]) rfl (fun X hX g hR => ?_)
  refine r_iconst (pc := 0) g dX9_takeNeed_0 ci_1 ?_
  refine r_iload_n (pc := 1) 1 g dX9_takeNeed_1 rfl ?_
  refine r_ishl (pc := 2) g dX9_takeNeed_2 ?_
  refine r_istore_n (pc := 3) (lv' := [(2, .int ((1 : Int32) <<< (x1 &&& 31))), (0, .ref (w.1 9)), (1, .int x1)]) g dX9_takeNeed_3 rfl rfl ?_
  refine r_aload_n (pc := 4) 1 g dX9_takeNeed_4 rfl ?_
  refine r_getr (pc := 5) (μ := μ) g dX9_takeNeed_5 fa_RX9_9 shX_out sX_9 rfl ?_
  refine r_aload_n (pc := 8) 1 g dX9_takeNeed_8 rfl ?_
  refine r_geti (pc := 9) (μ := μ) g dX9_takeNeed_9 fa_RX9_28 shX_out sX_9 rfl ?_
  refine r_iconst (pc := 12) g dX9_takeNeed_12 ci_1 ?_
  refine r_isub (pc := 13) g dX9_takeNeed_13 ?_
  obtain ⟨b1, h⟩ := h
  refine r_iaload (pc := 14) (μ := μ) g dX9_takeNeed_14 shX_out sX_10 b1 ?_
  refine r_iload_n (pc := 15) 0 g dX9_takeNeed_15 rfl ?_
  refine r_iand (pc := 16) g dX9_takeNeed_16 ?_
  refine r_if_eq (pc := 17) 22 g dX9_takeNeed_17 rfl (fun q => ?_) (fun q => ?_)
  · have h := h.1 q
    refine r_aload_n (pc := 22) 1 g dX9_takeNeed_22 rfl ?_
    refine r_getr (pc := 23) (μ := μ) g dX9_takeNeed_23 fa_RX9_9 shX_out sX_9 rfl ?_
    refine r_aload_n (pc := 26) 1 g dX9_takeNeed_26 rfl ?_
    refine r_geti (pc := 27) (μ := μ) g dX9_takeNeed_27 fa_RX9_28 shX_out sX_9 rfl ?_
    refine r_iconst (pc := 30) g dX9_takeNeed_30 ci_1 ?_
    refine r_isub (pc := 31) g dX9_takeNeed_31 ?_
    refine r_dup2 (pc := 32) g dX9_takeNeed_32 rfl rfl ?_
    obtain ⟨b2, h⟩ := h
    refine r_iaload (pc := 33) (μ := μ) g dX9_takeNeed_33 shX_out sX_10 b2 ?_
    refine r_iload_n (pc := 34) 0 g dX9_takeNeed_34 rfl ?_
    refine r_ior (pc := 35) g dX9_takeNeed_35 ?_
    obtain ⟨b3, h⟩ := h
    refine r_iastore (pc := 36) (μ := μ) g dX9_takeNeed_36 shX_out sX_10 b3 ?_
    refine r_iconst (pc := 37) g dX9_takeNeed_37 ci_2 ?_
    exact r_ireti (pc := 38) g hR dX9_takeNeed_38 h
  · have h := h.2 q
    refine r_iconst (pc := 20) g dX9_takeNeed_20 ci_0 ?_
    exact r_ireti (pc := 21) g hR dX9_takeNeed_21 h
abbrev rm_X9_takeSize : Room := { frames := 0, cells := 0, slots := 0, locals := 0 }
def T_X9_takeSize (x1 : Int32) (μ : Mem) (post : Int32 → Mem → Prop) : Prop :=
  vp_in (μ 9 6) 10 ∧ post 7 (mset μ 12 (μ 9 6).toNatClampNeg x1)
theorem m_X9_takeSize {w : Wd} {l : Launch} {D : va_G} {A : Nat → Prop} (x1 : Int32) (μ : Mem) (post : Int32 → Mem → Prop) (h : T_X9_takeSize x1 μ post) : MetX l D A w shX 58 yX9_takeSize cX9_takeSize 2 (some .int) rm_X9_takeSize [.ref (w.1 9), .int x1] μ (pI post) := by
  refine metX_of (by decide) rfl (lv := [(0, .ref (w.1 9)), (1, .int x1)]) rfl (fun X hX g hR => ?_)
  refine r_aload_n (pc := 0) 0 g dX9_takeSize_0 rfl ?_
  refine r_getr (pc := 1) (μ := μ) g dX9_takeSize_1 fa_RX9_18 shX_out sX_9 rfl ?_
  refine r_aload_n (pc := 4) 0 g dX9_takeSize_4 rfl ?_
  refine r_geti (pc := 5) (μ := μ) g dX9_takeSize_5 fa_RX9_60 shX_out sX_9 rfl ?_
  refine r_iload_n (pc := 8) 1 g dX9_takeSize_8 rfl ?_
  obtain ⟨b1, h⟩ := h
  refine r_iastore (pc := 9) (μ := μ) g dX9_takeSize_9 shX_out sX_12 b1 ?_
  refine r_bipush (pc := 10) g dX9_takeSize_10 cb_7 ?_
  exact r_ireti (pc := 12) g hR dX9_takeSize_12 h
abbrev rm_X9_takeSized : Room := { frames := 0, cells := 0, slots := 0, locals := 0 }
def T_X9_takeSized (x1 : Int32) (μ : Mem) (post : Int32 → Mem → Prop) : Prop :=
  ((((μ 9 5) &&& ((1 : Int32) <<< (x1 &&& 31))) = 0 → post 6 (mset (mset μ 9 5 ((μ 9 5) ||| ((1 : Int32) <<< (x1 &&& 31)))) 9 6 x1)) ∧ (¬ ((μ 9 5) &&& ((1 : Int32) <<< (x1 &&& 31))) = 0 → post 0 μ))
theorem m_X9_takeSized {w : Wd} {l : Launch} {D : va_G} {A : Nat → Prop} (x1 : Int32) (μ : Mem) (post : Int32 → Mem → Prop) (h : T_X9_takeSized x1 μ post) : MetX l D A w shX 58 yX9_takeSized cX9_takeSized 3 (some .int) rm_X9_takeSized [.ref (w.1 9), .int x1] μ (pI post) := by
  refine metX_of (by decide) rfl (lv := [(0, .ref (w.1 9)), (1, .int x1)]) rfl (fun X hX g hR => ?_)
  refine r_iconst (pc := 0) g dX9_takeSized_0 ci_1 ?_
  refine r_iload_n (pc := 1) 1 g dX9_takeSized_1 rfl ?_
  refine r_ishl (pc := 2) g dX9_takeSized_2 ?_
  refine r_istore_n (pc := 3) (lv' := [(2, .int ((1 : Int32) <<< (x1 &&& 31))), (0, .ref (w.1 9)), (1, .int x1)]) g dX9_takeSized_3 rfl rfl ?_
  refine r_aload_n (pc := 4) 1 g dX9_takeSized_4 rfl ?_
  refine r_geti (pc := 5) (μ := μ) g dX9_takeSized_5 fa_RX9_35 shX_out sX_9 rfl ?_
  refine r_iload_n (pc := 8) 0 g dX9_takeSized_8 rfl ?_
  refine r_iand (pc := 9) g dX9_takeSized_9 ?_
  refine r_if_eq (pc := 10) 15 g dX9_takeSized_10 rfl (fun q => ?_) (fun q => ?_)
  · have h := h.1 q
    refine r_aload_n (pc := 15) 1 g dX9_takeSized_15 rfl ?_
    refine r_dup (pc := 16) g dX9_takeSized_16 rfl ?_
    refine r_geti (pc := 17) (μ := μ) g dX9_takeSized_17 fa_RX9_35 shX_out sX_9 rfl ?_
    refine r_iload_n (pc := 20) 0 g dX9_takeSized_20 rfl ?_
    refine r_ior (pc := 21) g dX9_takeSized_21 ?_
    refine r_puti (pc := 22) (μ := μ) g dX9_takeSized_22 fp_RX9_35 shX_out sX_9 rfl ?_
    refine r_aload_n (pc := 25) 1 g dX9_takeSized_25 rfl ?_
    refine r_iload_n (pc := 26) 2 g dX9_takeSized_26 rfl ?_
    refine r_puti (pc := 27) (μ := mset μ 9 5 ((μ 9 5) ||| ((1 : Int32) <<< (x1 &&& 31)))) g dX9_takeSized_27 fp_RX9_60 shX_out sX_9 rfl ?_
    refine r_bipush (pc := 30) g dX9_takeSized_30 cb_6 ?_
    exact r_ireti (pc := 32) g hR dX9_takeSized_32 h
  · have h := h.2 q
    refine r_iconst (pc := 13) g dX9_takeSized_13 ci_0 ?_
    exact r_ireti (pc := 14) g hR dX9_takeSized_14 h
abbrev rm_X9_step : Room := { frames := 2, cells := 0, slots := 0, locals := 42 }
def T_X9_step_69 (post : Int32 → Mem → Prop) (x2 : Int32) (μ : Mem) : Prop :=
  T_X9_goOnInWork x2 μ (fun (u1 : Int32) (μ2 : Mem) => post u1 μ2)
theorem v_X9_step_69 {X : Cx} {w : Wd} {l : Launch} {D : va_G} {A : Nat → Prop} (g : Gd X w RX9 cX9_step 3 rm_X9_step) (hX : atX X l D A) (post : Int32 → Mem → Prop) (hR : Rt X w shX 58 (some .int) (pI post)) (x2 : Int32) (μ : Mem) (h : T_X9_step_69 post x2 μ) : V X 69 [(0, .ref (w.1 9)), (2, .int x2)] [] (wls w shX 58 μ) := by
  refine r_aload_n (pc := 69) 0 g dX9_step_69 rfl ?_
  refine r_iload_n (pc := 70) 1 g dX9_step_70 rfl ?_
  refine r_callVi (pc := 71) (st := []) g hX dX9_step_71 (m_X9_goOnInWork x2 μ _ h) kb_RX9_45 kv_X9_goOnInWork shX_out sX_9 rfl rfl rfl rfl (fun u1 μ2 h => ?_)
  exact r_ireti (pc := 74) g hR dX9_step_74 h
def T_X9_step (x1 : Int32) (x2 : Int32) (μ : Mem) (post : Int32 → Mem → Prop) : Prop :=
  ((x1 = 1 → T_X9_beginItem x2 μ (fun (u2 : Int32) (μ3 : Mem) => post u2 μ3)) ∧ (x1 = 2 → ((x2 < 97 → T_X9_step_69 post x2 μ) ∧ (¬ x2 < 97 → ((106 < x2 → T_X9_step_69 post x2 μ) ∧ (¬ 106 < x2 → T_X9_takeNeed (x2 - 97) μ (fun (u4 : Int32) (μ5 : Mem) => post u4 μ5)))))) ∧ (x1 = 3 → ((x2 < 48 → post 0 μ) ∧ (¬ x2 < 48 → ((57 < x2 → post 0 μ) ∧ (¬ 57 < x2 → T_X9_takeBefore (x2 - 48) μ (fun (u6 : Int32) (μ7 : Mem) => post u6 μ7)))))) ∧ (x1 = 4 → T_X9_goOnInWork x2 μ (fun (u8 : Int32) (μ9 : Mem) => post u8 μ9)) ∧ (x1 = 5 → ((x2 < 97 → post 0 μ) ∧ (¬ x2 < 97 → ((106 < x2 → post 0 μ) ∧ (¬ 106 < x2 → T_X9_takeSized (x2 - 97) μ (fun (u10 : Int32) (μ11 : Mem) => post u10 μ11)))))) ∧ (x1 = 6 → ((x2 < 49 → post 0 μ) ∧ (¬ x2 < 49 → ((57 < x2 → post 0 μ) ∧ (¬ 57 < x2 → T_X9_takeSize (x2 - 48) μ (fun (u12 : Int32) (μ13 : Mem) => post u12 μ13)))))) ∧ (¬ x1 = 1 → ¬ x1 = 2 → ¬ x1 = 3 → ¬ x1 = 4 → ¬ x1 = 5 → ¬ x1 = 6 → T_X9_endItem x2 μ (fun (u14 : Int32) (μ15 : Mem) => post u14 μ15)))
theorem m_X9_step {w : Wd} {l : Launch} {D : va_G} {A : Nat → Prop} (x1 : Int32) (x2 : Int32) (μ : Mem) (post : Int32 → Mem → Prop) (h : T_X9_step x1 x2 μ post) : MetX l D A w shX 58 yX9_step cX9_step 3 (some .int) rm_X9_step [.ref (w.1 9), .int x1, .int x2] μ (pI post) := by
  refine metX_of (by decide) rfl (lv := [(0, .ref (w.1 9)), (1, .int x1), (2, .int x2)]) rfl (fun X hX g hR => ?_)
  refine r_iload_n (pc := 0) 1 g dX9_step_0 rfl ?_
  have hs1 := h
  by_cases c0 : x1 = 1
  · have h := hs1.1 c0
    refine r_tswK (pc := 1) 1 40 g dX9_step_1 c0 ⟨by decide, by decide, rfl, rfl⟩ ?_
    refine r_aload_n (pc := 40) 0 g dX9_step_40 rfl ?_
    refine r_iload_n (pc := 41) 2 g dX9_step_41 rfl ?_
    refine r_callVi (pc := 42) (st := []) g hX dX9_step_42 (m_X9_beginItem x2 μ _ h) kb_RX9_38 kv_X9_beginItem shX_out sX_9 rfl rfl rfl rfl (fun u2 μ3 h => ?_)
    exact r_ireti (pc := 45) g hR dX9_step_45 h
  by_cases c1 : x1 = 2
  · have h := hs1.2.1 c1
    refine r_tswK (pc := 1) 2 46 g dX9_step_1 c1 ⟨by decide, by decide, rfl, rfl⟩ ?_
    refine r_iload_n (pc := 46) 2 g dX9_step_46 rfl ?_
    refine r_bipush (pc := 47) g dX9_step_47 cb_97 ?_
    refine r_icmp_lt (pc := 49) 69 g dX9_step_49 rfl (fun q => ?_) (fun q => ?_)
    · have h := h.1 q
      refine r_sub [0, 2] (lv' := [(0, .ref (w.1 9)), (2, .int x2)]) rfl ?_
      exact v_X9_step_69 g hX post hR x2 μ h
    · have h := h.2 q
      refine r_iload_n (pc := 52) 2 g dX9_step_52 rfl ?_
      refine r_bipush (pc := 53) g dX9_step_53 cb_106 ?_
      refine r_icmp_gt (pc := 55) 69 g dX9_step_55 rfl (fun q => ?_) (fun q => ?_)
      · have h := h.1 q
        refine r_sub [0, 2] (lv' := [(0, .ref (w.1 9)), (2, .int x2)]) rfl ?_
        exact v_X9_step_69 g hX post hR x2 μ h
      · have h := h.2 q
        refine r_aload_n (pc := 58) 0 g dX9_step_58 rfl ?_
        refine r_iload_n (pc := 59) 2 g dX9_step_59 rfl ?_
        refine r_bipush (pc := 60) g dX9_step_60 cb_97 ?_
        refine r_isub (pc := 62) g dX9_step_62 ?_
        refine r_callVi (pc := 63) (st := []) g hX dX9_step_63 (m_X9_takeNeed (x2 - 97) μ _ h) kb_RX9_42 kv_X9_takeNeed shX_out sX_9 rfl rfl rfl rfl (fun u4 μ5 h => ?_)
        refine r_goto (pc := 66) 74 g dX9_step_66 rfl ?_
        exact r_ireti (pc := 74) g hR dX9_step_74 h
  by_cases c2 : x1 = 3
  · have h := hs1.2.2.1 c2
    refine r_tswK (pc := 1) 3 75 g dX9_step_1 c2 ⟨by decide, by decide, rfl, rfl⟩ ?_
    refine r_iload_n (pc := 75) 2 g dX9_step_75 rfl ?_
    refine r_bipush (pc := 76) g dX9_step_76 cb_48 ?_
    refine r_icmp_lt (pc := 78) 98 g dX9_step_78 rfl (fun q => ?_) (fun q => ?_)
    · have h := h.1 q
      refine r_iconst (pc := 98) g dX9_step_98 ci_0 ?_
      exact r_ireti (pc := 99) g hR dX9_step_99 h
    · have h := h.2 q
      refine r_iload_n (pc := 81) 2 g dX9_step_81 rfl ?_
      refine r_bipush (pc := 82) g dX9_step_82 cb_57 ?_
      refine r_icmp_gt (pc := 84) 98 g dX9_step_84 rfl (fun q => ?_) (fun q => ?_)
      · have h := h.1 q
        refine r_iconst (pc := 98) g dX9_step_98 ci_0 ?_
        exact r_ireti (pc := 99) g hR dX9_step_99 h
      · have h := h.2 q
        refine r_aload_n (pc := 87) 0 g dX9_step_87 rfl ?_
        refine r_iload_n (pc := 88) 2 g dX9_step_88 rfl ?_
        refine r_bipush (pc := 89) g dX9_step_89 cb_48 ?_
        refine r_isub (pc := 91) g dX9_step_91 ?_
        refine r_callVi (pc := 92) (st := []) g hX dX9_step_92 (m_X9_takeBefore (x2 - 48) μ _ h) kb_RX9_48 kv_X9_takeBefore shX_out sX_9 rfl rfl rfl rfl (fun u6 μ7 h => ?_)
        refine r_goto (pc := 95) 99 g dX9_step_95 rfl ?_
        exact r_ireti (pc := 99) g hR dX9_step_99 h
  by_cases c3 : x1 = 4
  · have h := hs1.2.2.2.1 c3
    refine r_tswK (pc := 1) 4 100 g dX9_step_1 c3 ⟨by decide, by decide, rfl, rfl⟩ ?_
    refine r_aload_n (pc := 100) 0 g dX9_step_100 rfl ?_
    refine r_iload_n (pc := 101) 2 g dX9_step_101 rfl ?_
    refine r_callVi (pc := 102) (st := []) g hX dX9_step_102 (m_X9_goOnInWork x2 μ _ h) kb_RX9_45 kv_X9_goOnInWork shX_out sX_9 rfl rfl rfl rfl (fun u8 μ9 h => ?_)
    exact r_ireti (pc := 105) g hR dX9_step_105 h
  by_cases c4 : x1 = 5
  · have h := hs1.2.2.2.2.1 c4
    refine r_tswK (pc := 1) 5 106 g dX9_step_1 c4 ⟨by decide, by decide, rfl, rfl⟩ ?_
    refine r_iload_n (pc := 106) 2 g dX9_step_106 rfl ?_
    refine r_bipush (pc := 107) g dX9_step_107 cb_97 ?_
    refine r_icmp_lt (pc := 109) 129 g dX9_step_109 rfl (fun q => ?_) (fun q => ?_)
    · have h := h.1 q
      refine r_iconst (pc := 129) g dX9_step_129 ci_0 ?_
      exact r_ireti (pc := 130) g hR dX9_step_130 h
    · have h := h.2 q
      refine r_iload_n (pc := 112) 2 g dX9_step_112 rfl ?_
      refine r_bipush (pc := 113) g dX9_step_113 cb_106 ?_
      refine r_icmp_gt (pc := 115) 129 g dX9_step_115 rfl (fun q => ?_) (fun q => ?_)
      · have h := h.1 q
        refine r_iconst (pc := 129) g dX9_step_129 ci_0 ?_
        exact r_ireti (pc := 130) g hR dX9_step_130 h
      · have h := h.2 q
        refine r_aload_n (pc := 118) 0 g dX9_step_118 rfl ?_
        refine r_iload_n (pc := 119) 2 g dX9_step_119 rfl ?_
        refine r_bipush (pc := 120) g dX9_step_120 cb_97 ?_
        refine r_isub (pc := 122) g dX9_step_122 ?_
        refine r_callVi (pc := 123) (st := []) g hX dX9_step_123 (m_X9_takeSized (x2 - 97) μ _ h) kb_RX9_51 kv_X9_takeSized shX_out sX_9 rfl rfl rfl rfl (fun u10 μ11 h => ?_)
        refine r_goto (pc := 126) 130 g dX9_step_126 rfl ?_
        exact r_ireti (pc := 130) g hR dX9_step_130 h
  by_cases c5 : x1 = 6
  · have h := hs1.2.2.2.2.2.1 c5
    refine r_tswK (pc := 1) 6 131 g dX9_step_1 c5 ⟨by decide, by decide, rfl, rfl⟩ ?_
    refine r_iload_n (pc := 131) 2 g dX9_step_131 rfl ?_
    refine r_bipush (pc := 132) g dX9_step_132 cb_49 ?_
    refine r_icmp_lt (pc := 134) 154 g dX9_step_134 rfl (fun q => ?_) (fun q => ?_)
    · have h := h.1 q
      refine r_iconst (pc := 154) g dX9_step_154 ci_0 ?_
      exact r_ireti (pc := 155) g hR dX9_step_155 h
    · have h := h.2 q
      refine r_iload_n (pc := 137) 2 g dX9_step_137 rfl ?_
      refine r_bipush (pc := 138) g dX9_step_138 cb_57 ?_
      refine r_icmp_gt (pc := 140) 154 g dX9_step_140 rfl (fun q => ?_) (fun q => ?_)
      · have h := h.1 q
        refine r_iconst (pc := 154) g dX9_step_154 ci_0 ?_
        exact r_ireti (pc := 155) g hR dX9_step_155 h
      · have h := h.2 q
        refine r_aload_n (pc := 143) 0 g dX9_step_143 rfl ?_
        refine r_iload_n (pc := 144) 2 g dX9_step_144 rfl ?_
        refine r_bipush (pc := 145) g dX9_step_145 cb_48 ?_
        refine r_isub (pc := 147) g dX9_step_147 ?_
        refine r_callVi (pc := 148) (st := []) g hX dX9_step_148 (m_X9_takeSize (x2 - 48) μ _ h) kb_RX9_54 kv_X9_takeSize shX_out sX_9 rfl rfl rfl rfl (fun u12 μ13 h => ?_)
        refine r_goto (pc := 151) 155 g dX9_step_151 rfl ?_
        exact r_ireti (pc := 155) g hR dX9_step_155 h
  have h := hs1.2.2.2.2.2.2 c0 c1 c2 c3 c4 c5
  refine r_tswD (pc := 1) 156 g dX9_step_1 (by have e0 := ne_toInt c0 (w := 1) (by decide); have e1 := ne_toInt c1 (w := 2) (by decide); have e2 := ne_toInt c2 (w := 3) (by decide); have e3 := ne_toInt c3 (w := 4) (by decide); have e4 := ne_toInt c4 (w := 5) (by decide); have e5 := ne_toInt c5 (w := 6) (by decide); omega) rfl ?_
  refine r_aload_n (pc := 156) 0 g dX9_step_156 rfl ?_
  refine r_iload_n (pc := 157) 2 g dX9_step_157 rfl ?_
  refine r_callVi (pc := 158) (st := []) g hX dX9_step_158 (m_X9_endItem x2 μ _ h) kb_RX9_57 kv_X9_endItem shX_out sX_9 rfl rfl rfl rfl (fun u14 μ15 h => ?_)
  exact r_ireti (pc := 161) g hR dX9_step_161 h
abbrev rm_X9_firstFault : Room := { frames := 3, cells := 0, slots := 0, locals := 64 }
def T_X9_firstFault_63 (r1 : Nat) (post : Int32 → Mem → Prop) (μ : Mem) : Prop :=
  post (-1) μ
theorem v_X9_firstFault_63 {X : Cx} {w : Wd} {l : Launch} {D : va_G} {A : Nat → Prop} (r1 : Nat) (g : Gd X w RX9 cX9_firstFault 6 rm_X9_firstFault) (hX : atX X l D A) (post : Int32 → Mem → Prop) (hR : Rt X w shX 58 (some .int) (pI post)) (μ : Mem) (h : T_X9_firstFault_63 r1 post μ) : V X 63 [] [] (wls w shX 58 μ) := by
  refine r_iconst (pc := 63) g dX9_firstFault_63 ci_m1 ?_
  refine r_goto (pc := 64) 68 g dX9_firstFault_64 rfl ?_
  exact r_ireti (pc := 68) g hR dX9_firstFault_68 h
def B_X9_firstFault_10 (r1 : Nat) (post : Int32 → Mem → Prop) (P10 : Int32 → Int32 → Int32 → Int32 → Mem → Prop) (x2 : Int32) (x3 : Int32) (x4 : Int32) (x5 : Int32) (μ : Mem) : Prop :=
  ((x3 ≤ x5 → ((x4 = 2 → T_X9_firstFault_63 r1 post μ) ∧ (¬ x4 = 2 → ((x4 = 4 → T_X9_firstFault_63 r1 post μ) ∧ (¬ x4 = 4 → ((¬ x4 = 7 → post x3 μ) ∧ (x4 = 7 → T_X9_firstFault_63 r1 post μ))))))) ∧ (¬ x3 ≤ x5 → shX r1 = .inl 60 ∧ vp_in (x2 + x5) 60 ∧ T_X9_step x4 (μ r1 (x2 + x5).toNatClampNeg) μ (fun (u3 : Int32) (μ4 : Mem) => ((¬ u3 = 0 → P10 x2 x3 u3 (x5 + 1) μ4) ∧ (u3 = 0 → post x5 μ4)))))
def T_X9_firstFault_10 (r1 : Nat) (post : Int32 → Mem → Prop) (x2 : Int32) (x3 : Int32) (x4 : Int32) (x5 : Int32) (μ : Mem) : Prop :=
  ∀ P10 : Int32 → Int32 → Int32 → Int32 → Mem → Prop, (∀ (x2 : Int32) (x3 : Int32) (x4 : Int32) (x5 : Int32) (μ : Mem), B_X9_firstFault_10 r1 post P10 x2 x3 x4 x5 μ → P10 x2 x3 x4 x5 μ) → P10 x2 x3 x4 x5 μ
theorem bv_X9_firstFault_10 {X : Cx} {w : Wd} {l : Launch} {D : va_G} {A : Nat → Prop} (r1 : Nat) (g : Gd X w RX9 cX9_firstFault 6 rm_X9_firstFault) (hX : atX X l D A) (post : Int32 → Mem → Prop) (hR : Rt X w shX 58 (some .int) (pI post)) (P10 : Int32 → Int32 → Int32 → Int32 → Mem → Prop) (hP10 : ∀ (x2 : Int32) (x3 : Int32) (x4 : Int32) (x5 : Int32) (μ : Mem), P10 x2 x3 x4 x5 μ → V X 10 [(0, .ref (w.1 9)), (1, .ref (w.1 r1)), (2, .int x2), (3, .int x3), (4, .int x4), (5, .int x5)] [] (wls w shX 58 μ)) (x2 : Int32) (x3 : Int32) (x4 : Int32) (x5 : Int32) (μ : Mem) (h : B_X9_firstFault_10 r1 post P10 x2 x3 x4 x5 μ) : V X 10 [(0, .ref (w.1 9)), (1, .ref (w.1 r1)), (2, .int x2), (3, .int x3), (4, .int x4), (5, .int x5)] [] (wls w shX 58 μ) := by
  refine r_iload (pc := 10) 5 g dX9_firstFault_10 rfl ?_
  refine r_iload_n (pc := 12) 3 g dX9_firstFault_12 rfl ?_
  refine r_icmp_ge (pc := 13) 44 g dX9_firstFault_13 rfl (fun q => ?_) (fun q => ?_)
  · have h := h.1 q
    refine r_iload (pc := 44) 4 g dX9_firstFault_44 rfl ?_
    refine r_iconst (pc := 46) g dX9_firstFault_46 ci_2 ?_
    refine r_icmp_eq (pc := 47) 63 g dX9_firstFault_47 rfl (fun q => ?_) (fun q => ?_)
    · have h := h.1 q
      refine r_sub [] (lv' := []) rfl ?_
      exact v_X9_firstFault_63 r1 g hX post hR μ h
    · have h := h.2 q
      refine r_iload (pc := 50) 4 g dX9_firstFault_50 rfl ?_
      refine r_iconst (pc := 52) g dX9_firstFault_52 ci_4 ?_
      refine r_icmp_eq (pc := 53) 63 g dX9_firstFault_53 rfl (fun q => ?_) (fun q => ?_)
      · have h := h.1 q
        refine r_sub [] (lv' := []) rfl ?_
        exact v_X9_firstFault_63 r1 g hX post hR μ h
      · have h := h.2 q
        refine r_iload (pc := 56) 4 g dX9_firstFault_56 rfl ?_
        refine r_bipush (pc := 58) g dX9_firstFault_58 cb_7 ?_
        refine r_icmp_ne (pc := 60) 67 g dX9_firstFault_60 rfl (fun q => ?_) (fun q => ?_)
        · have h := h.1 q
          refine r_iload_n (pc := 67) 3 g dX9_firstFault_67 rfl ?_
          exact r_ireti (pc := 68) g hR dX9_firstFault_68 h
        · have h := h.2 q
          refine r_sub [] (lv' := []) rfl ?_
          exact v_X9_firstFault_63 r1 g hX post hR μ h
  · have h := h.2 q
    refine r_aload_n (pc := 16) 0 g dX9_firstFault_16 rfl ?_
    refine r_iload (pc := 17) 4 g dX9_firstFault_17 rfl ?_
    refine r_aload_n (pc := 19) 1 g dX9_firstFault_19 rfl ?_
    refine r_iload_n (pc := 20) 2 g dX9_firstFault_20 rfl ?_
    refine r_iload (pc := 21) 5 g dX9_firstFault_21 rfl ?_
    refine r_iadd (pc := 23) g dX9_firstFault_23 ?_
    obtain ⟨z1, h⟩ := h
    obtain ⟨b2, h⟩ := h
    refine r_iaload (pc := 24) (μ := μ) g dX9_firstFault_24 shX_out z1 b2 ?_
    refine r_callVi (pc := 25) (st := []) g hX dX9_firstFault_25 (m_X9_step x4 (μ r1 (x2 + x5).toNatClampNeg) μ _ h) kb_RX9_24 kv_X9_step shX_out sX_9 rfl rfl rfl rfl (fun u3 μ4 h => ?_)
    refine r_istore (pc := 28) (lv' := [(4, .int u3), (0, .ref (w.1 9)), (1, .ref (w.1 r1)), (2, .int x2), (3, .int x3), (5, .int x5)]) g dX9_firstFault_28 rfl rfl ?_
    refine r_iload (pc := 30) 0 g dX9_firstFault_30 rfl ?_
    refine r_if_ne (pc := 32) 38 g dX9_firstFault_32 rfl (fun q => ?_) (fun q => ?_)
    · have h := h.1 q
      refine r_iinc (pc := 38) (lv' := [(5, .int (x5 + 1)), (4, .int u3), (0, .ref (w.1 9)), (1, .ref (w.1 r1)), (2, .int x2), (3, .int x3)]) 5 g dX9_firstFault_38 rfl ci_1 rfl rfl ?_
      refine r_goto (pc := 41) 10 g dX9_firstFault_41 rfl ?_
      refine r_sub [2, 3, 4, 5, 1, 0] (lv' := [(0, .ref (w.1 9)), (1, .ref (w.1 r1)), (2, .int x2), (3, .int x3), (4, .int u3), (5, .int (x5 + 1))]) rfl ?_
      exact hP10 x2 x3 u3 (x5 + 1) μ4 h
    · have h := h.2 q
      refine r_iload (pc := 35) 5 g dX9_firstFault_35 rfl ?_
      exact r_ireti (pc := 37) g hR dX9_firstFault_37 h
theorem v_X9_firstFault_10 {X : Cx} {w : Wd} {l : Launch} {D : va_G} {A : Nat → Prop} (r1 : Nat) (g : Gd X w RX9 cX9_firstFault 6 rm_X9_firstFault) (hX : atX X l D A) (post : Int32 → Mem → Prop) (hR : Rt X w shX 58 (some .int) (pI post)) (x2 : Int32) (x3 : Int32) (x4 : Int32) (x5 : Int32) (μ : Mem) (h : T_X9_firstFault_10 r1 post x2 x3 x4 x5 μ) : V X 10 [(0, .ref (w.1 9)), (1, .ref (w.1 r1)), (2, .int x2), (3, .int x3), (4, .int x4), (5, .int x5)] [] (wls w shX 58 μ) :=
  h (fun x2 x3 x4 x5 μ => V X 10 [(0, .ref (w.1 9)), (1, .ref (w.1 r1)), (2, .int x2), (3, .int x3), (4, .int x4), (5, .int x5)] [] (wls w shX 58 μ)) (fun x2 x3 x4 x5 μ h => bv_X9_firstFault_10 r1 g hX post hR (fun x2 x3 x4 x5 μ => V X 10 [(0, .ref (w.1 9)), (1, .ref (w.1 r1)), (2, .int x2), (3, .int x3), (4, .int x4), (5, .int x5)] [] (wls w shX 58 μ)) (fun _ _ _ _ _ h => h) x2 x3 x4 x5 μ h)
def T_X9_firstFault (r1 : Nat) (x2 : Int32) (x3 : Int32) (μ : Mem) (post : Int32 → Mem → Prop) : Prop :=
  T_X9_forget μ (fun (μ2 : Mem) => T_X9_firstFault_10 r1 post x2 x3 1 0 μ2)
theorem m_X9_firstFault {w : Wd} {l : Launch} {D : va_G} {A : Nat → Prop} (r1 : Nat) (x2 : Int32) (x3 : Int32) (μ : Mem) (post : Int32 → Mem → Prop) (h : T_X9_firstFault r1 x2 x3 μ post) : MetX l D A w shX 58 yX9_firstFault cX9_firstFault 6 (some .int) rm_X9_firstFault [.ref (w.1 9), .ref (w.1 r1), .int x2, .int x3] μ (pI post) := by
  refine metX_of (by decide) rfl (lv := [(0, .ref (w.1 9)), (1, .ref (w.1 r1)), (2, .int x2), (3, .int x3)]) rfl (fun X hX g hR => ?_)
  refine r_aload_n (pc := 0) 0 g dX9_firstFault_0 rfl ?_
  refine r_callVv (pc := 1) (st := []) g hX dX9_firstFault_1 (m_X9_forget μ _ h) kb_RX9_21 kv_X9_forget shX_out sX_9 rfl rfl rfl rfl (fun μ2 h => ?_)
  refine r_iconst (pc := 4) g dX9_firstFault_4 ci_1 ?_
  refine r_istore (pc := 5) (lv' := [(4, .int 1), (0, .ref (w.1 9)), (1, .ref (w.1 r1)), (2, .int x2), (3, .int x3)]) g dX9_firstFault_5 rfl rfl ?_
  refine r_iconst (pc := 7) g dX9_firstFault_7 ci_0 ?_
  refine r_istore (pc := 8) (lv' := [(5, .int 0), (4, .int 1), (0, .ref (w.1 9)), (1, .ref (w.1 r1)), (2, .int x2), (3, .int x3)]) g dX9_firstFault_8 rfl rfl ?_
  refine r_sub [2, 3, 4, 5, 1, 0] (lv' := [(0, .ref (w.1 9)), (1, .ref (w.1 r1)), (2, .int x2), (3, .int x3), (4, .int 1), (5, .int 0)]) rfl ?_
  exact v_X9_firstFault_10 r1 g hX post hR x2 x3 1 0 μ2 h
abbrev rm_X10_has : Room := { frames := 0, cells := 0, slots := 0, locals := 0 }
def T_X10_has (x1 : Int32) (μ : Mem) (post : Int32 → Mem → Prop) : Prop :=
  ((x1 < 0 → post 0 μ) ∧ (¬ x1 < 0 → (((μ 13 4) ≤ x1 → post 0 μ) ∧ (¬ (μ 13 4) ≤ x1 → post 1 μ))))
theorem m_X10_has {w : Wd} {l : Launch} {D : va_G} {A : Nat → Prop} (x1 : Int32) (μ : Mem) (post : Int32 → Mem → Prop) (h : T_X10_has x1 μ post) : MetX l D A w shX 58 yX10_has cX10_has 2 (some .boolean) rm_X10_has [.ref (w.1 13), .int x1] μ (pI post) := by
  refine metX_of (by decide) rfl (lv := [(0, .ref (w.1 13)), (1, .int x1)]) rfl (fun X hX g hR => ?_)
  refine r_iload_n (pc := 0) 1 g dX10_has_0 rfl ?_
  refine r_if_lt (pc := 1) 16 g dX10_has_1 rfl (fun q => ?_) (fun q => ?_)
  · have h := h.1 q
    refine r_iconst (pc := 16) g dX10_has_16 ci_0 ?_
    exact r_zreti (pc := 17) g hR dX10_has_17 (Or.inl rfl) h
  · have h := h.2 q
    refine r_iload_n (pc := 4) 1 g dX10_has_4 rfl ?_
    refine r_aload_n (pc := 5) 0 g dX10_has_5 rfl ?_
    refine r_geti (pc := 6) (μ := μ) g dX10_has_6 fa_RX10_28 shX_out sX_13 rfl ?_
    refine r_icmp_ge (pc := 9) 16 g dX10_has_9 rfl (fun q => ?_) (fun q => ?_)
    · have h := h.1 q
      refine r_iconst (pc := 16) g dX10_has_16 ci_0 ?_
      exact r_zreti (pc := 17) g hR dX10_has_17 (Or.inl rfl) h
    · have h := h.2 q
      refine r_iconst (pc := 12) g dX10_has_12 ci_1 ?_
      refine r_goto (pc := 13) 17 g dX10_has_13 rfl ?_
      exact r_zreti (pc := 17) g hR dX10_has_17 (Or.inr rfl) h
abbrev rm_X10_takeOver : Room := { frames := 2, cells := 0, slots := 0, locals := 47 }
def B_X10_takeOver_50 (post : Mem → Prop) (P50 : Int32 → Mem → Prop) (x2 : Int32) (μ : Mem) : Prop :=
  ((10 ≤ x2 → post (mset μ 13 5 ((μ 13 5) + 1))) ∧ (¬ 10 ≤ x2 → vp_in x2 10 ∧ T_X5_change 16 x2 (μ 12 x2.toNatClampNeg) μ (fun (u2 : Int32) (μ3 : Mem) => P50 (x2 + 1) μ3)))
def T_X10_takeOver_50 (post : Mem → Prop) (x2 : Int32) (μ : Mem) : Prop :=
  ∀ P50 : Int32 → Mem → Prop, (∀ (x2 : Int32) (μ : Mem), B_X10_takeOver_50 post P50 x2 μ → P50 x2 μ) → P50 x2 μ
theorem bv_X10_takeOver_50 {X : Cx} {w : Wd} {l : Launch} {D : va_G} {A : Nat → Prop} (g : Gd X w RX10 cX10_takeOver 3 rm_X10_takeOver) (hX : atX X l D A) (post : Mem → Prop) (hR : Rt X w shX 58 none (pV post)) (P50 : Int32 → Mem → Prop) (hP50 : ∀ (x2 : Int32) (μ : Mem), P50 x2 μ → V X 50 [(0, .ref (w.1 13)), (1, .ref (w.1 9)), (2, .int x2)] [] (wls w shX 58 μ)) (x2 : Int32) (μ : Mem) (h : B_X10_takeOver_50 post P50 x2 μ) : V X 50 [(0, .ref (w.1 13)), (1, .ref (w.1 9)), (2, .int x2)] [] (wls w shX 58 μ) := by
  refine r_iload_n (pc := 50) 2 g dX10_takeOver_50 rfl ?_
  refine r_bipush (pc := 51) g dX10_takeOver_51 cb_10 ?_
  refine r_icmp_ge (pc := 53) 77 g dX10_takeOver_53 rfl (fun q => ?_) (fun q => ?_)
  · have h := h.1 q
    refine r_aload_n (pc := 77) 0 g dX10_takeOver_77 rfl ?_
    refine r_dup (pc := 78) g dX10_takeOver_78 rfl ?_
    refine r_geti (pc := 79) (μ := μ) g dX10_takeOver_79 fa_RX10_43 shX_out sX_13 rfl ?_
    refine r_iconst (pc := 82) g dX10_takeOver_82 ci_1 ?_
    refine r_iadd (pc := 83) g dX10_takeOver_83 ?_
    refine r_puti (pc := 84) (μ := μ) g dX10_takeOver_84 fp_RX10_43 shX_out sX_13 rfl ?_
    exact r_vretv (pc := 87) g hR dX10_takeOver_87 h
  · have h := h.2 q
    refine r_aload_n (pc := 56) 0 g dX10_takeOver_56 rfl ?_
    refine r_getr (pc := 57) (μ := μ) g dX10_takeOver_57 fa_RX10_21 shX_out sX_13 rfl ?_
    refine r_iload_n (pc := 60) 2 g dX10_takeOver_60 rfl ?_
    refine r_aload_n (pc := 61) 1 g dX10_takeOver_61 rfl ?_
    refine r_getr (pc := 62) (μ := μ) g dX10_takeOver_62 fa_RX10_37 shX_out sX_9 rfl ?_
    refine r_iload_n (pc := 65) 2 g dX10_takeOver_65 rfl ?_
    obtain ⟨b1, h⟩ := h
    refine r_iaload (pc := 66) (μ := μ) g dX10_takeOver_66 shX_out sX_12 b1 ?_
    refine r_callVi (pc := 67) (st := []) g hX dX10_takeOver_67 (m_X5_change 16 (Or.inl rfl) x2 (μ 12 x2.toNatClampNeg) μ _ h) kb_RX10_39 kv_X5_change shX_out (sc_0 (Or.inl rfl)) rfl rfl rfl rfl (fun u2 μ3 h => ?_)
    refine r_pop (pc := 70) g dX10_takeOver_70 rfl ?_
    refine r_iinc (pc := 71) (lv' := [(2, .int (x2 + 1)), (0, .ref (w.1 13)), (1, .ref (w.1 9))]) 2 g dX10_takeOver_71 rfl ci_1 rfl rfl ?_
    refine r_goto (pc := 74) 50 g dX10_takeOver_74 rfl ?_
    refine r_sub [1, 2, 0] (lv' := [(0, .ref (w.1 13)), (1, .ref (w.1 9)), (2, .int (x2 + 1))]) rfl ?_
    exact hP50 (x2 + 1) μ3 h
theorem v_X10_takeOver_50 {X : Cx} {w : Wd} {l : Launch} {D : va_G} {A : Nat → Prop} (g : Gd X w RX10 cX10_takeOver 3 rm_X10_takeOver) (hX : atX X l D A) (post : Mem → Prop) (hR : Rt X w shX 58 none (pV post)) (x2 : Int32) (μ : Mem) (h : T_X10_takeOver_50 post x2 μ) : V X 50 [(0, .ref (w.1 13)), (1, .ref (w.1 9)), (2, .int x2)] [] (wls w shX 58 μ) :=
  h (fun x2 μ => V X 50 [(0, .ref (w.1 13)), (1, .ref (w.1 9)), (2, .int x2)] [] (wls w shX 58 μ)) (fun x2 μ h => bv_X10_takeOver_50 g hX post hR (fun x2 μ => V X 50 [(0, .ref (w.1 13)), (1, .ref (w.1 9)), (2, .int x2)] [] (wls w shX 58 μ)) (fun _ _ h => h) x2 μ h)
def B_X10_takeOver_10 (post : Mem → Prop) (P10 : Int32 → Mem → Prop) (x2 : Int32) (μ : Mem) : Prop :=
  (((μ 13 4) ≤ x2 → T_X10_takeOver_50 post 0 μ) ∧ (¬ (μ 13 4) ≤ x2 → vp_in x2 9 ∧ vp_in x2 9 ∧ vp_in x2 9 ∧ vp_in x2 9 ∧ P10 (x2 + 1) (mset (mset μ 14 x2.toNatClampNeg (μ 10 x2.toNatClampNeg)) 15 x2.toNatClampNeg ((mset μ 14 x2.toNatClampNeg (μ 10 x2.toNatClampNeg)) 11 x2.toNatClampNeg))))
def T_X10_takeOver_10 (post : Mem → Prop) (x2 : Int32) (μ : Mem) : Prop :=
  ∀ P10 : Int32 → Mem → Prop, (∀ (x2 : Int32) (μ : Mem), B_X10_takeOver_10 post P10 x2 μ → P10 x2 μ) → P10 x2 μ
theorem bv_X10_takeOver_10 {X : Cx} {w : Wd} {l : Launch} {D : va_G} {A : Nat → Prop} (g : Gd X w RX10 cX10_takeOver 3 rm_X10_takeOver) (hX : atX X l D A) (post : Mem → Prop) (hR : Rt X w shX 58 none (pV post)) (P10 : Int32 → Mem → Prop) (hP10 : ∀ (x2 : Int32) (μ : Mem), P10 x2 μ → V X 10 [(0, .ref (w.1 13)), (1, .ref (w.1 9)), (2, .int x2)] [] (wls w shX 58 μ)) (x2 : Int32) (μ : Mem) (h : B_X10_takeOver_10 post P10 x2 μ) : V X 10 [(0, .ref (w.1 13)), (1, .ref (w.1 9)), (2, .int x2)] [] (wls w shX 58 μ) := by
  refine r_iload_n (pc := 10) 2 g dX10_takeOver_10 rfl ?_
  refine r_aload_n (pc := 11) 0 g dX10_takeOver_11 rfl ?_
  refine r_geti (pc := 12) (μ := μ) g dX10_takeOver_12 fa_RX10_28 shX_out sX_13 rfl ?_
  refine r_icmp_ge (pc := 15) 48 g dX10_takeOver_15 rfl (fun q => ?_) (fun q => ?_)
  · have h := h.1 q
    refine r_iconst (pc := 48) g dX10_takeOver_48 ci_0 ?_
    refine r_istore_n (pc := 49) (lv' := [(2, .int 0), (0, .ref (w.1 13)), (1, .ref (w.1 9))]) g dX10_takeOver_49 rfl rfl ?_
    refine r_sub [1, 2, 0] (lv' := [(0, .ref (w.1 13)), (1, .ref (w.1 9)), (2, .int 0)]) rfl ?_
    exact v_X10_takeOver_50 g hX post hR 0 μ h
  · have h := h.2 q
    refine r_aload_n (pc := 18) 0 g dX10_takeOver_18 rfl ?_
    refine r_getr (pc := 19) (μ := μ) g dX10_takeOver_19 fa_RX10_9 shX_out sX_13 rfl ?_
    refine r_iload_n (pc := 22) 2 g dX10_takeOver_22 rfl ?_
    refine r_aload_n (pc := 23) 1 g dX10_takeOver_23 rfl ?_
    refine r_getr (pc := 24) (μ := μ) g dX10_takeOver_24 fa_RX10_35 shX_out sX_9 rfl ?_
    refine r_iload_n (pc := 27) 2 g dX10_takeOver_27 rfl ?_
    obtain ⟨b1, h⟩ := h
    refine r_iaload (pc := 28) (μ := μ) g dX10_takeOver_28 shX_out sX_10 b1 ?_
    obtain ⟨b2, h⟩ := h
    refine r_iastore (pc := 29) (μ := μ) g dX10_takeOver_29 shX_out sX_14 b2 ?_
    refine r_aload_n (pc := 30) 0 g dX10_takeOver_30 rfl ?_
    refine r_getr (pc := 31) (μ := mset μ 14 x2.toNatClampNeg (μ 10 x2.toNatClampNeg)) g dX10_takeOver_31 fa_RX10_15 shX_out sX_13 rfl ?_
    refine r_iload_n (pc := 34) 2 g dX10_takeOver_34 rfl ?_
    refine r_aload_n (pc := 35) 1 g dX10_takeOver_35 rfl ?_
    refine r_getr (pc := 36) (μ := mset μ 14 x2.toNatClampNeg (μ 10 x2.toNatClampNeg)) g dX10_takeOver_36 fa_RX10_36 shX_out sX_9 rfl ?_
    refine r_iload_n (pc := 39) 2 g dX10_takeOver_39 rfl ?_
    obtain ⟨b3, h⟩ := h
    refine r_iaload (pc := 40) (μ := mset μ 14 x2.toNatClampNeg (μ 10 x2.toNatClampNeg)) g dX10_takeOver_40 shX_out sX_11 b3 ?_
    obtain ⟨b4, h⟩ := h
    refine r_iastore (pc := 41) (μ := mset μ 14 x2.toNatClampNeg (μ 10 x2.toNatClampNeg)) g dX10_takeOver_41 shX_out sX_15 b4 ?_
    refine r_iinc (pc := 42) (lv' := [(2, .int (x2 + 1)), (0, .ref (w.1 13)), (1, .ref (w.1 9))]) 2 g dX10_takeOver_42 rfl ci_1 rfl rfl ?_
    refine r_goto (pc := 45) 10 g dX10_takeOver_45 rfl ?_
    refine r_sub [1, 2, 0] (lv' := [(0, .ref (w.1 13)), (1, .ref (w.1 9)), (2, .int (x2 + 1))]) rfl ?_
    exact hP10 (x2 + 1) (mset (mset μ 14 x2.toNatClampNeg (μ 10 x2.toNatClampNeg)) 15 x2.toNatClampNeg ((mset μ 14 x2.toNatClampNeg (μ 10 x2.toNatClampNeg)) 11 x2.toNatClampNeg)) h
theorem v_X10_takeOver_10 {X : Cx} {w : Wd} {l : Launch} {D : va_G} {A : Nat → Prop} (g : Gd X w RX10 cX10_takeOver 3 rm_X10_takeOver) (hX : atX X l D A) (post : Mem → Prop) (hR : Rt X w shX 58 none (pV post)) (x2 : Int32) (μ : Mem) (h : T_X10_takeOver_10 post x2 μ) : V X 10 [(0, .ref (w.1 13)), (1, .ref (w.1 9)), (2, .int x2)] [] (wls w shX 58 μ) :=
  h (fun x2 μ => V X 10 [(0, .ref (w.1 13)), (1, .ref (w.1 9)), (2, .int x2)] [] (wls w shX 58 μ)) (fun x2 μ h => bv_X10_takeOver_10 g hX post hR (fun x2 μ => V X 10 [(0, .ref (w.1 13)), (1, .ref (w.1 9)), (2, .int x2)] [] (wls w shX 58 μ)) (fun _ _ h => h) x2 μ h)
def T_X10_takeOver (μ : Mem) (post : Mem → Prop) : Prop :=
  T_X10_takeOver_10 post 0 (mset μ 13 4 (μ 9 3))
theorem m_X10_takeOver {w : Wd} {l : Launch} {D : va_G} {A : Nat → Prop} (μ : Mem) (post : Mem → Prop) (h : T_X10_takeOver μ post) : MetX l D A w shX 58 yX10_takeOver cX10_takeOver 3 none rm_X10_takeOver [.ref (w.1 13), .ref (w.1 9)] μ (pV post) := by
  refine metX_of (by decide) rfl (lv := [(0, .ref (w.1 13)), (1, .ref (w.1 9))]) rfl (fun X hX g hR => ?_)
  refine r_aload_n (pc := 0) 0 g dX10_takeOver_0 rfl ?_
  refine r_aload_n (pc := 1) 1 g dX10_takeOver_1 rfl ?_
  refine r_geti (pc := 2) (μ := μ) g dX10_takeOver_2 fa_RX10_32 shX_out sX_9 rfl ?_
  refine r_puti (pc := 5) (μ := μ) g dX10_takeOver_5 fp_RX10_28 shX_out sX_13 rfl ?_
  refine r_iconst (pc := 8) g dX10_takeOver_8 ci_0 ?_
  refine r_istore_n (pc := 9) (lv' := [(2, .int 0), (0, .ref (w.1 13)), (1, .ref (w.1 9))]) g dX10_takeOver_9 rfl rfl ?_
  refine r_sub [1, 2, 0] (lv' := [(0, .ref (w.1 13)), (1, .ref (w.1 9)), (2, .int 0)]) rfl ?_
  exact v_X10_takeOver_10 g hX post hR 0 (mset μ 13 4 (μ 9 3)) h
abbrev rm_X10_add : Room := { frames := 0, cells := 0, slots := 0, locals := 0 }
def T_X10_add (x1 : Int32) (x2 : Int32) (μ : Mem) (post : Mem → Prop) : Prop :=
  vp_in (μ 13 4) 9 ∧ vp_in ((mset μ 14 (μ 13 4).toNatClampNeg x1) 13 4) 9 ∧ post (mset (mset (mset (mset μ 14 (μ 13 4).toNatClampNeg x1) 15 ((mset μ 14 (μ 13 4).toNatClampNeg x1) 13 4).toNatClampNeg x2) 13 4 (((mset (mset μ 14 (μ 13 4).toNatClampNeg x1) 15 ((mset μ 14 (μ 13 4).toNatClampNeg x1) 13 4).toNatClampNeg x2) 13 4) + 1)) 13 5 (((mset (mset (mset μ 14 (μ 13 4).toNatClampNeg x1) 15 ((mset μ 14 (μ 13 4).toNatClampNeg x1) 13 4).toNatClampNeg x2) 13 4 (((mset (mset μ 14 (μ 13 4).toNatClampNeg x1) 15 ((mset μ 14 (μ 13 4).toNatClampNeg x1) 13 4).toNatClampNeg x2) 13 4) + 1)) 13 5) + 1))
theorem m_X10_add {w : Wd} {l : Launch} {D : va_G} {A : Nat → Prop} (x1 : Int32) (x2 : Int32) (μ : Mem) (post : Mem → Prop) (h : T_X10_add x1 x2 μ post) : MetX l D A w shX 58 yX10_add cX10_add 3 none rm_X10_add [.ref (w.1 13), .int x1, .int x2] μ (pV post) := by
  refine metX_of (by decide) rfl (lv := [(0, .ref (w.1 13)), (1, .int x1), (2, .int x2)]) rfl (fun X hX g hR => ?_)
  refine r_aload_n (pc := 0) 0 g dX10_add_0 rfl ?_
  refine r_getr (pc := 1) (μ := μ) g dX10_add_1 fa_RX10_9 shX_out sX_13 rfl ?_
  refine r_aload_n (pc := 4) 0 g dX10_add_4 rfl ?_
  refine r_geti (pc := 5) (μ := μ) g dX10_add_5 fa_RX10_28 shX_out sX_13 rfl ?_
  refine r_iload_n (pc := 8) 1 g dX10_add_8 rfl ?_
  obtain ⟨b1, h⟩ := h
  refine r_iastore (pc := 9) (μ := μ) g dX10_add_9 shX_out sX_14 b1 ?_
  refine r_aload_n (pc := 10) 0 g dX10_add_10 rfl ?_
  refine r_getr (pc := 11) (μ := mset μ 14 (μ 13 4).toNatClampNeg x1) g dX10_add_11 fa_RX10_15 shX_out sX_13 rfl ?_
  refine r_aload_n (pc := 14) 0 g dX10_add_14 rfl ?_
  refine r_geti (pc := 15) (μ := mset μ 14 (μ 13 4).toNatClampNeg x1) g dX10_add_15 fa_RX10_28 shX_out sX_13 rfl ?_
  refine r_iload_n (pc := 18) 2 g dX10_add_18 rfl ?_
  obtain ⟨b2, h⟩ := h
  refine r_iastore (pc := 19) (μ := mset μ 14 (μ 13 4).toNatClampNeg x1) g dX10_add_19 shX_out sX_15 b2 ?_
  refine r_aload_n (pc := 20) 0 g dX10_add_20 rfl ?_
  refine r_dup (pc := 21) g dX10_add_21 rfl ?_
  refine r_geti (pc := 22) (μ := mset (mset μ 14 (μ 13 4).toNatClampNeg x1) 15 ((mset μ 14 (μ 13 4).toNatClampNeg x1) 13 4).toNatClampNeg x2) g dX10_add_22 fa_RX10_28 shX_out sX_13 rfl ?_
  refine r_iconst (pc := 25) g dX10_add_25 ci_1 ?_
  refine r_iadd (pc := 26) g dX10_add_26 ?_
  refine r_puti (pc := 27) (μ := mset (mset μ 14 (μ 13 4).toNatClampNeg x1) 15 ((mset μ 14 (μ 13 4).toNatClampNeg x1) 13 4).toNatClampNeg x2) g dX10_add_27 fp_RX10_28 shX_out sX_13 rfl ?_
  refine r_aload_n (pc := 30) 0 g dX10_add_30 rfl ?_
  refine r_dup (pc := 31) g dX10_add_31 rfl ?_
  refine r_geti (pc := 32) (μ := mset (mset (mset μ 14 (μ 13 4).toNatClampNeg x1) 15 ((mset μ 14 (μ 13 4).toNatClampNeg x1) 13 4).toNatClampNeg x2) 13 4 (((mset (mset μ 14 (μ 13 4).toNatClampNeg x1) 15 ((mset μ 14 (μ 13 4).toNatClampNeg x1) 13 4).toNatClampNeg x2) 13 4) + 1)) g dX10_add_32 fa_RX10_43 shX_out sX_13 rfl ?_
  refine r_iconst (pc := 35) g dX10_add_35 ci_1 ?_
  refine r_iadd (pc := 36) g dX10_add_36 ?_
  refine r_puti (pc := 37) (μ := mset (mset (mset μ 14 (μ 13 4).toNatClampNeg x1) 15 ((mset μ 14 (μ 13 4).toNatClampNeg x1) 13 4).toNatClampNeg x2) 13 4 (((mset (mset μ 14 (μ 13 4).toNatClampNeg x1) 15 ((mset μ 14 (μ 13 4).toNatClampNeg x1) 13 4).toNatClampNeg x2) 13 4) + 1)) g dX10_add_37 fp_RX10_43 shX_out sX_13 rfl ?_
  exact r_vretv (pc := 40) g hR dX10_add_40 h
abbrev rm_X10_changeSize : Room := { frames := 2, cells := 0, slots := 0, locals := 47 }
def T_X10_changeSize (x1 : Int32) (x2 : Int32) (μ : Mem) (post : Int32 → Mem → Prop) : Prop :=
  T_X5_change 16 x1 x2 (mset μ 13 5 ((μ 13 5) + 1)) (fun (u1 : Int32) (μ2 : Mem) => post u1 μ2)
theorem m_X10_changeSize {w : Wd} {l : Launch} {D : va_G} {A : Nat → Prop} (x1 : Int32) (x2 : Int32) (μ : Mem) (post : Int32 → Mem → Prop) (h : T_X10_changeSize x1 x2 μ post) : MetX l D A w shX 58 yX10_changeSize cX10_changeSize 3 (some .int) rm_X10_changeSize [.ref (w.1 13), .int x1, .int x2] μ (pI post) := by
  refine metX_of (by decide) rfl (lv := [(0, .ref (w.1 13)), (1, .int x1), (2, .int x2)]) rfl (fun X hX g hR => ?_)
  refine r_aload_n (pc := 0) 0 g dX10_changeSize_0 rfl ?_
  refine r_dup (pc := 1) g dX10_changeSize_1 rfl ?_
  refine r_geti (pc := 2) (μ := μ) g dX10_changeSize_2 fa_RX10_43 shX_out sX_13 rfl ?_
  refine r_iconst (pc := 5) g dX10_changeSize_5 ci_1 ?_
  refine r_iadd (pc := 6) g dX10_changeSize_6 ?_
  refine r_puti (pc := 7) (μ := μ) g dX10_changeSize_7 fp_RX10_43 shX_out sX_13 rfl ?_
  refine r_aload_n (pc := 10) 0 g dX10_changeSize_10 rfl ?_
  refine r_getr (pc := 11) (μ := mset μ 13 5 ((μ 13 5) + 1)) g dX10_changeSize_11 fa_RX10_21 shX_out sX_13 rfl ?_
  refine r_iload_n (pc := 14) 1 g dX10_changeSize_14 rfl ?_
  refine r_iload_n (pc := 15) 2 g dX10_changeSize_15 rfl ?_
  refine r_callVi (pc := 16) (st := []) g hX dX10_changeSize_16 (m_X5_change 16 (Or.inl rfl) x1 x2 (mset μ 13 5 ((μ 13 5) + 1)) _ h) kb_RX10_39 kv_X5_change shX_out (sc_0 (Or.inl rfl)) rfl rfl rfl rfl (fun u1 μ2 h => ?_)
  exact r_ireti (pc := 19) g hR dX10_changeSize_19 h
abbrev rm_X10_isBefore : Room := { frames := 0, cells := 0, slots := 0, locals := 0 }
def T_X10_isBefore (x1 : Int32) (x2 : Int32) (μ : Mem) (post : Int32 → Mem → Prop) : Prop :=
  vp_in x2 9 ∧ (((((μ 15 x2.toNatClampNeg) >>> (x1 &&& 31)) &&& 1) = 0 → post 0 μ) ∧ (¬ (((μ 15 x2.toNatClampNeg) >>> (x1 &&& 31)) &&& 1) = 0 → post 1 μ))
theorem m_X10_isBefore {w : Wd} {l : Launch} {D : va_G} {A : Nat → Prop} (x1 : Int32) (x2 : Int32) (μ : Mem) (post : Int32 → Mem → Prop) (h : T_X10_isBefore x1 x2 μ post) : MetX l D A w shX 58 yX10_isBefore cX10_isBefore 3 (some .boolean) rm_X10_isBefore [.ref (w.1 13), .int x1, .int x2] μ (pI post) := by
  refine metX_of (by decide) rfl (lv := [(0, .ref (w.1 13)), (1, .int x1), (2, .int x2)]) rfl (fun X hX g hR => ?_)
  refine r_aload_n (pc := 0) 0 g dX10_isBefore_0 rfl ?_
  refine r_getr (pc := 1) (μ := μ) g dX10_isBefore_1 fa_RX10_15 shX_out sX_13 rfl ?_
  refine r_iload_n (pc := 4) 2 g dX10_isBefore_4 rfl ?_
  obtain ⟨b1, h⟩ := h
  refine r_iaload (pc := 5) (μ := μ) g dX10_isBefore_5 shX_out sX_15 b1 ?_
  refine r_iload_n (pc := 6) 1 g dX10_isBefore_6 rfl ?_
  refine r_ishr (pc := 7) g dX10_isBefore_7 ?_
  refine r_iconst (pc := 8) g dX10_isBefore_8 ci_1 ?_
  refine r_iand (pc := 9) g dX10_isBefore_9 ?_
  refine r_if_eq (pc := 10) 17 g dX10_isBefore_10 rfl (fun q => ?_) (fun q => ?_)
  · have h := h.1 q
    refine r_iconst (pc := 17) g dX10_isBefore_17 ci_0 ?_
    exact r_zreti (pc := 18) g hR dX10_isBefore_18 (Or.inl rfl) h
  · have h := h.2 q
    refine r_iconst (pc := 13) g dX10_isBefore_13 ci_1 ?_
    refine r_goto (pc := 14) 18 g dX10_isBefore_14 rfl ?_
    exact r_zreti (pc := 18) g hR dX10_isBefore_18 (Or.inr rfl) h
abbrev rm_X10_turnBefore : Room := { frames := 0, cells := 0, slots := 0, locals := 0 }
def T_X10_turnBefore (x1 : Int32) (x2 : Int32) (μ : Mem) (post : Mem → Prop) : Prop :=
  vp_in x2 9 ∧ vp_in x2 9 ∧ post (mset (mset μ 15 x2.toNatClampNeg ((μ 15 x2.toNatClampNeg) ^^^ ((1 : Int32) <<< (x1 &&& 31)))) 13 5 (((mset μ 15 x2.toNatClampNeg ((μ 15 x2.toNatClampNeg) ^^^ ((1 : Int32) <<< (x1 &&& 31)))) 13 5) + 1))
theorem m_X10_turnBefore {w : Wd} {l : Launch} {D : va_G} {A : Nat → Prop} (x1 : Int32) (x2 : Int32) (μ : Mem) (post : Mem → Prop) (h : T_X10_turnBefore x1 x2 μ post) : MetX l D A w shX 58 yX10_turnBefore cX10_turnBefore 3 none rm_X10_turnBefore [.ref (w.1 13), .int x1, .int x2] μ (pV post) := by
  refine metX_of (by decide) rfl (lv := [(0, .ref (w.1 13)), (1, .int x1), (2, .int x2)]) rfl (fun X hX g hR => ?_)
  refine r_aload_n (pc := 0) 0 g dX10_turnBefore_0 rfl ?_
  refine r_getr (pc := 1) (μ := μ) g dX10_turnBefore_1 fa_RX10_15 shX_out sX_13 rfl ?_
  refine r_iload_n (pc := 4) 2 g dX10_turnBefore_4 rfl ?_
  refine r_dup2 (pc := 5) g dX10_turnBefore_5 rfl rfl ?_
  obtain ⟨b1, h⟩ := h
  refine r_iaload (pc := 6) (μ := μ) g dX10_turnBefore_6 shX_out sX_15 b1 ?_
  refine r_iconst (pc := 7) g dX10_turnBefore_7 ci_1 ?_
  refine r_iload_n (pc := 8) 1 g dX10_turnBefore_8 rfl ?_
  refine r_ishl (pc := 9) g dX10_turnBefore_9 ?_
  refine r_ixor (pc := 10) g dX10_turnBefore_10 ?_
  obtain ⟨b2, h⟩ := h
  refine r_iastore (pc := 11) (μ := μ) g dX10_turnBefore_11 shX_out sX_15 b2 ?_
  refine r_aload_n (pc := 12) 0 g dX10_turnBefore_12 rfl ?_
  refine r_dup (pc := 13) g dX10_turnBefore_13 rfl ?_
  refine r_geti (pc := 14) (μ := mset μ 15 x2.toNatClampNeg ((μ 15 x2.toNatClampNeg) ^^^ ((1 : Int32) <<< (x1 &&& 31)))) g dX10_turnBefore_14 fa_RX10_43 shX_out sX_13 rfl ?_
  refine r_iconst (pc := 17) g dX10_turnBefore_17 ci_1 ?_
  refine r_iadd (pc := 18) g dX10_turnBefore_18 ?_
  refine r_puti (pc := 19) (μ := mset μ 15 x2.toNatClampNeg ((μ 15 x2.toNatClampNeg) ^^^ ((1 : Int32) <<< (x1 &&& 31)))) g dX10_turnBefore_19 fp_RX10_43 shX_out sX_13 rfl ?_
  exact r_vretv (pc := 22) g hR dX10_turnBefore_22 h
abbrev rm_X10_comesAhead : Room := { frames := 0, cells := 0, slots := 0, locals := 0 }
def B_X10_comesAhead_22 (post : Int32 → Mem → Prop) (P10 : Int32 → Int32 → Int32 → Mem → Prop) (P22 : Int32 → Int32 → Int32 → Int32 → Mem → Prop) (x1 : Int32) (x3 : Int32) (x4 : Int32) (x5 : Int32) (μ : Mem) : Prop :=
  (((μ 13 4) ≤ x5 → P10 x1 x3 (x4 + 1) μ) ∧ (¬ (μ 13 4) ≤ x5 → ((((x3 >>> (x5 &&& 31)) &&& 1) = 0 → P22 x1 x3 x4 (x5 + 1) μ) ∧ (¬ ((x3 >>> (x5 &&& 31)) &&& 1) = 0 → vp_in x5 9 ∧ P22 x1 (x3 ||| (μ 15 x5.toNatClampNeg)) x4 (x5 + 1) μ))))
def T_X10_comesAhead_22 (post : Int32 → Mem → Prop) (P10 : Int32 → Int32 → Int32 → Mem → Prop) (x1 : Int32) (x3 : Int32) (x4 : Int32) (x5 : Int32) (μ : Mem) : Prop :=
  ∀ P22 : Int32 → Int32 → Int32 → Int32 → Mem → Prop, (∀ (x1 : Int32) (x3 : Int32) (x4 : Int32) (x5 : Int32) (μ : Mem), B_X10_comesAhead_22 post P10 P22 x1 x3 x4 x5 μ → P22 x1 x3 x4 x5 μ) → P22 x1 x3 x4 x5 μ
theorem bv_X10_comesAhead_22 {X : Cx} {w : Wd} {l : Launch} {D : va_G} {A : Nat → Prop} (g : Gd X w RX10 cX10_comesAhead 6 rm_X10_comesAhead) (hX : atX X l D A) (post : Int32 → Mem → Prop) (hR : Rt X w shX 58 (some .boolean) (pI post)) (P10 : Int32 → Int32 → Int32 → Mem → Prop) (hP10 : ∀ (x1 : Int32) (x3 : Int32) (x4 : Int32) (μ : Mem), P10 x1 x3 x4 μ → V X 10 [(0, .ref (w.1 13)), (1, .int x1), (3, .int x3), (4, .int x4)] [] (wls w shX 58 μ)) (P22 : Int32 → Int32 → Int32 → Int32 → Mem → Prop) (hP22 : ∀ (x1 : Int32) (x3 : Int32) (x4 : Int32) (x5 : Int32) (μ : Mem), P22 x1 x3 x4 x5 μ → V X 22 [(0, .ref (w.1 13)), (1, .int x1), (3, .int x3), (4, .int x4), (5, .int x5)] [] (wls w shX 58 μ)) (x1 : Int32) (x3 : Int32) (x4 : Int32) (x5 : Int32) (μ : Mem) (h : B_X10_comesAhead_22 post P10 P22 x1 x3 x4 x5 μ) : V X 22 [(0, .ref (w.1 13)), (1, .int x1), (3, .int x3), (4, .int x4), (5, .int x5)] [] (wls w shX 58 μ) := by
  refine r_iload (pc := 22) 4 g dX10_comesAhead_22 rfl ?_
  refine r_aload_n (pc := 24) 0 g dX10_comesAhead_24 rfl ?_
  refine r_geti (pc := 25) (μ := μ) g dX10_comesAhead_25 fa_RX10_28 shX_out sX_13 rfl ?_
  refine r_icmp_ge (pc := 28) 56 g dX10_comesAhead_28 rfl (fun q => ?_) (fun q => ?_)
  · have h := h.1 q
    refine r_iinc (pc := 56) (lv' := [(4, .int (x4 + 1)), (0, .ref (w.1 13)), (1, .int x1), (3, .int x3), (5, .int x5)]) 3 g dX10_comesAhead_56 rfl ci_1 rfl rfl ?_
    refine r_goto (pc := 59) 10 g dX10_comesAhead_59 rfl ?_
    refine r_sub [1, 2, 3, 0] (lv' := [(0, .ref (w.1 13)), (1, .int x1), (3, .int x3), (4, .int (x4 + 1))]) rfl ?_
    exact hP10 x1 x3 (x4 + 1) μ h
  · have h := h.2 q
    refine r_iload_n (pc := 31) 2 g dX10_comesAhead_31 rfl ?_
    refine r_iload (pc := 32) 4 g dX10_comesAhead_32 rfl ?_
    refine r_ishr (pc := 34) g dX10_comesAhead_34 ?_
    refine r_iconst (pc := 35) g dX10_comesAhead_35 ci_1 ?_
    refine r_iand (pc := 36) g dX10_comesAhead_36 ?_
    refine r_if_eq (pc := 37) 50 g dX10_comesAhead_37 rfl (fun q => ?_) (fun q => ?_)
    · have h := h.1 q
      refine r_iinc (pc := 50) (lv' := [(5, .int (x5 + 1)), (0, .ref (w.1 13)), (1, .int x1), (3, .int x3), (4, .int x4)]) 4 g dX10_comesAhead_50 rfl ci_1 rfl rfl ?_
      refine r_goto (pc := 53) 22 g dX10_comesAhead_53 rfl ?_
      refine r_sub [1, 2, 3, 4, 0] (lv' := [(0, .ref (w.1 13)), (1, .int x1), (3, .int x3), (4, .int x4), (5, .int (x5 + 1))]) rfl ?_
      exact hP22 x1 x3 x4 (x5 + 1) μ h
    · have h := h.2 q
      refine r_iload_n (pc := 40) 2 g dX10_comesAhead_40 rfl ?_
      refine r_aload_n (pc := 41) 0 g dX10_comesAhead_41 rfl ?_
      refine r_getr (pc := 42) (μ := μ) g dX10_comesAhead_42 fa_RX10_15 shX_out sX_13 rfl ?_
      refine r_iload (pc := 45) 4 g dX10_comesAhead_45 rfl ?_
      obtain ⟨b1, h⟩ := h
      refine r_iaload (pc := 47) (μ := μ) g dX10_comesAhead_47 shX_out sX_15 b1 ?_
      refine r_ior (pc := 48) g dX10_comesAhead_48 ?_
      refine r_istore_n (pc := 49) (lv' := [(3, .int (x3 ||| (μ 15 x5.toNatClampNeg))), (0, .ref (w.1 13)), (1, .int x1), (4, .int x4), (5, .int x5)]) g dX10_comesAhead_49 rfl rfl ?_
      refine r_iinc (pc := 50) (lv' := [(5, .int (x5 + 1)), (3, .int (x3 ||| (μ 15 x5.toNatClampNeg))), (0, .ref (w.1 13)), (1, .int x1), (4, .int x4)]) 4 g dX10_comesAhead_50 rfl ci_1 rfl rfl ?_
      refine r_goto (pc := 53) 22 g dX10_comesAhead_53 rfl ?_
      refine r_sub [2, 3, 1, 4, 0] (lv' := [(0, .ref (w.1 13)), (1, .int x1), (3, .int (x3 ||| (μ 15 x5.toNatClampNeg))), (4, .int x4), (5, .int (x5 + 1))]) rfl ?_
      exact hP22 x1 (x3 ||| (μ 15 x5.toNatClampNeg)) x4 (x5 + 1) μ h
theorem v_X10_comesAhead_22 {X : Cx} {w : Wd} {l : Launch} {D : va_G} {A : Nat → Prop} (g : Gd X w RX10 cX10_comesAhead 6 rm_X10_comesAhead) (hX : atX X l D A) (post : Int32 → Mem → Prop) (hR : Rt X w shX 58 (some .boolean) (pI post)) (P10 : Int32 → Int32 → Int32 → Mem → Prop) (hP10 : ∀ (x1 : Int32) (x3 : Int32) (x4 : Int32) (μ : Mem), P10 x1 x3 x4 μ → V X 10 [(0, .ref (w.1 13)), (1, .int x1), (3, .int x3), (4, .int x4)] [] (wls w shX 58 μ)) (x1 : Int32) (x3 : Int32) (x4 : Int32) (x5 : Int32) (μ : Mem) (h : T_X10_comesAhead_22 post P10 x1 x3 x4 x5 μ) : V X 22 [(0, .ref (w.1 13)), (1, .int x1), (3, .int x3), (4, .int x4), (5, .int x5)] [] (wls w shX 58 μ) :=
  h (fun x1 x3 x4 x5 μ => V X 22 [(0, .ref (w.1 13)), (1, .int x1), (3, .int x3), (4, .int x4), (5, .int x5)] [] (wls w shX 58 μ)) (fun x1 x3 x4 x5 μ h => bv_X10_comesAhead_22 g hX post hR P10 hP10 (fun x1 x3 x4 x5 μ => V X 22 [(0, .ref (w.1 13)), (1, .int x1), (3, .int x3), (4, .int x4), (5, .int x5)] [] (wls w shX 58 μ)) (fun _ _ _ _ _ h => h) x1 x3 x4 x5 μ h)
def B_X10_comesAhead_10 (post : Int32 → Mem → Prop) (P10 : Int32 → Int32 → Int32 → Mem → Prop) (x1 : Int32) (x3 : Int32) (x4 : Int32) (μ : Mem) : Prop :=
  (((μ 13 4) ≤ x4 → ((((x3 >>> (x1 &&& 31)) &&& 1) = 0 → post 0 μ) ∧ (¬ ((x3 >>> (x1 &&& 31)) &&& 1) = 0 → post 1 μ))) ∧ (¬ (μ 13 4) ≤ x4 → T_X10_comesAhead_22 post P10 x1 x3 x4 0 μ))
def T_X10_comesAhead_10 (post : Int32 → Mem → Prop) (x1 : Int32) (x3 : Int32) (x4 : Int32) (μ : Mem) : Prop :=
  ∀ P10 : Int32 → Int32 → Int32 → Mem → Prop, (∀ (x1 : Int32) (x3 : Int32) (x4 : Int32) (μ : Mem), B_X10_comesAhead_10 post P10 x1 x3 x4 μ → P10 x1 x3 x4 μ) → P10 x1 x3 x4 μ
theorem bv_X10_comesAhead_10 {X : Cx} {w : Wd} {l : Launch} {D : va_G} {A : Nat → Prop} (g : Gd X w RX10 cX10_comesAhead 6 rm_X10_comesAhead) (hX : atX X l D A) (post : Int32 → Mem → Prop) (hR : Rt X w shX 58 (some .boolean) (pI post)) (P10 : Int32 → Int32 → Int32 → Mem → Prop) (hP10 : ∀ (x1 : Int32) (x3 : Int32) (x4 : Int32) (μ : Mem), P10 x1 x3 x4 μ → V X 10 [(0, .ref (w.1 13)), (1, .int x1), (3, .int x3), (4, .int x4)] [] (wls w shX 58 μ)) (x1 : Int32) (x3 : Int32) (x4 : Int32) (μ : Mem) (h : B_X10_comesAhead_10 post P10 x1 x3 x4 μ) : V X 10 [(0, .ref (w.1 13)), (1, .int x1), (3, .int x3), (4, .int x4)] [] (wls w shX 58 μ) := by
  refine r_iload (pc := 10) 3 g dX10_comesAhead_10 rfl ?_
  refine r_aload_n (pc := 12) 0 g dX10_comesAhead_12 rfl ?_
  refine r_geti (pc := 13) (μ := μ) g dX10_comesAhead_13 fa_RX10_28 shX_out sX_13 rfl ?_
  refine r_icmp_ge (pc := 16) 62 g dX10_comesAhead_16 rfl (fun q => ?_) (fun q => ?_)
  · have h := h.1 q
    refine r_iload_n (pc := 62) 2 g dX10_comesAhead_62 rfl ?_
    refine r_iload_n (pc := 63) 1 g dX10_comesAhead_63 rfl ?_
    refine r_ishr (pc := 64) g dX10_comesAhead_64 ?_
    refine r_iconst (pc := 65) g dX10_comesAhead_65 ci_1 ?_
    refine r_iand (pc := 66) g dX10_comesAhead_66 ?_
    refine r_if_eq (pc := 67) 74 g dX10_comesAhead_67 rfl (fun q => ?_) (fun q => ?_)
    · have h := h.1 q
      refine r_iconst (pc := 74) g dX10_comesAhead_74 ci_0 ?_
      exact r_zreti (pc := 75) g hR dX10_comesAhead_75 (Or.inl rfl) h
    · have h := h.2 q
      refine r_iconst (pc := 70) g dX10_comesAhead_70 ci_1 ?_
      refine r_goto (pc := 71) 75 g dX10_comesAhead_71 rfl ?_
      exact r_zreti (pc := 75) g hR dX10_comesAhead_75 (Or.inr rfl) h
  · have h := h.2 q
    refine r_iconst (pc := 19) g dX10_comesAhead_19 ci_0 ?_
    refine r_istore (pc := 20) (lv' := [(5, .int 0), (0, .ref (w.1 13)), (1, .int x1), (3, .int x3), (4, .int x4)]) g dX10_comesAhead_20 rfl rfl ?_
    refine r_sub [1, 2, 3, 4, 0] (lv' := [(0, .ref (w.1 13)), (1, .int x1), (3, .int x3), (4, .int x4), (5, .int 0)]) rfl ?_
    exact v_X10_comesAhead_22 g hX post hR P10 hP10 x1 x3 x4 0 μ h
theorem v_X10_comesAhead_10 {X : Cx} {w : Wd} {l : Launch} {D : va_G} {A : Nat → Prop} (g : Gd X w RX10 cX10_comesAhead 6 rm_X10_comesAhead) (hX : atX X l D A) (post : Int32 → Mem → Prop) (hR : Rt X w shX 58 (some .boolean) (pI post)) (x1 : Int32) (x3 : Int32) (x4 : Int32) (μ : Mem) (h : T_X10_comesAhead_10 post x1 x3 x4 μ) : V X 10 [(0, .ref (w.1 13)), (1, .int x1), (3, .int x3), (4, .int x4)] [] (wls w shX 58 μ) :=
  h (fun x1 x3 x4 μ => V X 10 [(0, .ref (w.1 13)), (1, .int x1), (3, .int x3), (4, .int x4)] [] (wls w shX 58 μ)) (fun x1 x3 x4 μ h => bv_X10_comesAhead_10 g hX post hR (fun x1 x3 x4 μ => V X 10 [(0, .ref (w.1 13)), (1, .int x1), (3, .int x3), (4, .int x4)] [] (wls w shX 58 μ)) (fun _ _ _ _ h => h) x1 x3 x4 μ h)
def T_X10_comesAhead (x1 : Int32) (x2 : Int32) (μ : Mem) (post : Int32 → Mem → Prop) : Prop :=
  vp_in x2 9 ∧ T_X10_comesAhead_10 post x1 (μ 15 x2.toNatClampNeg) 0 μ
theorem m_X10_comesAhead {w : Wd} {l : Launch} {D : va_G} {A : Nat → Prop} (x1 : Int32) (x2 : Int32) (μ : Mem) (post : Int32 → Mem → Prop) (h : T_X10_comesAhead x1 x2 μ post) : MetX l D A w shX 58 yX10_comesAhead cX10_comesAhead 6 (some .boolean) rm_X10_comesAhead [.ref (w.1 13), .int x1, .int x2] μ (pI post) := by
  refine metX_of (by decide) rfl (lv := [(0, .ref (w.1 13)), (1, .int x1), (2, .int x2)]) rfl (fun X hX g hR => ?_)
  refine r_aload_n (pc := 0) 0 g dX10_comesAhead_0 rfl ?_
  refine r_getr (pc := 1) (μ := μ) g dX10_comesAhead_1 fa_RX10_15 shX_out sX_13 rfl ?_
  refine r_iload_n (pc := 4) 2 g dX10_comesAhead_4 rfl ?_
  obtain ⟨b1, h⟩ := h
  refine r_iaload (pc := 5) (μ := μ) g dX10_comesAhead_5 shX_out sX_15 b1 ?_
  refine r_istore_n (pc := 6) (lv' := [(3, .int (μ 15 x2.toNatClampNeg)), (0, .ref (w.1 13)), (1, .int x1), (2, .int x2)]) g dX10_comesAhead_6 rfl rfl ?_
  refine r_iconst (pc := 7) g dX10_comesAhead_7 ci_0 ?_
  refine r_istore (pc := 8) (lv' := [(4, .int 0), (3, .int (μ 15 x2.toNatClampNeg)), (0, .ref (w.1 13)), (1, .int x1), (2, .int x2)]) g dX10_comesAhead_8 rfl rfl ?_
  refine r_sub [2, 3, 1, 0] (lv' := [(0, .ref (w.1 13)), (1, .int x1), (3, .int (μ 15 x2.toNatClampNeg)), (4, .int 0)]) rfl ?_
  exact v_X10_comesAhead_10 g hX post hR x1 (μ 15 x2.toNatClampNeg) 0 μ h
abbrev rm_X10_countBefores : Room := { frames := 1, cells := 0, slots := 0, locals := 20 }
def B_X10_countBefores_4 (post : Int32 → Mem → Prop) (P4 : Int32 → Int32 → Mem → Prop) (x1 : Int32) (x2 : Int32) (μ : Mem) : Prop :=
  (((μ 13 4) ≤ x2 → post x1 μ) ∧ (¬ (μ 13 4) ≤ x2 → vp_in x2 9 ∧ T_J6_bitCount_0f7a4 (μ 15 x2.toNatClampNeg) μ (fun (u2 : Int32) (μ3 : Mem) => P4 (x1 + u2) (x2 + 1) μ3)))
def T_X10_countBefores_4 (post : Int32 → Mem → Prop) (x1 : Int32) (x2 : Int32) (μ : Mem) : Prop :=
  ∀ P4 : Int32 → Int32 → Mem → Prop, (∀ (x1 : Int32) (x2 : Int32) (μ : Mem), B_X10_countBefores_4 post P4 x1 x2 μ → P4 x1 x2 μ) → P4 x1 x2 μ
theorem bv_X10_countBefores_4 {X : Cx} {w : Wd} {l : Launch} {D : va_G} {A : Nat → Prop} (g : Gd X w RX10 cX10_countBefores 3 rm_X10_countBefores) (hX : atX X l D A) (post : Int32 → Mem → Prop) (hR : Rt X w shX 58 (some .int) (pI post)) (P4 : Int32 → Int32 → Mem → Prop) (hP4 : ∀ (x1 : Int32) (x2 : Int32) (μ : Mem), P4 x1 x2 μ → V X 4 [(0, .ref (w.1 13)), (1, .int x1), (2, .int x2)] [] (wls w shX 58 μ)) (x1 : Int32) (x2 : Int32) (μ : Mem) (h : B_X10_countBefores_4 post P4 x1 x2 μ) : V X 4 [(0, .ref (w.1 13)), (1, .int x1), (2, .int x2)] [] (wls w shX 58 μ) := by
  refine r_iload_n (pc := 4) 2 g dX10_countBefores_4 rfl ?_
  refine r_aload_n (pc := 5) 0 g dX10_countBefores_5 rfl ?_
  refine r_geti (pc := 6) (μ := μ) g dX10_countBefores_6 fa_RX10_28 shX_out sX_13 rfl ?_
  refine r_icmp_ge (pc := 9) 30 g dX10_countBefores_9 rfl (fun q => ?_) (fun q => ?_)
  · have h := h.1 q
    refine r_iload_n (pc := 30) 1 g dX10_countBefores_30 rfl ?_
    exact r_ireti (pc := 31) g hR dX10_countBefores_31 h
  · have h := h.2 q
    refine r_iload_n (pc := 12) 1 g dX10_countBefores_12 rfl ?_
    refine r_aload_n (pc := 13) 0 g dX10_countBefores_13 rfl ?_
    refine r_getr (pc := 14) (μ := μ) g dX10_countBefores_14 fa_RX10_15 shX_out sX_13 rfl ?_
    refine r_iload_n (pc := 17) 2 g dX10_countBefores_17 rfl ?_
    obtain ⟨b1, h⟩ := h
    refine r_iaload (pc := 18) (μ := μ) g dX10_countBefores_18 shX_out sX_15 b1 ?_
    refine r_callSi (pc := 19) (st := [.int x1]) g hX dX10_countBefores_19 (m_J6_bitCount_0f7a4 (μ 15 x2.toNatClampNeg) μ _ h) kb_RX10_55 k_174 rfl rfl rfl rfl (fun u2 μ3 h => ?_)
    refine r_iadd (pc := 22) g dX10_countBefores_22 ?_
    refine r_istore_n (pc := 23) (lv' := [(1, .int (x1 + u2)), (0, .ref (w.1 13)), (2, .int x2)]) g dX10_countBefores_23 rfl rfl ?_
    refine r_iinc (pc := 24) (lv' := [(2, .int (x2 + 1)), (1, .int (x1 + u2)), (0, .ref (w.1 13))]) 2 g dX10_countBefores_24 rfl ci_1 rfl rfl ?_
    refine r_goto (pc := 27) 4 g dX10_countBefores_27 rfl ?_
    refine r_sub [2, 1, 0] (lv' := [(0, .ref (w.1 13)), (1, .int (x1 + u2)), (2, .int (x2 + 1))]) rfl ?_
    exact hP4 (x1 + u2) (x2 + 1) μ3 h
theorem v_X10_countBefores_4 {X : Cx} {w : Wd} {l : Launch} {D : va_G} {A : Nat → Prop} (g : Gd X w RX10 cX10_countBefores 3 rm_X10_countBefores) (hX : atX X l D A) (post : Int32 → Mem → Prop) (hR : Rt X w shX 58 (some .int) (pI post)) (x1 : Int32) (x2 : Int32) (μ : Mem) (h : T_X10_countBefores_4 post x1 x2 μ) : V X 4 [(0, .ref (w.1 13)), (1, .int x1), (2, .int x2)] [] (wls w shX 58 μ) :=
  h (fun x1 x2 μ => V X 4 [(0, .ref (w.1 13)), (1, .int x1), (2, .int x2)] [] (wls w shX 58 μ)) (fun x1 x2 μ h => bv_X10_countBefores_4 g hX post hR (fun x1 x2 μ => V X 4 [(0, .ref (w.1 13)), (1, .int x1), (2, .int x2)] [] (wls w shX 58 μ)) (fun _ _ _ h => h) x1 x2 μ h)
def T_X10_countBefores (μ : Mem) (post : Int32 → Mem → Prop) : Prop :=
  T_X10_countBefores_4 post 0 0 μ
theorem m_X10_countBefores {w : Wd} {l : Launch} {D : va_G} {A : Nat → Prop} (μ : Mem) (post : Int32 → Mem → Prop) (h : T_X10_countBefores μ post) : MetX l D A w shX 58 yX10_countBefores cX10_countBefores 3 (some .int) rm_X10_countBefores [.ref (w.1 13)] μ (pI post) := by
  refine metX_of (by decide) rfl (lv := [(0, .ref (w.1 13))]) rfl (fun X hX g hR => ?_)
  refine r_iconst (pc := 0) g dX10_countBefores_0 ci_0 ?_
  refine r_istore_n (pc := 1) (lv' := [(1, .int 0), (0, .ref (w.1 13))]) g dX10_countBefores_1 rfl rfl ?_
  refine r_iconst (pc := 2) g dX10_countBefores_2 ci_0 ?_
  refine r_istore_n (pc := 3) (lv' := [(2, .int 0), (1, .int 0), (0, .ref (w.1 13))]) g dX10_countBefores_3 rfl rfl ?_
  refine r_sub [2, 1, 0] (lv' := [(0, .ref (w.1 13)), (1, .int 0), (2, .int 0)]) rfl ?_
  exact v_X10_countBefores_4 g hX post hR 0 0 μ h
abbrev rm_X10_score : Room := { frames := 1, cells := 0, slots := 0, locals := 23 }
def T_X10_score (x1 : Int32) (x2 : Int32) (x3 : Int32) (μ : Mem) (post : Int32 → Mem → Prop) : Prop :=
  T_X10_all μ (fun (u1 : Int32) (μ2 : Mem) => vp_in x2 9 ∧ T_X10_neededBy ((u1 &&& (x3 ^^^ (-1))) &&& (((1 : Int32) <<< (x2 &&& 31)) ^^^ (-1))) μ2 (fun (u4 : Int32) (μ5 : Mem) => T_X5_sum 16 ((μ2 14 x2.toNatClampNeg) &&& (u4 ^^^ (-1))) μ5 (fun (u6 : Int32) (μ7 : Mem) => vp_in x2 9 ∧ T_X10_neededBy x3 μ7 (fun (u9 : Int32) (μ10 : Mem) => T_X5_sum 16 ((μ7 14 x2.toNatClampNeg) &&& (u9 ^^^ (-1))) μ10 (fun (u11 : Int32) (μ12 : Mem) => ((¬ x1 = 0 → ((¬ x1 = 1 → post (u11 - u6) μ12) ∧ (x1 = 1 → post u11 μ12))) ∧ (x1 = 0 → post (-u6) μ12)))))))
theorem m_X10_score {w : Wd} {l : Launch} {D : va_G} {A : Nat → Prop} (x1 : Int32) (x2 : Int32) (x3 : Int32) (μ : Mem) (post : Int32 → Mem → Prop) (h : T_X10_score x1 x2 x3 μ post) : MetX l D A w shX 58 yX10_score cX10_score 7 (some .int) rm_X10_score [.ref (w.1 13), .int x1, .int x2, .int x3] μ (pI post) := by
  refine metX_of (by decide) rfl (lv := [(0, .ref (w.1 13)), (1, .int x1), (2, .int x2), (3, .int x3)]) rfl (fun X hX g hR => ?_)
  refine r_aload_n (pc := 0) 0 g dX10_score_0 rfl ?_
  refine r_callVi (pc := 1) (st := []) g hX dX10_score_1 (m_X10_all μ _ h) kb_RX10_65 kv_X10_all shX_out sX_13 rfl rfl rfl rfl (fun u1 μ2 h => ?_)
  refine r_iload_n (pc := 4) 3 g dX10_score_4 rfl ?_
  refine r_iconst (pc := 5) g dX10_score_5 ci_m1 ?_
  refine r_ixor (pc := 6) g dX10_score_6 ?_
  refine r_iand (pc := 7) g dX10_score_7 ?_
  refine r_iconst (pc := 8) g dX10_score_8 ci_1 ?_
  refine r_iload_n (pc := 9) 2 g dX10_score_9 rfl ?_
  refine r_ishl (pc := 10) g dX10_score_10 ?_
  refine r_iconst (pc := 11) g dX10_score_11 ci_m1 ?_
  refine r_ixor (pc := 12) g dX10_score_12 ?_
  refine r_iand (pc := 13) g dX10_score_13 ?_
  refine r_istore (pc := 14) (lv' := [(4, .int ((u1 &&& (x3 ^^^ (-1))) &&& (((1 : Int32) <<< (x2 &&& 31)) ^^^ (-1)))), (0, .ref (w.1 13)), (1, .int x1), (2, .int x2), (3, .int x3)]) g dX10_score_14 rfl rfl ?_
  refine r_aload_n (pc := 16) 1 g dX10_score_16 rfl ?_
  refine r_getr (pc := 17) (μ := μ2) g dX10_score_17 fa_RX10_21 shX_out sX_13 rfl ?_
  refine r_aload_n (pc := 20) 1 g dX10_score_20 rfl ?_
  refine r_getr (pc := 21) (μ := μ2) g dX10_score_21 fa_RX10_9 shX_out sX_13 rfl ?_
  refine r_iload_n (pc := 24) 3 g dX10_score_24 rfl ?_
  obtain ⟨b3, h⟩ := h
  refine r_iaload (pc := 25) (μ := μ2) g dX10_score_25 shX_out sX_14 b3 ?_
  refine r_aload_n (pc := 26) 1 g dX10_score_26 rfl ?_
  refine r_iload (pc := 27) 0 g dX10_score_27 rfl ?_
  refine r_callVi (pc := 29) (st := [.int (μ2 14 x2.toNatClampNeg), .ref (w.1 16)]) g hX dX10_score_29 (m_X10_neededBy ((u1 &&& (x3 ^^^ (-1))) &&& (((1 : Int32) <<< (x2 &&& 31)) ^^^ (-1))) μ2 _ h) kb_RX10_69 kv_X10_neededBy shX_out sX_13 rfl rfl rfl rfl (fun u4 μ5 h => ?_)
  refine r_iconst (pc := 32) g dX10_score_32 ci_m1 ?_
  refine r_ixor (pc := 33) g dX10_score_33 ?_
  refine r_iand (pc := 34) g dX10_score_34 ?_
  refine r_callVi (pc := 35) (st := []) g hX dX10_score_35 (m_X5_sum 16 (Or.inl rfl) ((μ2 14 x2.toNatClampNeg) &&& (u4 ^^^ (-1))) μ5 _ h) kb_RX10_46 kv_X5_sum shX_out (sc_0 (Or.inl rfl)) rfl rfl rfl rfl (fun u6 μ7 h => ?_)
  refine r_istore (pc := 38) (lv' := [(5, .int u6), (4, .int ((u1 &&& (x3 ^^^ (-1))) &&& (((1 : Int32) <<< (x2 &&& 31)) ^^^ (-1)))), (0, .ref (w.1 13)), (1, .int x1), (2, .int x2), (3, .int x3)]) g dX10_score_38 rfl rfl ?_
  refine r_aload_n (pc := 40) 2 g dX10_score_40 rfl ?_
  refine r_getr (pc := 41) (μ := μ7) g dX10_score_41 fa_RX10_21 shX_out sX_13 rfl ?_
  refine r_aload_n (pc := 44) 2 g dX10_score_44 rfl ?_
  refine r_getr (pc := 45) (μ := μ7) g dX10_score_45 fa_RX10_9 shX_out sX_13 rfl ?_
  refine r_iload_n (pc := 48) 4 g dX10_score_48 rfl ?_
  obtain ⟨b8, h⟩ := h
  refine r_iaload (pc := 49) (μ := μ7) g dX10_score_49 shX_out sX_14 b8 ?_
  refine r_aload_n (pc := 50) 2 g dX10_score_50 rfl ?_
  refine r_iload_n (pc := 51) 5 g dX10_score_51 rfl ?_
  refine r_callVi (pc := 52) (st := [.int (μ7 14 x2.toNatClampNeg), .ref (w.1 16)]) g hX dX10_score_52 (m_X10_neededBy x3 μ7 _ h) kb_RX10_69 kv_X10_neededBy shX_out sX_13 rfl rfl rfl rfl (fun u9 μ10 h => ?_)
  refine r_iconst (pc := 55) g dX10_score_55 ci_m1 ?_
  refine r_ixor (pc := 56) g dX10_score_56 ?_
  refine r_iand (pc := 57) g dX10_score_57 ?_
  refine r_callVi (pc := 58) (st := []) g hX dX10_score_58 (m_X5_sum 16 (Or.inl rfl) ((μ7 14 x2.toNatClampNeg) &&& (u9 ^^^ (-1))) μ10 _ h) kb_RX10_46 kv_X5_sum shX_out (sc_0 (Or.inl rfl)) rfl rfl rfl rfl (fun u11 μ12 h => ?_)
  refine r_istore (pc := 61) (lv' := [(6, .int u11), (5, .int u6), (4, .int ((u1 &&& (x3 ^^^ (-1))) &&& (((1 : Int32) <<< (x2 &&& 31)) ^^^ (-1)))), (0, .ref (w.1 13)), (1, .int x1), (2, .int x2), (3, .int x3)]) g dX10_score_61 rfl rfl ?_
  refine r_iload_n (pc := 63) 4 g dX10_score_63 rfl ?_
  refine r_if_ne (pc := 64) 71 g dX10_score_64 rfl (fun q => ?_) (fun q => ?_)
  · have h := h.1 q
    refine r_iload_n (pc := 71) 4 g dX10_score_71 rfl ?_
    refine r_iconst (pc := 72) g dX10_score_72 ci_1 ?_
    refine r_icmp_ne (pc := 73) 81 g dX10_score_73 rfl (fun q => ?_) (fun q => ?_)
    · have h := h.1 q
      refine r_iload (pc := 81) 0 g dX10_score_81 rfl ?_
      refine r_iload (pc := 83) 1 g dX10_score_83 rfl ?_
      refine r_isub (pc := 85) g dX10_score_85 ?_
      exact r_ireti (pc := 86) g hR dX10_score_86 h
    · have h := h.2 q
      refine r_iload (pc := 76) 0 g dX10_score_76 rfl ?_
      refine r_goto (pc := 78) 86 g dX10_score_78 rfl ?_
      exact r_ireti (pc := 86) g hR dX10_score_86 h
  · have h := h.2 q
    refine r_iload (pc := 67) 1 g dX10_score_67 rfl ?_
    refine r_ineg (pc := 69) g dX10_score_69 ?_
    exact r_ireti (pc := 70) g hR dX10_score_70 h
abbrev rm_X10_choose : Room := { frames := 2, cells := 0, slots := 0, locals := 49 }
def T_X10_choose_84 (post : Int32 → Mem → Prop) (x4 : Int32) (μ : Mem) : Prop :=
  post x4 μ
theorem v_X10_choose_84 {X : Cx} {w : Wd} {l : Launch} {D : va_G} {A : Nat → Prop} (g : Gd X w RX10 cX10_choose 9 rm_X10_choose) (hX : atX X l D A) (post : Int32 → Mem → Prop) (hR : Rt X w shX 58 (some .int) (pI post)) (x4 : Int32) (μ : Mem) (h : T_X10_choose_84 post x4 μ) : V X 84 [(4, .int x4)] [] (wls w shX 58 μ) := by
  refine r_iload (pc := 84) 0 g dX10_choose_84 rfl ?_
  exact r_ireti (pc := 86) g hR dX10_choose_86 h
def B_X10_choose_13 (post : Int32 → Mem → Prop) (P13 : Int32 → Int32 → Int32 → Int32 → Int32 → Int32 → Mem → Prop) (x1 : Int32) (x3 : Int32) (x4 : Int32) (x5 : Int32) (x6 : Int32) (x7 : Int32) (μ : Mem) : Prop :=
  (((μ 13 4) ≤ x7 → T_X10_choose_84 post x4 μ) ∧ (¬ (μ 13 4) ≤ x7 → ((x6 ≤ 0 → T_X10_choose_84 post x4 μ) ∧ (¬ x6 ≤ 0 → ((¬ ((x3 >>> (x7 &&& 31)) &&& 1) = 0 → P13 x1 x3 x4 x5 x6 (x7 + 1) μ) ∧ (((x3 >>> (x7 &&& 31)) &&& 1) = 0 → vp_in x7 9 ∧ ((¬ ((μ 15 x7.toNatClampNeg) &&& (x3 ^^^ (-1))) = 0 → P13 x1 x3 x4 x5 x6 (x7 + 1) μ) ∧ (((μ 15 x7.toNatClampNeg) &&& (x3 ^^^ (-1))) = 0 → T_X10_score x1 x7 x3 μ (fun (u2 : Int32) (μ3 : Mem) => ((x5 ≤ u2 → P13 x1 x3 x4 x5 (x6 + (-1)) (x7 + 1) μ3) ∧ (¬ x5 ≤ u2 → P13 x1 x3 x7 u2 (x6 + (-1)) (x7 + 1) μ3)))))))))))
def T_X10_choose_13 (post : Int32 → Mem → Prop) (x1 : Int32) (x3 : Int32) (x4 : Int32) (x5 : Int32) (x6 : Int32) (x7 : Int32) (μ : Mem) : Prop :=
  ∀ P13 : Int32 → Int32 → Int32 → Int32 → Int32 → Int32 → Mem → Prop, (∀ (x1 : Int32) (x3 : Int32) (x4 : Int32) (x5 : Int32) (x6 : Int32) (x7 : Int32) (μ : Mem), B_X10_choose_13 post P13 x1 x3 x4 x5 x6 x7 μ → P13 x1 x3 x4 x5 x6 x7 μ) → P13 x1 x3 x4 x5 x6 x7 μ
theorem bv_X10_choose_13 {X : Cx} {w : Wd} {l : Launch} {D : va_G} {A : Nat → Prop} (g : Gd X w RX10 cX10_choose 9 rm_X10_choose) (hX : atX X l D A) (post : Int32 → Mem → Prop) (hR : Rt X w shX 58 (some .int) (pI post)) (P13 : Int32 → Int32 → Int32 → Int32 → Int32 → Int32 → Mem → Prop) (hP13 : ∀ (x1 : Int32) (x3 : Int32) (x4 : Int32) (x5 : Int32) (x6 : Int32) (x7 : Int32) (μ : Mem), P13 x1 x3 x4 x5 x6 x7 μ → V X 13 [(0, .ref (w.1 13)), (1, .int x1), (3, .int x3), (4, .int x4), (5, .int x5), (6, .int x6), (7, .int x7)] [] (wls w shX 58 μ)) (x1 : Int32) (x3 : Int32) (x4 : Int32) (x5 : Int32) (x6 : Int32) (x7 : Int32) (μ : Mem) (h : B_X10_choose_13 post P13 x1 x3 x4 x5 x6 x7 μ) : V X 13 [(0, .ref (w.1 13)), (1, .int x1), (3, .int x3), (4, .int x4), (5, .int x5), (6, .int x6), (7, .int x7)] [] (wls w shX 58 μ) := by
  refine r_iload (pc := 13) 6 g dX10_choose_13 rfl ?_
  refine r_aload_n (pc := 15) 0 g dX10_choose_15 rfl ?_
  refine r_geti (pc := 16) (μ := μ) g dX10_choose_16 fa_RX10_28 shX_out sX_13 rfl ?_
  refine r_icmp_ge (pc := 19) 84 g dX10_choose_19 rfl (fun q => ?_) (fun q => ?_)
  · have h := h.1 q
    refine r_sub [3] (lv' := [(4, .int x4)]) rfl ?_
    exact v_X10_choose_84 g hX post hR x4 μ h
  · have h := h.2 q
    refine r_iload (pc := 22) 5 g dX10_choose_22 rfl ?_
    refine r_if_le (pc := 24) 84 g dX10_choose_24 rfl (fun q => ?_) (fun q => ?_)
    · have h := h.1 q
      refine r_sub [3] (lv' := [(4, .int x4)]) rfl ?_
      exact v_X10_choose_84 g hX post hR x4 μ h
    · have h := h.2 q
      refine r_iload_n (pc := 27) 2 g dX10_choose_27 rfl ?_
      refine r_iload (pc := 28) 6 g dX10_choose_28 rfl ?_
      refine r_ishr (pc := 30) g dX10_choose_30 ?_
      refine r_iconst (pc := 31) g dX10_choose_31 ci_1 ?_
      refine r_iand (pc := 32) g dX10_choose_32 ?_
      refine r_if_ne (pc := 33) 78 g dX10_choose_33 rfl (fun q => ?_) (fun q => ?_)
      · have h := h.1 q
        refine r_iinc (pc := 78) (lv' := [(7, .int (x7 + 1)), (0, .ref (w.1 13)), (1, .int x1), (3, .int x3), (4, .int x4), (5, .int x5), (6, .int x6)]) 6 g dX10_choose_78 rfl ci_1 rfl rfl ?_
        refine r_goto (pc := 81) 13 g dX10_choose_81 rfl ?_
        refine r_sub [1, 2, 3, 4, 5, 6, 0] (lv' := [(0, .ref (w.1 13)), (1, .int x1), (3, .int x3), (4, .int x4), (5, .int x5), (6, .int x6), (7, .int (x7 + 1))]) rfl ?_
        exact hP13 x1 x3 x4 x5 x6 (x7 + 1) μ h
      · have h := h.2 q
        refine r_aload_n (pc := 36) 0 g dX10_choose_36 rfl ?_
        refine r_getr (pc := 37) (μ := μ) g dX10_choose_37 fa_RX10_15 shX_out sX_13 rfl ?_
        refine r_iload (pc := 40) 6 g dX10_choose_40 rfl ?_
        obtain ⟨b1, h⟩ := h
        refine r_iaload (pc := 42) (μ := μ) g dX10_choose_42 shX_out sX_15 b1 ?_
        refine r_iload_n (pc := 43) 2 g dX10_choose_43 rfl ?_
        refine r_iconst (pc := 44) g dX10_choose_44 ci_m1 ?_
        refine r_ixor (pc := 45) g dX10_choose_45 ?_
        refine r_iand (pc := 46) g dX10_choose_46 ?_
        refine r_if_ne (pc := 47) 78 g dX10_choose_47 rfl (fun q => ?_) (fun q => ?_)
        · have h := h.1 q
          refine r_iinc (pc := 78) (lv' := [(7, .int (x7 + 1)), (0, .ref (w.1 13)), (1, .int x1), (3, .int x3), (4, .int x4), (5, .int x5), (6, .int x6)]) 6 g dX10_choose_78 rfl ci_1 rfl rfl ?_
          refine r_goto (pc := 81) 13 g dX10_choose_81 rfl ?_
          refine r_sub [1, 2, 3, 4, 5, 6, 0] (lv' := [(0, .ref (w.1 13)), (1, .int x1), (3, .int x3), (4, .int x4), (5, .int x5), (6, .int x6), (7, .int (x7 + 1))]) rfl ?_
          exact hP13 x1 x3 x4 x5 x6 (x7 + 1) μ h
        · have h := h.2 q
          refine r_iinc (pc := 50) (lv' := [(6, .int (x6 + (-1))), (0, .ref (w.1 13)), (1, .int x1), (3, .int x3), (4, .int x4), (5, .int x5), (7, .int x7)]) 5 g dX10_choose_50 rfl ci_m1 rfl rfl ?_
          refine r_aload_n (pc := 53) 1 g dX10_choose_53 rfl ?_
          refine r_iload_n (pc := 54) 2 g dX10_choose_54 rfl ?_
          refine r_iload (pc := 55) 6 g dX10_choose_55 rfl ?_
          refine r_iload_n (pc := 57) 3 g dX10_choose_57 rfl ?_
          refine r_callVi (pc := 58) (st := []) g hX dX10_choose_58 (m_X10_score x1 x7 x3 μ _ h) kb_RX10_61 kv_X10_score shX_out sX_13 rfl rfl rfl rfl (fun u2 μ3 h => ?_)
          refine r_istore (pc := 61) (lv' := [(8, .int u2), (6, .int (x6 + (-1))), (0, .ref (w.1 13)), (1, .int x1), (3, .int x3), (4, .int x4), (5, .int x5), (7, .int x7)]) g dX10_choose_61 rfl rfl ?_
          refine r_iload (pc := 63) 0 g dX10_choose_63 rfl ?_
          refine r_iload (pc := 65) 6 g dX10_choose_65 rfl ?_
          refine r_icmp_ge (pc := 67) 78 g dX10_choose_67 rfl (fun q => ?_) (fun q => ?_)
          · have h := h.1 q
            refine r_iinc (pc := 78) (lv' := [(7, .int (x7 + 1)), (8, .int u2), (6, .int (x6 + (-1))), (0, .ref (w.1 13)), (1, .int x1), (3, .int x3), (4, .int x4), (5, .int x5)]) 7 g dX10_choose_78 rfl ci_1 rfl rfl ?_
            refine r_goto (pc := 81) 13 g dX10_choose_81 rfl ?_
            refine r_sub [3, 4, 5, 6, 7, 2, 0] (lv' := [(0, .ref (w.1 13)), (1, .int x1), (3, .int x3), (4, .int x4), (5, .int x5), (6, .int (x6 + (-1))), (7, .int (x7 + 1))]) rfl ?_
            exact hP13 x1 x3 x4 x5 (x6 + (-1)) (x7 + 1) μ3 h
          · have h := h.2 q
            refine r_iload (pc := 70) 0 g dX10_choose_70 rfl ?_
            refine r_istore (pc := 72) (lv' := [(5, .int u2), (8, .int u2), (6, .int (x6 + (-1))), (0, .ref (w.1 13)), (1, .int x1), (3, .int x3), (4, .int x4), (7, .int x7)]) g dX10_choose_72 rfl rfl ?_
            refine r_iload (pc := 74) 7 g dX10_choose_74 rfl ?_
            refine r_istore (pc := 76) (lv' := [(4, .int x7), (5, .int u2), (8, .int u2), (6, .int (x6 + (-1))), (0, .ref (w.1 13)), (1, .int x1), (3, .int x3), (7, .int x7)]) g dX10_choose_76 rfl rfl ?_
            refine r_iinc (pc := 78) (lv' := [(7, .int (x7 + 1)), (4, .int x7), (5, .int u2), (8, .int u2), (6, .int (x6 + (-1))), (0, .ref (w.1 13)), (1, .int x1), (3, .int x3)]) 7 g dX10_choose_78 rfl ci_1 rfl rfl ?_
            refine r_goto (pc := 81) 13 g dX10_choose_81 rfl ?_
            refine r_sub [5, 6, 7, 1, 2, 4, 0] (lv' := [(0, .ref (w.1 13)), (1, .int x1), (3, .int x3), (4, .int x7), (5, .int u2), (6, .int (x6 + (-1))), (7, .int (x7 + 1))]) rfl ?_
            exact hP13 x1 x3 x7 u2 (x6 + (-1)) (x7 + 1) μ3 h
theorem v_X10_choose_13 {X : Cx} {w : Wd} {l : Launch} {D : va_G} {A : Nat → Prop} (g : Gd X w RX10 cX10_choose 9 rm_X10_choose) (hX : atX X l D A) (post : Int32 → Mem → Prop) (hR : Rt X w shX 58 (some .int) (pI post)) (x1 : Int32) (x3 : Int32) (x4 : Int32) (x5 : Int32) (x6 : Int32) (x7 : Int32) (μ : Mem) (h : T_X10_choose_13 post x1 x3 x4 x5 x6 x7 μ) : V X 13 [(0, .ref (w.1 13)), (1, .int x1), (3, .int x3), (4, .int x4), (5, .int x5), (6, .int x6), (7, .int x7)] [] (wls w shX 58 μ) :=
  h (fun x1 x3 x4 x5 x6 x7 μ => V X 13 [(0, .ref (w.1 13)), (1, .int x1), (3, .int x3), (4, .int x4), (5, .int x5), (6, .int x6), (7, .int x7)] [] (wls w shX 58 μ)) (fun x1 x3 x4 x5 x6 x7 μ h => bv_X10_choose_13 g hX post hR (fun x1 x3 x4 x5 x6 x7 μ => V X 13 [(0, .ref (w.1 13)), (1, .int x1), (3, .int x3), (4, .int x4), (5, .int x5), (6, .int x6), (7, .int x7)] [] (wls w shX 58 μ)) (fun _ _ _ _ _ _ _ h => h) x1 x3 x4 x5 x6 x7 μ h)
def T_X10_choose (x1 : Int32) (x2 : Int32) (x3 : Int32) (μ : Mem) (post : Int32 → Mem → Prop) : Prop :=
  T_X10_choose_13 post x1 x3 0 1000000 x2 0 μ
theorem m_X10_choose {w : Wd} {l : Launch} {D : va_G} {A : Nat → Prop} (x1 : Int32) (x2 : Int32) (x3 : Int32) (μ : Mem) (post : Int32 → Mem → Prop) (h : T_X10_choose x1 x2 x3 μ post) : MetX l D A w shX 58 yX10_choose cX10_choose 9 (some .int) rm_X10_choose [.ref (w.1 13), .int x1, .int x2, .int x3] μ (pI post) := by
  refine metX_of (by decide) rfl (lv := [(0, .ref (w.1 13)), (1, .int x1), (2, .int x2), (3, .int x3)]) rfl (fun X hX g hR => ?_)
  refine r_iconst (pc := 0) g dX10_choose_0 ci_0 ?_
  refine r_istore (pc := 1) (lv' := [(4, .int 0), (0, .ref (w.1 13)), (1, .int x1), (2, .int x2), (3, .int x3)]) g dX10_choose_1 rfl rfl ?_
  refine r_ldc (pc := 3) g dX10_choose_3 k_802 ?_
  refine r_istore (pc := 5) (lv' := [(5, .int 1000000), (4, .int 0), (0, .ref (w.1 13)), (1, .int x1), (2, .int x2), (3, .int x3)]) g dX10_choose_5 rfl rfl ?_
  refine r_iload_n (pc := 7) 4 g dX10_choose_7 rfl ?_
  refine r_istore (pc := 8) (lv' := [(6, .int x2), (5, .int 1000000), (4, .int 0), (0, .ref (w.1 13)), (1, .int x1), (2, .int x2), (3, .int x3)]) g dX10_choose_8 rfl rfl ?_
  refine r_iconst (pc := 10) g dX10_choose_10 ci_0 ?_
  refine r_istore (pc := 11) (lv' := [(7, .int 0), (6, .int x2), (5, .int 1000000), (4, .int 0), (0, .ref (w.1 13)), (1, .int x1), (2, .int x2), (3, .int x3)]) g dX10_choose_11 rfl rfl ?_
  refine r_sub [4, 5, 7, 3, 2, 1, 0] (lv' := [(0, .ref (w.1 13)), (1, .int x1), (3, .int x3), (4, .int 0), (5, .int 1000000), (6, .int x2), (7, .int 0)]) rfl ?_
  exact v_X10_choose_13 g hX post hR x1 x3 0 1000000 x2 0 μ h
abbrev rm_X11_faulted : Room := { frames := 0, cells := 0, slots := 0, locals := 0 }
def T_X11_faulted (x1 : Int32) (μ : Mem) (post : Int32 → Mem → Prop) : Prop :=
  post ((-10) - x1) (mset μ 0 13 x1)
theorem m_X11_faulted {w : Wd} {l : Launch} {D : va_G} {A : Nat → Prop} (x1 : Int32) (μ : Mem) (post : Int32 → Mem → Prop) (h : T_X11_faulted x1 μ post) : MetX l D A w shX 58 yX11_faulted cX11_faulted 2 (some .int) rm_X11_faulted [.ref (w.1 0), .int x1] μ (pI post) := by
  refine metX_of (by decide) rfl (lv := [(0, .ref (w.1 0)), (1, .int x1)]) rfl (fun X hX g hR => ?_)
  refine r_aload_n (pc := 0) 0 g dX11_faulted_0 rfl ?_
  refine r_iload_n (pc := 1) 1 g dX11_faulted_1 rfl ?_
  refine r_puti (pc := 2) (μ := μ) g dX11_faulted_2 fp_RX11_94 shX_out sX_0 rfl ?_
  refine r_bipush (pc := 5) g dX11_faulted_5 cb_m10 ?_
  refine r_iload_n (pc := 7) 1 g dX11_faulted_7 rfl ?_
  refine r_isub (pc := 8) g dX11_faulted_8 ?_
  exact r_ireti (pc := 9) g hR dX11_faulted_9 h
abbrev rm_X11_isLane : Room := { frames := 0, cells := 0, slots := 0, locals := 0 }
def T_X11_isLane (x0 : Int32) (μ : Mem) (post : Int32 → Mem → Prop) : Prop :=
  ((x0 < 0 → post 0 μ) ∧ (¬ x0 < 0 → ((3 ≤ x0 → post 0 μ) ∧ (¬ 3 ≤ x0 → post 1 μ))))
theorem m_X11_isLane {w : Wd} {l : Launch} {D : va_G} {A : Nat → Prop} (x0 : Int32) (μ : Mem) (post : Int32 → Mem → Prop) (h : T_X11_isLane x0 μ post) : MetX l D A w shX 58 yX11_isLane cX11_isLane 1 (some .boolean) rm_X11_isLane [.int x0] μ (pI post) := by
  refine metX_of (by decide) rfl (lv := [(0, .int x0)]) rfl (fun X hX g hR => ?_)
  refine r_iload_n (pc := 0) 0 g dX11_isLane_0 rfl ?_
  refine r_if_lt (pc := 1) 13 g dX11_isLane_1 rfl (fun q => ?_) (fun q => ?_)
  · have h := h.1 q
    refine r_iconst (pc := 13) g dX11_isLane_13 ci_0 ?_
    exact r_zreti (pc := 14) g hR dX11_isLane_14 (Or.inl rfl) h
  · have h := h.2 q
    refine r_iload_n (pc := 4) 0 g dX11_isLane_4 rfl ?_
    refine r_iconst (pc := 5) g dX11_isLane_5 ci_3 ?_
    refine r_icmp_ge (pc := 6) 13 g dX11_isLane_6 rfl (fun q => ?_) (fun q => ?_)
    · have h := h.1 q
      refine r_iconst (pc := 13) g dX11_isLane_13 ci_0 ?_
      exact r_zreti (pc := 14) g hR dX11_isLane_14 (Or.inl rfl) h
    · have h := h.2 q
      refine r_iconst (pc := 9) g dX11_isLane_9 ci_1 ?_
      refine r_goto (pc := 10) 14 g dX11_isLane_10 rfl ?_
      exact r_zreti (pc := 14) g hR dX11_isLane_14 (Or.inr rfl) h
abbrev rm_X11_isSheet : Room := { frames := 0, cells := 0, slots := 0, locals := 0 }
def T_X11_isSheet (x0 : Int32) (μ : Mem) (post : Int32 → Mem → Prop) : Prop :=
  ((x0 < 0 → post 0 μ) ∧ (¬ x0 < 0 → ((4 ≤ x0 → post 0 μ) ∧ (¬ 4 ≤ x0 → post 1 μ))))
theorem m_X11_isSheet {w : Wd} {l : Launch} {D : va_G} {A : Nat → Prop} (x0 : Int32) (μ : Mem) (post : Int32 → Mem → Prop) (h : T_X11_isSheet x0 μ post) : MetX l D A w shX 58 yX11_isSheet cX11_isSheet 1 (some .boolean) rm_X11_isSheet [.int x0] μ (pI post) := by
  refine metX_of (by decide) rfl (lv := [(0, .int x0)]) rfl (fun X hX g hR => ?_)
  refine r_iload_n (pc := 0) 0 g dX11_isSheet_0 rfl ?_
  refine r_if_lt (pc := 1) 13 g dX11_isSheet_1 rfl (fun q => ?_) (fun q => ?_)
  · have h := h.1 q
    refine r_iconst (pc := 13) g dX11_isSheet_13 ci_0 ?_
    exact r_zreti (pc := 14) g hR dX11_isSheet_14 (Or.inl rfl) h
  · have h := h.2 q
    refine r_iload_n (pc := 4) 0 g dX11_isSheet_4 rfl ?_
    refine r_iconst (pc := 5) g dX11_isSheet_5 ci_4 ?_
    refine r_icmp_ge (pc := 6) 13 g dX11_isSheet_6 rfl (fun q => ?_) (fun q => ?_)
    · have h := h.1 q
      refine r_iconst (pc := 13) g dX11_isSheet_13 ci_0 ?_
      exact r_zreti (pc := 14) g hR dX11_isSheet_14 (Or.inl rfl) h
    · have h := h.2 q
      refine r_iconst (pc := 9) g dX11_isSheet_9 ci_1 ?_
      refine r_goto (pc := 10) 14 g dX11_isSheet_10 rfl ?_
      exact r_zreti (pc := 14) g hR dX11_isSheet_14 (Or.inr rfl) h
abbrev rm_X11_shop : Room := { frames := 4, cells := 0, slots := 0, locals := 89 }
def T_X11_shop (x1 : Int32) (x2 : Int32) (x3 : Int32) (x4 : Int32) (μ : Mem) (post : Int32 → Mem → Prop) : Prop :=
  T_X11_isSheet x1 (mset μ 0 13 0) (fun (u1 : Int32) (μ2 : Mem) => ((¬ u1 = 0 → T_X11_isLane x2 μ2 (fun (u3 : Int32) (μ4 : Mem) => ((¬ u3 = 0 → T_X7_cellsFault x1 x2 x3 x4 μ4 (fun (u5 : Int32) (μ6 : Mem) => ((u5 = 0 → vp_in x1 4 ∧ T_X9_firstFault (5 + x1.toNatClampNeg) x3 x4 μ6 (fun (u8 : Int32) (μ9 : Mem) => ((u8 < 0 → T_X10_takeOver μ9 (fun (μ11 : Mem) => post ((mset μ11 22 2 0) 13 4) (mset μ11 22 2 0))) ∧ (¬ u8 < 0 → post ((-100) - u8) μ9)))) ∧ (¬ u5 = 0 → T_X11_faulted u5 μ6 (fun (u12 : Int32) (μ13 : Mem) => post u12 μ13))))) ∧ (u3 = 0 → post (-2) μ4)))) ∧ (u1 = 0 → post (-1) μ2)))
theorem m_X11_shop {w : Wd} {l : Launch} {D : va_G} {A : Nat → Prop} (x1 : Int32) (x2 : Int32) (x3 : Int32) (x4 : Int32) (μ : Mem) (post : Int32 → Mem → Prop) (h : T_X11_shop x1 x2 x3 x4 μ post) : MetX l D A w shX 58 yX11_shop cX11_shop 7 (some .int) rm_X11_shop [.ref (w.1 0), .int x1, .int x2, .int x3, .int x4] μ (pI post) := by
  refine metX_of (by decide) rfl (lv := [(0, .ref (w.1 0)), (1, .int x1), (2, .int x2), (3, .int x3), (4, .int x4)]) rfl (fun X hX g hR => ?_)
  refine r_aload_n (pc := 0) 0 g dX11_shop_0 rfl ?_
  refine r_iconst (pc := 1) g dX11_shop_1 ci_0 ?_
  refine r_puti (pc := 2) (μ := μ) g dX11_shop_2 fp_RX11_94 shX_out sX_0 rfl ?_
  refine r_iload_n (pc := 5) 1 g dX11_shop_5 rfl ?_
  refine r_callSi (pc := 6) (st := []) g hX dX11_shop_6 (m_X11_isSheet x1 (mset μ 0 13 0) _ h) kb_RX11_98 k_466 rfl rfl rfl rfl (fun u1 μ2 h => ?_)
  refine r_if_ne (pc := 9) 14 g dX11_shop_9 rfl (fun q => ?_) (fun q => ?_)
  · have h := h.1 q
    refine r_iload_n (pc := 14) 2 g dX11_shop_14 rfl ?_
    refine r_callSi (pc := 15) (st := []) g hX dX11_shop_15 (m_X11_isLane x2 μ2 _ h) kb_RX11_102 k_469 rfl rfl rfl rfl (fun u3 μ4 h => ?_)
    refine r_if_ne (pc := 18) 24 g dX11_shop_18 rfl (fun q => ?_) (fun q => ?_)
    · have h := h.1 q
      refine r_aload_n (pc := 24) 0 g dX11_shop_24 rfl ?_
      refine r_getr (pc := 25) (μ := μ4) g dX11_shop_25 fa_RX11_14 shX_out sX_0 rfl ?_
      refine r_iload_n (pc := 28) 1 g dX11_shop_28 rfl ?_
      refine r_iload_n (pc := 29) 2 g dX11_shop_29 rfl ?_
      refine r_iload_n (pc := 30) 3 g dX11_shop_30 rfl ?_
      refine r_iload (pc := 31) 4 g dX11_shop_31 rfl ?_
      refine r_callVi (pc := 33) (st := []) g hX dX11_shop_33 (m_X7_cellsFault x1 x2 x3 x4 μ4 _ h) kb_RX11_105 kv_X7_cellsFault shX_out sX_1 rfl rfl rfl rfl (fun u5 μ6 h => ?_)
      refine r_istore (pc := 36) (lv' := [(5, .int u5), (0, .ref (w.1 0)), (1, .int x1), (2, .int x2), (3, .int x3), (4, .int x4)]) g dX11_shop_36 rfl rfl ?_
      refine r_iload (pc := 38) 0 g dX11_shop_38 rfl ?_
      refine r_if_eq (pc := 40) 50 g dX11_shop_40 rfl (fun q => ?_) (fun q => ?_)
      · have h := h.1 q
        refine r_aload_n (pc := 50) 1 g dX11_shop_50 rfl ?_
        refine r_getr (pc := 51) (μ := μ6) g dX11_shop_51 fa_RX11_21 shX_out sX_0 rfl ?_
        refine r_aload_n (pc := 54) 1 g dX11_shop_54 rfl ?_
        refine r_getr (pc := 55) (μ := μ6) g dX11_shop_55 fa_RX11_14 shX_out sX_0 rfl ?_
        refine r_getr (pc := 58) (μ := μ6) g dX11_shop_58 fa_RX11_113 shX_out sX_1 rfl ?_
        refine r_iload_n (pc := 61) 2 g dX11_shop_61 rfl ?_
        obtain ⟨b7, h⟩ := h
        refine r_aaload (pc := 62) (μ := μ6) g dX11_shop_62 (by decide) sX_2 b7 ?_
        refine r_iload_n (pc := 63) 4 g dX11_shop_63 rfl ?_
        refine r_iload (pc := 64) 5 g dX11_shop_64 rfl ?_
        refine r_callVi (pc := 66) (st := []) g hX dX11_shop_66 (m_X9_firstFault (5 + x1.toNatClampNeg) x3 x4 μ6 _ h) kb_RX11_117 kv_X9_firstFault shX_out sX_9 rfl rfl rfl rfl (fun u8 μ9 h => ?_)
        refine r_istore (pc := 69) (lv' := [(6, .int u8), (5, .int u5), (0, .ref (w.1 0)), (1, .int x1), (2, .int x2), (3, .int x3), (4, .int x4)]) g dX11_shop_69 rfl rfl ?_
        refine r_iload (pc := 71) 0 g dX11_shop_71 rfl ?_
        refine r_if_lt (pc := 73) 82 g dX11_shop_73 rfl (fun q => ?_) (fun q => ?_)
        · have h := h.1 q
          refine r_aload_n (pc := 82) 2 g dX11_shop_82 rfl ?_
          refine r_getr (pc := 83) (μ := μ9) g dX11_shop_83 fa_RX11_28 shX_out sX_0 rfl ?_
          refine r_aload_n (pc := 86) 2 g dX11_shop_86 rfl ?_
          refine r_getr (pc := 87) (μ := μ9) g dX11_shop_87 fa_RX11_21 shX_out sX_0 rfl ?_
          refine r_callVv (pc := 90) (st := []) g hX dX11_shop_90 (m_X10_takeOver μ9 _ h) kb_RX11_121 kv_X10_takeOver shX_out sX_13 rfl rfl rfl rfl (fun μ11 h => ?_)
          refine r_aload_n (pc := 93) 2 g dX11_shop_93 rfl ?_
          refine r_getr (pc := 94) (μ := μ11) g dX11_shop_94 fa_RX11_35 shX_out sX_0 rfl ?_
          refine r_iconst (pc := 97) g dX11_shop_97 ci_0 ?_
          refine r_puti (pc := 98) (μ := μ11) g dX11_shop_98 fp_RX11_125 shX_out sX_22 rfl ?_
          refine r_aload_n (pc := 101) 2 g dX11_shop_101 rfl ?_
          refine r_getr (pc := 102) (μ := mset μ11 22 2 0) g dX11_shop_102 fa_RX11_28 shX_out sX_0 rfl ?_
          refine r_geti (pc := 105) (μ := mset μ11 22 2 0) g dX11_shop_105 fa_RX11_128 shX_out sX_13 rfl ?_
          exact r_ireti (pc := 108) g hR dX11_shop_108 h
        · have h := h.2 q
          refine r_bipush (pc := 76) g dX11_shop_76 cb_m100 ?_
          refine r_iload (pc := 78) 0 g dX11_shop_78 rfl ?_
          refine r_isub (pc := 80) g dX11_shop_80 ?_
          exact r_ireti (pc := 81) g hR dX11_shop_81 h
      · have h := h.2 q
        refine r_aload_n (pc := 43) 1 g dX11_shop_43 rfl ?_
        refine r_iload (pc := 44) 0 g dX11_shop_44 rfl ?_
        refine r_callVi (pc := 46) (st := []) g hX dX11_shop_46 (m_X11_faulted u5 μ6 _ h) kb_RX11_109 kv_X11_faulted shX_out sX_0 rfl rfl rfl rfl (fun u12 μ13 h => ?_)
        exact r_ireti (pc := 49) g hR dX11_shop_49 h
    · have h := h.2 q
      refine r_bipush (pc := 21) g dX11_shop_21 cb_m2 ?_
      exact r_ireti (pc := 23) g hR dX11_shop_23 h
  · have h := h.2 q
    refine r_iconst (pc := 12) g dX11_shop_12 ci_m1 ?_
    exact r_ireti (pc := 13) g hR dX11_shop_13 h
abbrev rm_X11_work : Room := { frames := 1, cells := 0, slots := 0, locals := 22 }
def T_X11_work_26 (post : Int32 → Mem → Prop) (μ : Mem) : Prop :=
  post (-2) μ
theorem v_X11_work_26 {X : Cx} {w : Wd} {l : Launch} {D : va_G} {A : Nat → Prop} (g : Gd X w RX11 cX11_work 3 rm_X11_work) (hX : atX X l D A) (post : Int32 → Mem → Prop) (hR : Rt X w shX 58 (some .int) (pI post)) (μ : Mem) (h : T_X11_work_26 post μ) : V X 26 [] [] (wls w shX 58 μ) := by
  refine r_bipush (pc := 26) g dX11_work_26 cb_m2 ?_
  exact r_ireti (pc := 28) g hR dX11_work_28 h
def T_X11_work (x1 : Int32) (x2 : Int32) (μ : Mem) (post : Int32 → Mem → Prop) : Prop :=
  ((x1 < 0 → T_X11_work_26 post μ) ∧ (¬ x1 < 0 → ((1024 ≤ x1 → T_X11_work_26 post μ) ∧ (¬ 1024 ≤ x1 → ((x2 < 0 → T_X11_work_26 post μ) ∧ (¬ x2 < 0 → T_X10_all μ (fun (u1 : Int32) (μ2 : Mem) => ((x2 ≤ u1 → (((μ2 13 4) < 9 → T_X10_add x1 x2 μ2 (fun (μ4 : Mem) => post (((mset μ4 22 2 0) 13 4) - 1) (mset μ4 22 2 0))) ∧ (¬ (μ2 13 4) < 9 → post (-4) μ2))) ∧ (¬ x2 ≤ u1 → T_X11_work_26 post μ2)))))))))
theorem m_X11_work {w : Wd} {l : Launch} {D : va_G} {A : Nat → Prop} (x1 : Int32) (x2 : Int32) (μ : Mem) (post : Int32 → Mem → Prop) (h : T_X11_work x1 x2 μ post) : MetX l D A w shX 58 yX11_work cX11_work 3 (some .int) rm_X11_work [.ref (w.1 0), .int x1, .int x2] μ (pI post) := by
  refine metX_of (by decide) rfl (lv := [(0, .ref (w.1 0)), (1, .int x1), (2, .int x2)]) rfl (fun X hX g hR => ?_)
  refine r_iload_n (pc := 0) 1 g dX11_work_0 rfl ?_
  refine r_if_lt (pc := 1) 26 g dX11_work_1 rfl (fun q => ?_) (fun q => ?_)
  · have h := h.1 q
    refine r_sub [] (lv' := []) rfl ?_
    exact v_X11_work_26 g hX post hR μ h
  · have h := h.2 q
    refine r_iload_n (pc := 4) 1 g dX11_work_4 rfl ?_
    refine r_sipush (pc := 5) g dX11_work_5 cs_1024 ?_
    refine r_icmp_ge (pc := 8) 26 g dX11_work_8 rfl (fun q => ?_) (fun q => ?_)
    · have h := h.1 q
      refine r_sub [] (lv' := []) rfl ?_
      exact v_X11_work_26 g hX post hR μ h
    · have h := h.2 q
      refine r_iload_n (pc := 11) 2 g dX11_work_11 rfl ?_
      refine r_if_lt (pc := 12) 26 g dX11_work_12 rfl (fun q => ?_) (fun q => ?_)
      · have h := h.1 q
        refine r_sub [] (lv' := []) rfl ?_
        exact v_X11_work_26 g hX post hR μ h
      · have h := h.2 q
        refine r_iload_n (pc := 15) 2 g dX11_work_15 rfl ?_
        refine r_aload_n (pc := 16) 0 g dX11_work_16 rfl ?_
        refine r_getr (pc := 17) (μ := μ) g dX11_work_17 fa_RX11_28 shX_out sX_0 rfl ?_
        refine r_callVi (pc := 20) (st := [.int x2]) g hX dX11_work_20 (m_X10_all μ _ h) kb_RX11_129 kv_X10_all shX_out sX_13 rfl rfl rfl rfl (fun u1 μ2 h => ?_)
        refine r_icmp_le (pc := 23) 29 g dX11_work_23 rfl (fun q => ?_) (fun q => ?_)
        · have h := h.1 q
          refine r_aload_n (pc := 29) 0 g dX11_work_29 rfl ?_
          refine r_getr (pc := 30) (μ := μ2) g dX11_work_30 fa_RX11_28 shX_out sX_0 rfl ?_
          refine r_geti (pc := 33) (μ := μ2) g dX11_work_33 fa_RX11_128 shX_out sX_13 rfl ?_
          refine r_bipush (pc := 36) g dX11_work_36 cb_9 ?_
          refine r_icmp_lt (pc := 38) 44 g dX11_work_38 rfl (fun q => ?_) (fun q => ?_)
          · have h := h.1 q
            refine r_aload_n (pc := 44) 0 g dX11_work_44 rfl ?_
            refine r_getr (pc := 45) (μ := μ2) g dX11_work_45 fa_RX11_28 shX_out sX_0 rfl ?_
            refine r_iload_n (pc := 48) 1 g dX11_work_48 rfl ?_
            refine r_iload_n (pc := 49) 2 g dX11_work_49 rfl ?_
            refine r_callVv (pc := 50) (st := []) g hX dX11_work_50 (m_X10_add x1 x2 μ2 _ h) kb_RX11_133 kv_X10_add shX_out sX_13 rfl rfl rfl rfl (fun μ4 h => ?_)
            refine r_aload_n (pc := 53) 0 g dX11_work_53 rfl ?_
            refine r_getr (pc := 54) (μ := μ4) g dX11_work_54 fa_RX11_35 shX_out sX_0 rfl ?_
            refine r_iconst (pc := 57) g dX11_work_57 ci_0 ?_
            refine r_puti (pc := 58) (μ := μ4) g dX11_work_58 fp_RX11_125 shX_out sX_22 rfl ?_
            refine r_aload_n (pc := 61) 0 g dX11_work_61 rfl ?_
            refine r_getr (pc := 62) (μ := mset μ4 22 2 0) g dX11_work_62 fa_RX11_28 shX_out sX_0 rfl ?_
            refine r_geti (pc := 65) (μ := mset μ4 22 2 0) g dX11_work_65 fa_RX11_128 shX_out sX_13 rfl ?_
            refine r_iconst (pc := 68) g dX11_work_68 ci_1 ?_
            refine r_isub (pc := 69) g dX11_work_69 ?_
            exact r_ireti (pc := 70) g hR dX11_work_70 h
          · have h := h.2 q
            refine r_bipush (pc := 41) g dX11_work_41 cb_m4 ?_
            exact r_ireti (pc := 43) g hR dX11_work_43 h
        · have h := h.2 q
          refine r_sub [] (lv' := []) rfl ?_
          exact v_X11_work_26 g hX post hR μ2 h
abbrev rm_X11_ofWork : Room := { frames := 1, cells := 0, slots := 0, locals := 21 }
def T_X11_ofWork (x1 : Int32) (x2 : Int32) (μ : Mem) (post : Int32 → Mem → Prop) : Prop :=
  T_X10_has x1 μ (fun (u1 : Int32) (μ2 : Mem) => ((¬ u1 = 0 → ((¬ x2 = 0 → ((¬ x2 = 1 → post (-2) μ2) ∧ (x2 = 1 → vp_in x1 9 ∧ post (μ2 15 x1.toNatClampNeg) μ2))) ∧ (x2 = 0 → vp_in x1 9 ∧ post (μ2 14 x1.toNatClampNeg) μ2))) ∧ (u1 = 0 → post (-1) μ2)))
theorem m_X11_ofWork {w : Wd} {l : Launch} {D : va_G} {A : Nat → Prop} (x1 : Int32) (x2 : Int32) (μ : Mem) (post : Int32 → Mem → Prop) (h : T_X11_ofWork x1 x2 μ post) : MetX l D A w shX 58 yX11_ofWork cX11_ofWork 3 (some .int) rm_X11_ofWork [.ref (w.1 0), .int x1, .int x2] μ (pI post) := by
  refine metX_of (by decide) rfl (lv := [(0, .ref (w.1 0)), (1, .int x1), (2, .int x2)]) rfl (fun X hX g hR => ?_)
  refine r_aload_n (pc := 0) 0 g dX11_ofWork_0 rfl ?_
  refine r_getr (pc := 1) (μ := μ) g dX11_ofWork_1 fa_RX11_28 shX_out sX_0 rfl ?_
  refine r_iload_n (pc := 4) 1 g dX11_ofWork_4 rfl ?_
  refine r_callVi (pc := 5) (st := []) g hX dX11_ofWork_5 (m_X10_has x1 μ _ h) kb_RX11_137 kv_X10_has shX_out sX_13 rfl rfl rfl rfl (fun u1 μ2 h => ?_)
  refine r_if_ne (pc := 8) 13 g dX11_ofWork_8 rfl (fun q => ?_) (fun q => ?_)
  · have h := h.1 q
    refine r_iload_n (pc := 13) 2 g dX11_ofWork_13 rfl ?_
    refine r_if_ne (pc := 14) 27 g dX11_ofWork_14 rfl (fun q => ?_) (fun q => ?_)
    · have h := h.1 q
      refine r_iload_n (pc := 27) 2 g dX11_ofWork_27 rfl ?_
      refine r_iconst (pc := 28) g dX11_ofWork_28 ci_1 ?_
      refine r_icmp_ne (pc := 29) 44 g dX11_ofWork_29 rfl (fun q => ?_) (fun q => ?_)
      · have h := h.1 q
        refine r_bipush (pc := 44) g dX11_ofWork_44 cb_m2 ?_
        exact r_ireti (pc := 46) g hR dX11_ofWork_46 h
      · have h := h.2 q
        refine r_aload_n (pc := 32) 0 g dX11_ofWork_32 rfl ?_
        refine r_getr (pc := 33) (μ := μ2) g dX11_ofWork_33 fa_RX11_28 shX_out sX_0 rfl ?_
        refine r_getr (pc := 36) (μ := μ2) g dX11_ofWork_36 fa_RX11_143 shX_out sX_13 rfl ?_
        refine r_iload_n (pc := 39) 1 g dX11_ofWork_39 rfl ?_
        obtain ⟨b3, h⟩ := h
        refine r_iaload (pc := 40) (μ := μ2) g dX11_ofWork_40 shX_out sX_15 b3 ?_
        refine r_goto (pc := 41) 46 g dX11_ofWork_41 rfl ?_
        exact r_ireti (pc := 46) g hR dX11_ofWork_46 h
    · have h := h.2 q
      refine r_aload_n (pc := 17) 0 g dX11_ofWork_17 rfl ?_
      refine r_getr (pc := 18) (μ := μ2) g dX11_ofWork_18 fa_RX11_28 shX_out sX_0 rfl ?_
      refine r_getr (pc := 21) (μ := μ2) g dX11_ofWork_21 fa_RX11_140 shX_out sX_13 rfl ?_
      refine r_iload_n (pc := 24) 1 g dX11_ofWork_24 rfl ?_
      obtain ⟨b4, h⟩ := h
      refine r_iaload (pc := 25) (μ := μ2) g dX11_ofWork_25 shX_out sX_14 b4 ?_
      exact r_ireti (pc := 26) g hR dX11_ofWork_26 h
  · have h := h.2 q
    refine r_iconst (pc := 11) g dX11_ofWork_11 ci_m1 ?_
    exact r_ireti (pc := 12) g hR dX11_ofWork_12 h
abbrev rm_X11_before : Room := { frames := 1, cells := 0, slots := 0, locals := 25 }
def T_X11_before_66 (post : Int32 → Mem → Prop) (x1 : Int32) (x2 : Int32) (μ : Mem) : Prop :=
  T_X10_turnBefore x1 x2 μ (fun (μ2 : Mem) => post 1 μ2)
theorem v_X11_before_66 {X : Cx} {w : Wd} {l : Launch} {D : va_G} {A : Nat → Prop} (g : Gd X w RX11 cX11_before 4 rm_X11_before) (hX : atX X l D A) (post : Int32 → Mem → Prop) (hR : Rt X w shX 58 (some .int) (pI post)) (x1 : Int32) (x2 : Int32) (μ : Mem) (h : T_X11_before_66 post x1 x2 μ) : V X 66 [(0, .ref (w.1 0)), (1, .int x1), (2, .int x2)] [] (wls w shX 58 μ) := by
  refine r_aload_n (pc := 66) 0 g dX11_before_66 rfl ?_
  refine r_getr (pc := 67) (μ := μ) g dX11_before_67 fa_RX11_28 shX_out sX_0 rfl ?_
  refine r_iload_n (pc := 70) 1 g dX11_before_70 rfl ?_
  refine r_iload_n (pc := 71) 2 g dX11_before_71 rfl ?_
  refine r_callVv (pc := 72) (st := []) g hX dX11_before_72 (m_X10_turnBefore x1 x2 μ _ h) kb_RX11_153 kv_X10_turnBefore shX_out sX_13 rfl rfl rfl rfl (fun μ2 h => ?_)
  refine r_iconst (pc := 75) g dX11_before_75 ci_1 ?_
  exact r_ireti (pc := 76) g hR dX11_before_76 h
def T_X11_before (x1 : Int32) (x2 : Int32) (x3 : Int32) (μ : Mem) (post : Int32 → Mem → Prop) : Prop :=
  T_X10_has x1 μ (fun (u1 : Int32) (μ2 : Mem) => ((u1 = 0 → post (-1) μ2) ∧ (¬ u1 = 0 → T_X10_has x2 μ2 (fun (u3 : Int32) (μ4 : Mem) => ((¬ u3 = 0 → ((¬ x1 = x2 → T_X10_isBefore x1 x2 μ4 (fun (u5 : Int32) (μ6 : Mem) => ((¬ u5 = x3 → ((x3 = 0 → T_X11_before_66 post x1 x2 μ6) ∧ (¬ x3 = 0 → T_X10_comesAhead x2 x1 μ6 (fun (u7 : Int32) (μ8 : Mem) => ((u7 = 0 → T_X11_before_66 post x1 x2 μ8) ∧ (¬ u7 = 0 → post (-3) μ8)))))) ∧ (u5 = x3 → post 0 μ6)))) ∧ (x1 = x2 → post (-2) μ4))) ∧ (u3 = 0 → post (-1) μ4))))))
theorem m_X11_before {w : Wd} {l : Launch} {D : va_G} {A : Nat → Prop} (x1 : Int32) (x2 : Int32) (x3 : Int32) (μ : Mem) (post : Int32 → Mem → Prop) (h : T_X11_before x1 x2 x3 μ post) : MetX l D A w shX 58 yX11_before cX11_before 4 (some .int) rm_X11_before [.ref (w.1 0), .int x1, .int x2, .int x3] μ (pI post) := by
  refine metX_of (by decide) rfl (lv := [(0, .ref (w.1 0)), (1, .int x1), (2, .int x2), (3, .int x3)]) rfl (fun X hX g hR => ?_)
  refine r_aload_n (pc := 0) 0 g dX11_before_0 rfl ?_
  refine r_getr (pc := 1) (μ := μ) g dX11_before_1 fa_RX11_28 shX_out sX_0 rfl ?_
  refine r_iload_n (pc := 4) 1 g dX11_before_4 rfl ?_
  refine r_callVi (pc := 5) (st := []) g hX dX11_before_5 (m_X10_has x1 μ _ h) kb_RX11_137 kv_X10_has shX_out sX_13 rfl rfl rfl rfl (fun u1 μ2 h => ?_)
  refine r_if_eq (pc := 8) 22 g dX11_before_8 rfl (fun q => ?_) (fun q => ?_)
  · have h := h.1 q
    refine r_iconst (pc := 22) g dX11_before_22 ci_m1 ?_
    exact r_ireti (pc := 23) g hR dX11_before_23 h
  · have h := h.2 q
    refine r_aload_n (pc := 11) 0 g dX11_before_11 rfl ?_
    refine r_getr (pc := 12) (μ := μ2) g dX11_before_12 fa_RX11_28 shX_out sX_0 rfl ?_
    refine r_iload_n (pc := 15) 2 g dX11_before_15 rfl ?_
    refine r_callVi (pc := 16) (st := []) g hX dX11_before_16 (m_X10_has x2 μ2 _ h) kb_RX11_137 kv_X10_has shX_out sX_13 rfl rfl rfl rfl (fun u3 μ4 h => ?_)
    refine r_if_ne (pc := 19) 24 g dX11_before_19 rfl (fun q => ?_) (fun q => ?_)
    · have h := h.1 q
      refine r_iload_n (pc := 24) 1 g dX11_before_24 rfl ?_
      refine r_iload_n (pc := 25) 2 g dX11_before_25 rfl ?_
      refine r_icmp_ne (pc := 26) 32 g dX11_before_26 rfl (fun q => ?_) (fun q => ?_)
      · have h := h.1 q
        refine r_aload_n (pc := 32) 0 g dX11_before_32 rfl ?_
        refine r_getr (pc := 33) (μ := μ4) g dX11_before_33 fa_RX11_28 shX_out sX_0 rfl ?_
        refine r_iload_n (pc := 36) 1 g dX11_before_36 rfl ?_
        refine r_iload_n (pc := 37) 2 g dX11_before_37 rfl ?_
        refine r_callVi (pc := 38) (st := []) g hX dX11_before_38 (m_X10_isBefore x1 x2 μ4 _ h) kb_RX11_146 kv_X10_isBefore shX_out sX_13 rfl rfl rfl rfl (fun u5 μ6 h => ?_)
        refine r_iload_n (pc := 41) 3 g dX11_before_41 rfl ?_
        refine r_icmp_ne (pc := 42) 47 g dX11_before_42 rfl (fun q => ?_) (fun q => ?_)
        · have h := h.1 q
          refine r_iload_n (pc := 47) 3 g dX11_before_47 rfl ?_
          refine r_if_eq (pc := 48) 66 g dX11_before_48 rfl (fun q => ?_) (fun q => ?_)
          · have h := h.1 q
            refine r_sub [0, 1, 2] (lv' := [(0, .ref (w.1 0)), (1, .int x1), (2, .int x2)]) rfl ?_
            exact v_X11_before_66 g hX post hR x1 x2 μ6 h
          · have h := h.2 q
            refine r_aload_n (pc := 51) 0 g dX11_before_51 rfl ?_
            refine r_getr (pc := 52) (μ := μ6) g dX11_before_52 fa_RX11_28 shX_out sX_0 rfl ?_
            refine r_iload_n (pc := 55) 2 g dX11_before_55 rfl ?_
            refine r_iload_n (pc := 56) 1 g dX11_before_56 rfl ?_
            refine r_callVi (pc := 57) (st := []) g hX dX11_before_57 (m_X10_comesAhead x2 x1 μ6 _ h) kb_RX11_150 kv_X10_comesAhead shX_out sX_13 rfl rfl rfl rfl (fun u7 μ8 h => ?_)
            refine r_if_eq (pc := 60) 66 g dX11_before_60 rfl (fun q => ?_) (fun q => ?_)
            · have h := h.1 q
              refine r_sub [0, 1, 2] (lv' := [(0, .ref (w.1 0)), (1, .int x1), (2, .int x2)]) rfl ?_
              exact v_X11_before_66 g hX post hR x1 x2 μ8 h
            · have h := h.2 q
              refine r_bipush (pc := 63) g dX11_before_63 cb_m3 ?_
              exact r_ireti (pc := 65) g hR dX11_before_65 h
        · have h := h.2 q
          refine r_iconst (pc := 45) g dX11_before_45 ci_0 ?_
          exact r_ireti (pc := 46) g hR dX11_before_46 h
      · have h := h.2 q
        refine r_bipush (pc := 29) g dX11_before_29 cb_m2 ?_
        exact r_ireti (pc := 31) g hR dX11_before_31 h
    · have h := h.2 q
      refine r_iconst (pc := 22) g dX11_before_22 ci_m1 ?_
      exact r_ireti (pc := 23) g hR dX11_before_23 h
