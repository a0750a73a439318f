theorem dX11_thing_0 : decode cX11_thing 0 = .ok (.iload_n 1, 1) := by decide +kernel
theorem dX11_thing_1 : decode cX11_thing 1 = .ok (.ifCond .lt 9, 3) := by decide +kernel
theorem dX11_thing_4 : decode cX11_thing 4 = .ok (.iload_n 1, 1) := by decide +kernel
theorem dX11_thing_5 : decode cX11_thing 5 = .ok (.bipush 10, 2) := by decide +kernel
theorem dX11_thing_7 : decode cX11_thing 7 = .ok (.if_icmp .lt 5, 3) := by decide +kernel
theorem dX11_thing_10 : decode cX11_thing 10 = .ok (.iconst (-1), 1) := by decide +kernel
theorem dX11_thing_11 : decode cX11_thing 11 = .ok (.ireturn, 1) := by decide +kernel
theorem dX11_thing_12 : decode cX11_thing 12 = .ok (.iload_n 2, 1) := by decide +kernel
theorem dX11_thing_13 : decode cX11_thing 13 = .ok (.ifCond .ne 24, 3) := by decide +kernel
theorem dX11_thing_16 : decode cX11_thing 16 = .ok (.iload_n 3, 1) := by decide +kernel
theorem dX11_thing_17 : decode cX11_thing 17 = .ok (.iconst 1, 1) := by decide +kernel
theorem dX11_thing_18 : decode cX11_thing 18 = .ok (.if_icmp .lt 19, 3) := by decide +kernel
theorem dX11_thing_21 : decode cX11_thing 21 = .ok (.iload_n 3, 1) := by decide +kernel
theorem dX11_thing_22 : decode cX11_thing 22 = .ok (.bipush 9, 2) := by decide +kernel
theorem dX11_thing_24 : decode cX11_thing 24 = .ok (.if_icmp .gt 13, 3) := by decide +kernel
theorem dX11_thing_27 : decode cX11_thing 27 = .ok (.aload_n 0, 1) := by decide +kernel
theorem dX11_thing_28 : decode cX11_thing 28 = .ok (.getfield 28, 3) := by decide +kernel
theorem dX11_thing_31 : decode cX11_thing 31 = .ok (.iload_n 1, 1) := by decide +kernel
theorem dX11_thing_32 : decode cX11_thing 32 = .ok (.iload_n 3, 1) := by decide +kernel
theorem dX11_thing_33 : decode cX11_thing 33 = .ok (.invokevirtual 156, 3) := by decide +kernel
theorem dX11_thing_36 : decode cX11_thing 36 = .ok (.ireturn, 1) := by decide +kernel
theorem dX11_thing_37 : decode cX11_thing 37 = .ok (.iload_n 2, 1) := by decide +kernel
theorem dX11_thing_38 : decode cX11_thing 38 = .ok (.iconst 1, 1) := by decide +kernel
theorem dX11_thing_39 : decode cX11_thing 39 = .ok (.if_icmp .ne 26, 3) := by decide +kernel
theorem dX11_thing_42 : decode cX11_thing 42 = .ok (.iload_n 3, 1) := by decide +kernel
theorem dX11_thing_43 : decode cX11_thing 43 = .ok (.ifCond .lt 22, 3) := by decide +kernel
theorem dX11_thing_46 : decode cX11_thing 46 = .ok (.iload_n 3, 1) := by decide +kernel
theorem dX11_thing_47 : decode cX11_thing 47 = .ok (.bipush 99, 2) := by decide +kernel
theorem dX11_thing_49 : decode cX11_thing 49 = .ok (.if_icmp .gt 16, 3) := by decide +kernel
theorem dX11_thing_52 : decode cX11_thing 52 = .ok (.aload_n 0, 1) := by decide +kernel
theorem dX11_thing_53 : decode cX11_thing 53 = .ok (.getfield 28, 3) := by decide +kernel
theorem dX11_thing_56 : decode cX11_thing 56 = .ok (.getfield 160, 3) := by decide +kernel
theorem dX11_thing_59 : decode cX11_thing 59 = .ok (.iload_n 1, 1) := by decide +kernel
theorem dX11_thing_60 : decode cX11_thing 60 = .ok (.iload_n 3, 1) := by decide +kernel
theorem dX11_thing_61 : decode cX11_thing 61 = .ok (.invokevirtual 164, 3) := by decide +kernel
theorem dX11_thing_64 : decode cX11_thing 64 = .ok (.ireturn, 1) := by decide +kernel
theorem dX11_thing_65 : decode cX11_thing 65 = .ok (.bipush (-2), 2) := by decide +kernel
theorem dX11_thing_67 : decode cX11_thing 67 = .ok (.ireturn, 1) := by decide +kernel
theorem dX11_isKind_0 : decode cX11_isKind 0 = .ok (.iload_n 0, 1) := by decide +kernel
theorem dX11_isKind_1 : decode cX11_isKind 1 = .ok (.ifCond .lt 12, 3) := by decide +kernel
theorem dX11_isKind_4 : decode cX11_isKind 4 = .ok (.iload_n 0, 1) := by decide +kernel
theorem dX11_isKind_5 : decode cX11_isKind 5 = .ok (.iconst 2, 1) := by decide +kernel
theorem dX11_isKind_6 : decode cX11_isKind 6 = .ok (.if_icmp .gt 7, 3) := by decide +kernel
theorem dX11_isKind_9 : decode cX11_isKind 9 = .ok (.iconst 1, 1) := by decide +kernel
theorem dX11_isKind_10 : decode cX11_isKind 10 = .ok (.goto 4, 3) := by decide +kernel
theorem dX11_isKind_13 : decode cX11_isKind 13 = .ok (.iconst 0, 1) := by decide +kernel
theorem dX11_isKind_14 : decode cX11_isKind 14 = .ok (.ireturn, 1) := by decide +kernel
theorem dX11_refusalOfSpare_0 : decode cX11_refusalOfSpare 0 = .ok (.iconst 0, 1) := by decide +kernel
theorem dX11_refusalOfSpare_1 : decode cX11_refusalOfSpare 1 = .ok (.istore_n 2, 1) := by decide +kernel
theorem dX11_refusalOfSpare_2 : decode cX11_refusalOfSpare 2 = .ok (.iconst 0, 1) := by decide +kernel
theorem dX11_refusalOfSpare_3 : decode cX11_refusalOfSpare 3 = .ok (.istore_n 3, 1) := by decide +kernel
theorem dX11_refusalOfSpare_4 : decode cX11_refusalOfSpare 4 = .ok (.iconst 0, 1) := by decide +kernel
theorem dX11_refusalOfSpare_5 : decode cX11_refusalOfSpare 5 = .ok (.istore 4, 2) := by decide +kernel
theorem dX11_refusalOfSpare_7 : decode cX11_refusalOfSpare 7 = .ok (.iload 4, 2) := by decide +kernel
theorem dX11_refusalOfSpare_9 : decode cX11_refusalOfSpare 9 = .ok (.aload_n 0, 1) := by decide +kernel
theorem dX11_refusalOfSpare_10 : decode cX11_refusalOfSpare 10 = .ok (.getfield 28, 3) := by decide +kernel
theorem dX11_refusalOfSpare_13 : decode cX11_refusalOfSpare 13 = .ok (.getfield 128, 3) := by decide +kernel
theorem dX11_refusalOfSpare_16 : decode cX11_refusalOfSpare 16 = .ok (.if_icmp .ge 61, 3) := by decide +kernel
theorem dX11_refusalOfSpare_19 : decode cX11_refusalOfSpare 19 = .ok (.aload_n 0, 1) := by decide +kernel
theorem dX11_refusalOfSpare_20 : decode cX11_refusalOfSpare 20 = .ok (.getfield 28, 3) := by decide +kernel
theorem dX11_refusalOfSpare_23 : decode cX11_refusalOfSpare 23 = .ok (.aload_n 0, 1) := by decide +kernel
theorem dX11_refusalOfSpare_24 : decode cX11_refusalOfSpare 24 = .ok (.getfield 90, 3) := by decide +kernel
theorem dX11_refusalOfSpare_27 : decode cX11_refusalOfSpare 27 = .ok (.iload 4, 2) := by decide +kernel
theorem dX11_refusalOfSpare_29 : decode cX11_refusalOfSpare 29 = .ok (.iaload, 1) := by decide +kernel
theorem dX11_refusalOfSpare_30 : decode cX11_refusalOfSpare 30 = .ok (.invokevirtual 137, 3) := by decide +kernel
theorem dX11_refusalOfSpare_33 : decode cX11_refusalOfSpare 33 = .ok (.ifCond .ne 5, 3) := by decide +kernel
theorem dX11_refusalOfSpare_36 : decode cX11_refusalOfSpare 36 = .ok (.iconst (-1), 1) := by decide +kernel
theorem dX11_refusalOfSpare_37 : decode cX11_refusalOfSpare 37 = .ok (.ireturn, 1) := by decide +kernel
theorem dX11_refusalOfSpare_38 : decode cX11_refusalOfSpare 38 = .ok (.iconst 1, 1) := by decide +kernel
theorem dX11_refusalOfSpare_39 : decode cX11_refusalOfSpare 39 = .ok (.aload_n 0, 1) := by decide +kernel
theorem dX11_refusalOfSpare_40 : decode cX11_refusalOfSpare 40 = .ok (.getfield 90, 3) := by decide +kernel
theorem dX11_refusalOfSpare_43 : decode cX11_refusalOfSpare 43 = .ok (.iload 4, 2) := by decide +kernel
theorem dX11_refusalOfSpare_45 : decode cX11_refusalOfSpare 45 = .ok (.iaload, 1) := by decide +kernel
theorem dX11_refusalOfSpare_46 : decode cX11_refusalOfSpare 46 = .ok (.ishl, 1) := by decide +kernel
theorem dX11_refusalOfSpare_47 : decode cX11_refusalOfSpare 47 = .ok (.istore 5, 2) := by decide +kernel
theorem dX11_refusalOfSpare_49 : decode cX11_refusalOfSpare 49 = .ok (.iload_n 3, 1) := by decide +kernel
theorem dX11_refusalOfSpare_50 : decode cX11_refusalOfSpare 50 = .ok (.ifCond .ne 10, 3) := by decide +kernel
theorem dX11_refusalOfSpare_53 : decode cX11_refusalOfSpare 53 = .ok (.iload_n 2, 1) := by decide +kernel
theorem dX11_refusalOfSpare_54 : decode cX11_refusalOfSpare 54 = .ok (.iload 5, 2) := by decide +kernel
theorem dX11_refusalOfSpare_56 : decode cX11_refusalOfSpare 56 = .ok (.iand, 1) := by decide +kernel
theorem dX11_refusalOfSpare_57 : decode cX11_refusalOfSpare 57 = .ok (.ifCond .eq 7, 3) := by decide +kernel
theorem dX11_refusalOfSpare_60 : decode cX11_refusalOfSpare 60 = .ok (.iconst 1, 1) := by decide +kernel
theorem dX11_refusalOfSpare_61 : decode cX11_refusalOfSpare 61 = .ok (.goto 4, 3) := by decide +kernel
theorem dX11_refusalOfSpare_64 : decode cX11_refusalOfSpare 64 = .ok (.iconst 0, 1) := by decide +kernel
theorem dX11_refusalOfSpare_65 : decode cX11_refusalOfSpare 65 = .ok (.istore_n 3, 1) := by decide +kernel
theorem dX11_refusalOfSpare_66 : decode cX11_refusalOfSpare 66 = .ok (.iload_n 2, 1) := by decide +kernel
theorem dX11_refusalOfSpare_67 : decode cX11_refusalOfSpare 67 = .ok (.iload 5, 2) := by decide +kernel
theorem dX11_refusalOfSpare_69 : decode cX11_refusalOfSpare 69 = .ok (.ior, 1) := by decide +kernel
theorem dX11_refusalOfSpare_70 : decode cX11_refusalOfSpare 70 = .ok (.istore_n 2, 1) := by decide +kernel
theorem dX11_refusalOfSpare_71 : decode cX11_refusalOfSpare 71 = .ok (.iinc 4 1, 3) := by decide +kernel
theorem dX11_refusalOfSpare_74 : decode cX11_refusalOfSpare 74 = .ok (.goto (-67), 3) := by decide +kernel
theorem dX11_refusalOfSpare_77 : decode cX11_refusalOfSpare 77 = .ok (.iload_n 3, 1) := by decide +kernel
theorem dX11_refusalOfSpare_78 : decode cX11_refusalOfSpare 78 = .ok (.ifCond .eq 6, 3) := by decide +kernel
theorem dX11_refusalOfSpare_81 : decode cX11_refusalOfSpare 81 = .ok (.bipush (-3), 2) := by decide +kernel
theorem dX11_refusalOfSpare_83 : decode cX11_refusalOfSpare 83 = .ok (.ireturn, 1) := by decide +kernel
theorem dX11_refusalOfSpare_84 : decode cX11_refusalOfSpare 84 = .ok (.aload_n 0, 1) := by decide +kernel
theorem dX11_refusalOfSpare_85 : decode cX11_refusalOfSpare 85 = .ok (.getfield 44, 3) := by decide +kernel
theorem dX11_refusalOfSpare_88 : decode cX11_refusalOfSpare 88 = .ok (.aload_n 0, 1) := by decide +kernel
theorem dX11_refusalOfSpare_89 : decode cX11_refusalOfSpare 89 = .ok (.getfield 90, 3) := by decide +kernel
theorem dX11_refusalOfSpare_92 : decode cX11_refusalOfSpare 92 = .ok (.invokevirtual 184, 3) := by decide +kernel
theorem dX11_refusalOfSpare_95 : decode cX11_refusalOfSpare 95 = .ok (.iload_n 1, 1) := by decide +kernel
theorem dX11_refusalOfSpare_96 : decode cX11_refusalOfSpare 96 = .ok (.ifCond .eq 16, 3) := by decide +kernel
theorem dX11_refusalOfSpare_99 : decode cX11_refusalOfSpare 99 = .ok (.aload_n 0, 1) := by decide +kernel
theorem dX11_refusalOfSpare_100 : decode cX11_refusalOfSpare 100 = .ok (.getfield 44, 3) := by decide +kernel
theorem dX11_refusalOfSpare_103 : decode cX11_refusalOfSpare 103 = .ok (.getfield 188, 3) := by decide +kernel
theorem dX11_refusalOfSpare_106 : decode cX11_refusalOfSpare 106 = .ok (.ifCond .ne 6, 3) := by decide +kernel
theorem dX11_refusalOfSpare_109 : decode cX11_refusalOfSpare 109 = .ok (.bipush (-3), 2) := by decide +kernel
theorem dX11_refusalOfSpare_111 : decode cX11_refusalOfSpare 111 = .ok (.ireturn, 1) := by decide +kernel
theorem dX11_refusalOfSpare_112 : decode cX11_refusalOfSpare 112 = .ok (.aload_n 0, 1) := by decide +kernel
theorem dX11_refusalOfSpare_113 : decode cX11_refusalOfSpare 113 = .ok (.getfield 35, 3) := by decide +kernel
theorem dX11_refusalOfSpare_116 : decode cX11_refusalOfSpare 116 = .ok (.invokevirtual 192, 3) := by decide +kernel
theorem dX11_refusalOfSpare_119 : decode cX11_refusalOfSpare 119 = .ok (.ifCond .eq 8, 3) := by decide +kernel
theorem dX11_refusalOfSpare_122 : decode cX11_refusalOfSpare 122 = .ok (.bipush (-4), 2) := by decide +kernel
theorem dX11_refusalOfSpare_124 : decode cX11_refusalOfSpare 124 = .ok (.goto 4, 3) := by decide +kernel
theorem dX11_refusalOfSpare_127 : decode cX11_refusalOfSpare 127 = .ok (.iconst 0, 1) := by decide +kernel
theorem dX11_refusalOfSpare_128 : decode cX11_refusalOfSpare 128 = .ok (.ireturn, 1) := by decide +kernel
theorem dX11_order_0 : decode cX11_order 0 = .ok (.aload_n 0, 1) := by decide +kernel
theorem dX11_order_1 : decode cX11_order 1 = .ok (.iconst 0, 1) := by decide +kernel
theorem dX11_order_2 : decode cX11_order 2 = .ok (.putfield 94, 3) := by decide +kernel
theorem dX11_order_5 : decode cX11_order 5 = .ok (.iload_n 2, 1) := by decide +kernel
theorem dX11_order_6 : decode cX11_order 6 = .ok (.invokestatic 98, 3) := by decide +kernel
theorem dX11_order_9 : decode cX11_order 9 = .ok (.ifCond .ne 5, 3) := by decide +kernel
theorem dX11_order_12 : decode cX11_order 12 = .ok (.iconst (-1), 1) := by decide +kernel
theorem dX11_order_13 : decode cX11_order 13 = .ok (.ireturn, 1) := by decide +kernel
theorem dX11_order_14 : decode cX11_order 14 = .ok (.iload_n 1, 1) := by decide +kernel
theorem dX11_order_15 : decode cX11_order 15 = .ok (.invokestatic 169, 3) := by decide +kernel
theorem dX11_order_18 : decode cX11_order 18 = .ok (.ifCond .eq 10, 3) := by decide +kernel
theorem dX11_order_21 : decode cX11_order 21 = .ok (.iload_n 3, 1) := by decide +kernel
theorem dX11_order_22 : decode cX11_order 22 = .ok (.invokestatic 102, 3) := by decide +kernel
theorem dX11_order_25 : decode cX11_order 25 = .ok (.ifCond .ne 6, 3) := by decide +kernel
theorem dX11_order_28 : decode cX11_order 28 = .ok (.bipush (-2), 2) := by decide +kernel
theorem dX11_order_30 : decode cX11_order 30 = .ok (.ireturn, 1) := by decide +kernel
theorem dX11_order_31 : decode cX11_order 31 = .ok (.aload_n 0, 1) := by decide +kernel
theorem dX11_order_32 : decode cX11_order 32 = .ok (.getfield 14, 3) := by decide +kernel
theorem dX11_order_35 : decode cX11_order 35 = .ok (.iload_n 2, 1) := by decide +kernel
theorem dX11_order_36 : decode cX11_order 36 = .ok (.iload_n 3, 1) := by decide +kernel
theorem dX11_order_37 : decode cX11_order 37 = .ok (.iload 4, 2) := by decide +kernel
theorem dX11_order_39 : decode cX11_order 39 = .ok (.iload 5, 2) := by decide +kernel
theorem dX11_order_41 : decode cX11_order 41 = .ok (.invokevirtual 105, 3) := by decide +kernel
theorem dX11_order_44 : decode cX11_order 44 = .ok (.istore 6, 2) := by decide +kernel
theorem dX11_order_46 : decode cX11_order 46 = .ok (.iload 6, 2) := by decide +kernel
theorem dX11_order_48 : decode cX11_order 48 = .ok (.ifCond .eq 10, 3) := by decide +kernel
theorem dX11_order_51 : decode cX11_order 51 = .ok (.aload_n 0, 1) := by decide +kernel
theorem dX11_order_52 : decode cX11_order 52 = .ok (.iload 6, 2) := by decide +kernel
theorem dX11_order_54 : decode cX11_order 54 = .ok (.invokevirtual 109, 3) := by decide +kernel
theorem dX11_order_57 : decode cX11_order 57 = .ok (.ireturn, 1) := by decide +kernel
theorem dX11_order_58 : decode cX11_order 58 = .ok (.iload 5, 2) := by decide +kernel
theorem dX11_order_60 : decode cX11_order 60 = .ok (.ifCond .eq 15, 3) := by decide +kernel
theorem dX11_order_63 : decode cX11_order 63 = .ok (.iload 5, 2) := by decide +kernel
theorem dX11_order_65 : decode cX11_order 65 = .ok (.aload_n 0, 1) := by decide +kernel
theorem dX11_order_66 : decode cX11_order 66 = .ok (.getfield 28, 3) := by decide +kernel
theorem dX11_order_69 : decode cX11_order 69 = .ok (.getfield 128, 3) := by decide +kernel
theorem dX11_order_72 : decode cX11_order 72 = .ok (.if_icmp .eq 6, 3) := by decide +kernel
theorem dX11_order_75 : decode cX11_order 75 = .ok (.bipush (-2), 2) := by decide +kernel
theorem dX11_order_77 : decode cX11_order 77 = .ok (.ireturn, 1) := by decide +kernel
theorem dX11_order_78 : decode cX11_order 78 = .ok (.aload_n 0, 1) := by decide +kernel
theorem dX11_order_79 : decode cX11_order 79 = .ok (.getfield 14, 3) := by decide +kernel
theorem dX11_order_82 : decode cX11_order 82 = .ok (.getfield 113, 3) := by decide +kernel
theorem dX11_order_85 : decode cX11_order 85 = .ok (.iload_n 2, 1) := by decide +kernel
theorem dX11_order_86 : decode cX11_order 86 = .ok (.aaload, 1) := by decide +kernel
theorem dX11_order_87 : decode cX11_order 87 = .ok (.iload 4, 2) := by decide +kernel
theorem dX11_order_89 : decode cX11_order 89 = .ok (.aload_n 0, 1) := by decide +kernel
theorem dX11_order_90 : decode cX11_order 90 = .ok (.getfield 90, 3) := by decide +kernel
theorem dX11_order_93 : decode cX11_order 93 = .ok (.iconst 0, 1) := by decide +kernel
theorem dX11_order_94 : decode cX11_order 94 = .ok (.iload 5, 2) := by decide +kernel
theorem dX11_order_96 : decode cX11_order 96 = .ok (.invokestatic 172, 3) := by decide +kernel
theorem dX11_order_99 : decode cX11_order 99 = .ok (.aload_n 0, 1) := by decide +kernel
theorem dX11_order_100 : decode cX11_order 100 = .ok (.iload_n 1, 1) := by decide +kernel
theorem dX11_order_101 : decode cX11_order 101 = .ok (.invokevirtual 178, 3) := by decide +kernel
theorem dX11_order_104 : decode cX11_order 104 = .ok (.istore 7, 2) := by decide +kernel
theorem dX11_order_106 : decode cX11_order 106 = .ok (.iload 7, 2) := by decide +kernel
theorem dX11_order_108 : decode cX11_order 108 = .ok (.ifCond .eq 8, 3) := by decide +kernel
theorem dX11_order_111 : decode cX11_order 111 = .ok (.iload 7, 2) := by decide +kernel
theorem dX11_order_113 : decode cX11_order 113 = .ok (.goto 15, 3) := by decide +kernel
theorem dX11_order_116 : decode cX11_order 116 = .ok (.aload_n 0, 1) := by decide +kernel
theorem dX11_order_117 : decode cX11_order 117 = .ok (.getfield 35, 3) := by decide +kernel
theorem dX11_order_120 : decode cX11_order 120 = .ok (.iload_n 1, 1) := by decide +kernel
theorem dX11_order_121 : decode cX11_order 121 = .ok (.aload_n 0, 1) := by decide +kernel
theorem dX11_order_122 : decode cX11_order 122 = .ok (.getfield 90, 3) := by decide +kernel
theorem dX11_order_125 : decode cX11_order 125 = .ok (.invokevirtual 181, 3) := by decide +kernel
theorem dX11_order_128 : decode cX11_order 128 = .ok (.ireturn, 1) := by decide +kernel
theorem dX11_atPlace_0 : decode cX11_atPlace 0 = .ok (.iload_n 2, 1) := by decide +kernel
theorem dX11_atPlace_1 : decode cX11_atPlace 1 = .ok (.bipush 10, 2) := by decide +kernel
theorem dX11_atPlace_3 : decode cX11_atPlace 3 = .ok (.idiv, 1) := by decide +kernel
theorem dX11_atPlace_4 : decode cX11_atPlace 4 = .ok (.istore_n 3, 1) := by decide +kernel
theorem dX11_atPlace_5 : decode cX11_atPlace 5 = .ok (.iload_n 2, 1) := by decide +kernel
theorem dX11_atPlace_6 : decode cX11_atPlace 6 = .ok (.bipush 10, 2) := by decide +kernel
theorem dX11_atPlace_8 : decode cX11_atPlace 8 = .ok (.irem, 1) := by decide +kernel
theorem dX11_atPlace_9 : decode cX11_atPlace 9 = .ok (.istore 4, 2) := by decide +kernel
theorem dX11_atPlace_11 : decode cX11_atPlace 11 = .ok (.iload 4, 2) := by decide +kernel
theorem dX11_atPlace_13 : decode cX11_atPlace 13 = .ok (.ifCond .lt 15, 3) := by decide +kernel
theorem dX11_atPlace_16 : decode cX11_atPlace 16 = .ok (.iload 4, 2) := by decide +kernel
theorem dX11_atPlace_18 : decode cX11_atPlace 18 = .ok (.aload_n 0, 1) := by decide +kernel
theorem dX11_atPlace_19 : decode cX11_atPlace 19 = .ok (.getfield 28, 3) := by decide +kernel
theorem dX11_atPlace_22 : decode cX11_atPlace 22 = .ok (.getfield 128, 3) := by decide +kernel
theorem dX11_atPlace_25 : decode cX11_atPlace 25 = .ok (.if_icmp .lt 6, 3) := by decide +kernel
theorem dX11_atPlace_28 : decode cX11_atPlace 28 = .ok (.bipush (-2), 2) := by decide +kernel
theorem dX11_atPlace_30 : decode cX11_atPlace 30 = .ok (.ireturn, 1) := by decide +kernel
theorem dX11_atPlace_31 : decode cX11_atPlace 31 = .ok (.iload_n 3, 1) := by decide +kernel
theorem dX11_atPlace_32 : decode cX11_atPlace 32 = .ok (.tableswitch 73 1 3 #[28, 41, 52], 28) := by decide +kernel
theorem dX11_atPlace_60 : decode cX11_atPlace 60 = .ok (.aload_n 0, 1) := by decide +kernel
theorem dX11_atPlace_61 : decode cX11_atPlace 61 = .ok (.getfield 35, 3) := by decide +kernel
theorem dX11_atPlace_64 : decode cX11_atPlace 64 = .ok (.getfield 197, 3) := by decide +kernel
theorem dX11_atPlace_67 : decode cX11_atPlace 67 = .ok (.iload_n 1, 1) := by decide +kernel
theorem dX11_atPlace_68 : decode cX11_atPlace 68 = .ok (.aaload, 1) := by decide +kernel
theorem dX11_atPlace_69 : decode cX11_atPlace 69 = .ok (.iload 4, 2) := by decide +kernel
theorem dX11_atPlace_71 : decode cX11_atPlace 71 = .ok (.iaload, 1) := by decide +kernel
theorem dX11_atPlace_72 : decode cX11_atPlace 72 = .ok (.ireturn, 1) := by decide +kernel
theorem dX11_atPlace_73 : decode cX11_atPlace 73 = .ok (.aload_n 0, 1) := by decide +kernel
theorem dX11_atPlace_74 : decode cX11_atPlace 74 = .ok (.getfield 44, 3) := by decide +kernel
theorem dX11_atPlace_77 : decode cX11_atPlace 77 = .ok (.getfield 212, 3) := by decide +kernel
theorem dX11_atPlace_80 : decode cX11_atPlace 80 = .ok (.iload 4, 2) := by decide +kernel
theorem dX11_atPlace_82 : decode cX11_atPlace 82 = .ok (.iaload, 1) := by decide +kernel
theorem dX11_atPlace_83 : decode cX11_atPlace 83 = .ok (.ireturn, 1) := by decide +kernel
theorem dX11_atPlace_84 : decode cX11_atPlace 84 = .ok (.aload_n 0, 1) := by decide +kernel
theorem dX11_atPlace_85 : decode cX11_atPlace 85 = .ok (.getfield 28, 3) := by decide +kernel
theorem dX11_atPlace_88 : decode cX11_atPlace 88 = .ok (.getfield 215, 3) := by decide +kernel
theorem dX11_atPlace_91 : decode cX11_atPlace 91 = .ok (.aload_n 0, 1) := by decide +kernel
theorem dX11_atPlace_92 : decode cX11_atPlace 92 = .ok (.getfield 44, 3) := by decide +kernel
theorem dX11_atPlace_95 : decode cX11_atPlace 95 = .ok (.getfield 212, 3) := by decide +kernel
theorem dX11_atPlace_98 : decode cX11_atPlace 98 = .ok (.iload 4, 2) := by decide +kernel
theorem dX11_atPlace_100 : decode cX11_atPlace 100 = .ok (.iaload, 1) := by decide +kernel
theorem dX11_atPlace_101 : decode cX11_atPlace 101 = .ok (.invokevirtual 218, 3) := by decide +kernel
theorem dX11_atPlace_104 : decode cX11_atPlace 104 = .ok (.ireturn, 1) := by decide +kernel
theorem dX11_atPlace_105 : decode cX11_atPlace 105 = .ok (.bipush (-2), 2) := by decide +kernel
theorem dX11_atPlace_107 : decode cX11_atPlace 107 = .ok (.ireturn, 1) := by decide +kernel
theorem dX11_ofOrder_0 : decode cX11_ofOrder 0 = .ok (.aload_n 0, 1) := by decide +kernel
theorem dX11_ofOrder_1 : decode cX11_ofOrder 1 = .ok (.getfield 35, 3) := by decide +kernel
theorem dX11_ofOrder_4 : decode cX11_ofOrder 4 = .ok (.iload_n 1, 1) := by decide +kernel
theorem dX11_ofOrder_5 : decode cX11_ofOrder 5 = .ok (.invokevirtual 196, 3) := by decide +kernel
theorem dX11_ofOrder_8 : decode cX11_ofOrder 8 = .ok (.ifCond .ne 5, 3) := by decide +kernel
theorem dX11_ofOrder_11 : decode cX11_ofOrder 11 = .ok (.iconst (-1), 1) := by decide +kernel
theorem dX11_ofOrder_12 : decode cX11_ofOrder 12 = .ok (.ireturn, 1) := by decide +kernel
theorem dX11_ofOrder_13 : decode cX11_ofOrder 13 = .ok (.aload_n 0, 1) := by decide +kernel
theorem dX11_ofOrder_14 : decode cX11_ofOrder 14 = .ok (.getfield 44, 3) := by decide +kernel
theorem dX11_ofOrder_17 : decode cX11_ofOrder 17 = .ok (.aload_n 0, 1) := by decide +kernel
theorem dX11_ofOrder_18 : decode cX11_ofOrder 18 = .ok (.getfield 35, 3) := by decide +kernel
theorem dX11_ofOrder_21 : decode cX11_ofOrder 21 = .ok (.getfield 197, 3) := by decide +kernel
theorem dX11_ofOrder_24 : decode cX11_ofOrder 24 = .ok (.iload_n 1, 1) := by decide +kernel
theorem dX11_ofOrder_25 : decode cX11_ofOrder 25 = .ok (.aaload, 1) := by decide +kernel
theorem dX11_ofOrder_26 : decode cX11_ofOrder 26 = .ok (.invokevirtual 184, 3) := by decide +kernel
theorem dX11_ofOrder_29 : decode cX11_ofOrder 29 = .ok (.iload_n 2, 1) := by decide +kernel
theorem dX11_ofOrder_30 : decode cX11_ofOrder 30 = .ok (.tableswitch 72 0 3 #[30, 40, 48, 56], 30) := by decide +kernel
theorem dX11_ofOrder_60 : decode cX11_ofOrder 60 = .ok (.aload_n 0, 1) := by decide +kernel
theorem dX11_ofOrder_61 : decode cX11_ofOrder 61 = .ok (.getfield 35, 3) := by decide +kernel
theorem dX11_ofOrder_64 : decode cX11_ofOrder 64 = .ok (.getfield 200, 3) := by decide +kernel
theorem dX11_ofOrder_67 : decode cX11_ofOrder 67 = .ok (.iload_n 1, 1) := by decide +kernel
theorem dX11_ofOrder_68 : decode cX11_ofOrder 68 = .ok (.iaload, 1) := by decide +kernel
theorem dX11_ofOrder_69 : decode cX11_ofOrder 69 = .ok (.ireturn, 1) := by decide +kernel
theorem dX11_ofOrder_70 : decode cX11_ofOrder 70 = .ok (.aload_n 0, 1) := by decide +kernel
theorem dX11_ofOrder_71 : decode cX11_ofOrder 71 = .ok (.getfield 44, 3) := by decide +kernel
theorem dX11_ofOrder_74 : decode cX11_ofOrder 74 = .ok (.getfield 203, 3) := by decide +kernel
theorem dX11_ofOrder_77 : decode cX11_ofOrder 77 = .ok (.ireturn, 1) := by decide +kernel
theorem dX11_ofOrder_78 : decode cX11_ofOrder 78 = .ok (.aload_n 0, 1) := by decide +kernel
theorem dX11_ofOrder_79 : decode cX11_ofOrder 79 = .ok (.getfield 44, 3) := by decide +kernel
theorem dX11_ofOrder_82 : decode cX11_ofOrder 82 = .ok (.getfield 206, 3) := by decide +kernel
theorem dX11_ofOrder_85 : decode cX11_ofOrder 85 = .ok (.ireturn, 1) := by decide +kernel
theorem dX11_ofOrder_86 : decode cX11_ofOrder 86 = .ok (.aload_n 0, 1) := by decide +kernel
theorem dX11_ofOrder_87 : decode cX11_ofOrder 87 = .ok (.getfield 44, 3) := by decide +kernel
theorem dX11_ofOrder_90 : decode cX11_ofOrder 90 = .ok (.getfield 188, 3) := by decide +kernel
theorem dX11_ofOrder_93 : decode cX11_ofOrder 93 = .ok (.ifCond .eq 7, 3) := by decide +kernel
theorem dX11_ofOrder_96 : decode cX11_ofOrder 96 = .ok (.iconst 1, 1) := by decide +kernel
theorem dX11_ofOrder_97 : decode cX11_ofOrder 97 = .ok (.goto 4, 3) := by decide +kernel
theorem dX11_ofOrder_100 : decode cX11_ofOrder 100 = .ok (.iconst 0, 1) := by decide +kernel
theorem dX11_ofOrder_101 : decode cX11_ofOrder 101 = .ok (.ireturn, 1) := by decide +kernel
theorem dX11_ofOrder_102 : decode cX11_ofOrder 102 = .ok (.aload_n 0, 1) := by decide +kernel
theorem dX11_ofOrder_103 : decode cX11_ofOrder 103 = .ok (.iload_n 1, 1) := by decide +kernel
theorem dX11_ofOrder_104 : decode cX11_ofOrder 104 = .ok (.iload_n 2, 1) := by decide +kernel
theorem dX11_ofOrder_105 : decode cX11_ofOrder 105 = .ok (.invokevirtual 209, 3) := by decide +kernel
theorem dX11_ofOrder_108 : decode cX11_ofOrder 108 = .ok (.ireturn, 1) := by decide +kernel
theorem dX11_best_0 : decode cX11_best 0 = .ok (.aload_n 0, 1) := by decide +kernel
theorem dX11_best_1 : decode cX11_best 1 = .ok (.getfield 28, 3) := by decide +kernel
theorem dX11_best_4 : decode cX11_best 4 = .ok (.getfield 128, 3) := by decide +kernel
theorem dX11_best_7 : decode cX11_best 7 = .ok (.ifCond .ne 6, 3) := by decide +kernel
theorem dX11_best_10 : decode cX11_best 10 = .ok (.bipush (-3), 2) := by decide +kernel
theorem dX11_best_12 : decode cX11_best 12 = .ok (.ireturn, 1) := by decide +kernel
theorem dX11_best_13 : decode cX11_best 13 = .ok (.aload_n 0, 1) := by decide +kernel
theorem dX11_best_14 : decode cX11_best 14 = .ok (.getfield 51, 3) := by decide +kernel
theorem dX11_best_17 : decode cX11_best 17 = .ok (.invokevirtual 221, 3) := by decide +kernel
theorem dX11_best_20 : decode cX11_best 20 = .ok (.iload_n 1, 1) := by decide +kernel
theorem dX11_best_21 : decode cX11_best 21 = .ok (.ifCond .ne 12, 3) := by decide +kernel
theorem dX11_best_24 : decode cX11_best 24 = .ok (.aload_n 0, 1) := by decide +kernel
theorem dX11_best_25 : decode cX11_best 25 = .ok (.getfield 51, 3) := by decide +kernel
theorem dX11_best_28 : decode cX11_best 28 = .ok (.iconst 0, 1) := by decide +kernel
theorem dX11_best_29 : decode cX11_best 29 = .ok (.invokevirtual 224, 3) := by decide +kernel
theorem dX11_best_32 : decode cX11_best 32 = .ok (.ireturn, 1) := by decide +kernel
theorem dX11_best_33 : decode cX11_best 33 = .ok (.iload_n 1, 1) := by decide +kernel
theorem dX11_best_34 : decode cX11_best 34 = .ok (.iconst 1, 1) := by decide +kernel
theorem dX11_best_35 : decode cX11_best 35 = .ok (.if_icmp .ne 12, 3) := by decide +kernel
theorem dX11_best_38 : decode cX11_best 38 = .ok (.aload_n 0, 1) := by decide +kernel
theorem dX11_best_39 : decode cX11_best 39 = .ok (.getfield 51, 3) := by decide +kernel
theorem dX11_best_42 : decode cX11_best 42 = .ok (.iconst 0, 1) := by decide +kernel
theorem dX11_best_43 : decode cX11_best 43 = .ok (.invokevirtual 227, 3) := by decide +kernel
theorem dX11_best_46 : decode cX11_best 46 = .ok (.ireturn, 1) := by decide +kernel
theorem dX11_best_47 : decode cX11_best 47 = .ok (.iload_n 1, 1) := by decide +kernel
theorem dX11_best_48 : decode cX11_best 48 = .ok (.bipush 10, 2) := by decide +kernel
theorem dX11_best_50 : decode cX11_best 50 = .ok (.if_icmp .lt 17, 3) := by decide +kernel
theorem dX11_best_53 : decode cX11_best 53 = .ok (.iload_n 1, 1) := by decide +kernel
theorem dX11_best_54 : decode cX11_best 54 = .ok (.bipush 10, 2) := by decide +kernel
theorem dX11_best_56 : decode cX11_best 56 = .ok (.isub, 1) := by decide +kernel
theorem dX11_best_57 : decode cX11_best 57 = .ok (.aload_n 0, 1) := by decide +kernel
theorem dX11_best_58 : decode cX11_best 58 = .ok (.getfield 28, 3) := by decide +kernel
theorem dX11_best_61 : decode cX11_best 61 = .ok (.getfield 128, 3) := by decide +kernel
theorem dX11_best_64 : decode cX11_best 64 = .ok (.if_icmp .lt 6, 3) := by decide +kernel
theorem dX11_best_67 : decode cX11_best 67 = .ok (.bipush (-2), 2) := by decide +kernel
theorem dX11_best_69 : decode cX11_best 69 = .ok (.ireturn, 1) := by decide +kernel
theorem dX11_best_70 : decode cX11_best 70 = .ok (.aload_n 0, 1) := by decide +kernel
theorem dX11_best_71 : decode cX11_best 71 = .ok (.getfield 51, 3) := by decide +kernel
theorem dX11_best_74 : decode cX11_best 74 = .ok (.iload_n 1, 1) := by decide +kernel
theorem dX11_best_75 : decode cX11_best 75 = .ok (.bipush 10, 2) := by decide +kernel
theorem dX11_best_77 : decode cX11_best 77 = .ok (.isub, 1) := by decide +kernel
theorem dX11_best_78 : decode cX11_best 78 = .ok (.invokevirtual 230, 3) := by decide +kernel
theorem dX11_best_81 : decode cX11_best 81 = .ok (.ireturn, 1) := by decide +kernel
theorem dX11_from_0 : decode cX11_from 0 = .ok (.aload_n 0, 1) := by decide +kernel
theorem dX11_from_1 : decode cX11_from 1 = .ok (.getfield 35, 3) := by decide +kernel
theorem dX11_from_4 : decode cX11_from 4 = .ok (.iload_n 1, 1) := by decide +kernel
theorem dX11_from_5 : decode cX11_from 5 = .ok (.invokevirtual 196, 3) := by decide +kernel
theorem dX11_from_8 : decode cX11_from 8 = .ok (.ifCond .ne 5, 3) := by decide +kernel
theorem dX11_from_11 : decode cX11_from 11 = .ok (.iconst (-1), 1) := by decide +kernel
theorem dX11_from_12 : decode cX11_from 12 = .ok (.ireturn, 1) := by decide +kernel
theorem dX11_from_13 : decode cX11_from 13 = .ok (.iload_n 2, 1) := by decide +kernel
theorem dX11_from_14 : decode cX11_from 14 = .ok (.ifCond .lt 23, 3) := by decide +kernel
theorem dX11_from_17 : decode cX11_from 17 = .ok (.iload_n 2, 1) := by decide +kernel
theorem dX11_from_18 : decode cX11_from 18 = .ok (.aload_n 0, 1) := by decide +kernel
theorem dX11_from_19 : decode cX11_from 19 = .ok (.getfield 28, 3) := by decide +kernel
theorem dX11_from_22 : decode cX11_from 22 = .ok (.getfield 128, 3) := by decide +kernel
theorem dX11_from_25 : decode cX11_from 25 = .ok (.if_icmp .gt 12, 3) := by decide +kernel
theorem dX11_from_28 : decode cX11_from 28 = .ok (.iload_n 3, 1) := by decide +kernel
theorem dX11_from_29 : decode cX11_from 29 = .ok (.ifCond .lt 8, 3) := by decide +kernel
theorem dX11_from_32 : decode cX11_from 32 = .ok (.iload_n 3, 1) := by decide +kernel
theorem dX11_from_33 : decode cX11_from 33 = .ok (.iconst 2, 1) := by decide +kernel
theorem dX11_from_34 : decode cX11_from 34 = .ok (.if_icmp .le 6, 3) := by decide +kernel
theorem dX11_from_37 : decode cX11_from 37 = .ok (.bipush (-2), 2) := by decide +kernel
theorem dX11_from_39 : decode cX11_from 39 = .ok (.ireturn, 1) := by decide +kernel
theorem dX11_from_40 : decode cX11_from 40 = .ok (.aload_n 0, 1) := by decide +kernel
theorem dX11_from_41 : decode cX11_from 41 = .ok (.getfield 35, 3) := by decide +kernel
theorem dX11_from_44 : decode cX11_from 44 = .ok (.iload_n 1, 1) := by decide +kernel
theorem dX11_from_45 : decode cX11_from 45 = .ok (.iload_n 2, 1) := by decide +kernel
theorem dX11_from_46 : decode cX11_from 46 = .ok (.invokevirtual 233, 3) := by decide +kernel
theorem dX11_from_49 : decode cX11_from 49 = .ok (.istore 4, 2) := by decide +kernel
theorem dX11_from_51 : decode cX11_from 51 = .ok (.aload_n 0, 1) := by decide +kernel
theorem dX11_from_52 : decode cX11_from 52 = .ok (.getfield 28, 3) := by decide +kernel
theorem dX11_from_55 : decode cX11_from 55 = .ok (.iload 4, 2) := by decide +kernel
theorem dX11_from_57 : decode cX11_from 57 = .ok (.invokevirtual 236, 3) := by decide +kernel
theorem dX11_from_60 : decode cX11_from 60 = .ok (.ifCond .ne 6, 3) := by decide +kernel
theorem dX11_from_63 : decode cX11_from 63 = .ok (.bipush (-3), 2) := by decide +kernel
theorem dX11_from_65 : decode cX11_from 65 = .ok (.ireturn, 1) := by decide +kernel
theorem dX11_from_66 : decode cX11_from 66 = .ok (.aload_n 0, 1) := by decide +kernel
theorem dX11_from_67 : decode cX11_from 67 = .ok (.getfield 51, 3) := by decide +kernel
theorem dX11_from_70 : decode cX11_from 70 = .ok (.invokevirtual 221, 3) := by decide +kernel
theorem dX11_from_73 : decode cX11_from 73 = .ok (.iload_n 3, 1) := by decide +kernel
theorem dX11_from_74 : decode cX11_from 74 = .ok (.ifCond .ne 13, 3) := by decide +kernel
theorem dX11_from_77 : decode cX11_from 77 = .ok (.aload_n 0, 1) := by decide +kernel
theorem dX11_from_78 : decode cX11_from 78 = .ok (.getfield 51, 3) := by decide +kernel
theorem dX11_from_81 : decode cX11_from 81 = .ok (.iload 4, 2) := by decide +kernel
theorem dX11_from_83 : decode cX11_from 83 = .ok (.invokevirtual 224, 3) := by decide +kernel
theorem dX11_from_86 : decode cX11_from 86 = .ok (.ireturn, 1) := by decide +kernel
theorem dX11_from_87 : decode cX11_from 87 = .ok (.iload_n 3, 1) := by decide +kernel
theorem dX11_from_88 : decode cX11_from 88 = .ok (.iconst 1, 1) := by decide +kernel
theorem dX11_from_89 : decode cX11_from 89 = .ok (.if_icmp .ne 15, 3) := by decide +kernel
theorem dX11_from_92 : decode cX11_from 92 = .ok (.aload_n 0, 1) := by decide +kernel
theorem dX11_from_93 : decode cX11_from 93 = .ok (.getfield 51, 3) := by decide +kernel
theorem dX11_from_96 : decode cX11_from 96 = .ok (.iload 4, 2) := by decide +kernel
theorem dX11_from_98 : decode cX11_from 98 = .ok (.invokevirtual 227, 3) := by decide +kernel
theorem dX11_from_101 : decode cX11_from 101 = .ok (.goto 12, 3) := by decide +kernel
theorem dX11_from_104 : decode cX11_from 104 = .ok (.aload_n 0, 1) := by decide +kernel
theorem dX11_from_105 : decode cX11_from 105 = .ok (.getfield 51, 3) := by decide +kernel
theorem dX11_from_108 : decode cX11_from 108 = .ok (.iload 4, 2) := by decide +kernel
theorem dX11_from_110 : decode cX11_from 110 = .ok (.invokevirtual 239, 3) := by decide +kernel
theorem dX11_from_113 : decode cX11_from 113 = .ok (.ireturn, 1) := by decide +kernel
theorem dX11_better_0 : decode cX11_better 0 = .ok (.aload_n 0, 1) := by decide +kernel
theorem dX11_better_1 : decode cX11_better 1 = .ok (.getfield 35, 3) := by decide +kernel
theorem dX11_better_4 : decode cX11_better 4 = .ok (.iload_n 1, 1) := by decide +kernel
theorem dX11_better_5 : decode cX11_better 5 = .ok (.invokevirtual 196, 3) := by decide +kernel
theorem dX11_better_8 : decode cX11_better 8 = .ok (.ifCond .eq 14, 3) := by decide +kernel
theorem dX11_better_11 : decode cX11_better 11 = .ok (.aload_n 0, 1) := by decide +kernel
theorem dX11_better_12 : decode cX11_better 12 = .ok (.getfield 35, 3) := by decide +kernel
theorem dX11_better_15 : decode cX11_better 15 = .ok (.iload_n 2, 1) := by decide +kernel
theorem dX11_better_16 : decode cX11_better 16 = .ok (.invokevirtual 196, 3) := by decide +kernel
theorem dX11_better_19 : decode cX11_better 19 = .ok (.ifCond .ne 5, 3) := by decide +kernel
theorem dX11_better_22 : decode cX11_better 22 = .ok (.iconst (-1), 1) := by decide +kernel
theorem dX11_better_23 : decode cX11_better 23 = .ok (.ireturn, 1) := by decide +kernel
theorem dX11_better_24 : decode cX11_better 24 = .ok (.aload_n 0, 1) := by decide +kernel
theorem dX11_better_25 : decode cX11_better 25 = .ok (.getfield 44, 3) := by decide +kernel
theorem dX11_better_28 : decode cX11_better 28 = .ok (.aload_n 0, 1) := by decide +kernel
theorem dX11_better_29 : decode cX11_better 29 = .ok (.getfield 35, 3) := by decide +kernel
theorem dX11_better_32 : decode cX11_better 32 = .ok (.getfield 197, 3) := by decide +kernel
theorem dX11_better_35 : decode cX11_better 35 = .ok (.iload_n 2, 1) := by decide +kernel
theorem dX11_better_36 : decode cX11_better 36 = .ok (.aaload, 1) := by decide +kernel
theorem dX11_better_37 : decode cX11_better 37 = .ok (.invokevirtual 184, 3) := by decide +kernel
theorem dX11_better_40 : decode cX11_better 40 = .ok (.aload_n 0, 1) := by decide +kernel
theorem dX11_better_41 : decode cX11_better 41 = .ok (.getfield 44, 3) := by decide +kernel
theorem dX11_better_44 : decode cX11_better 44 = .ok (.getfield 203, 3) := by decide +kernel
theorem dX11_better_47 : decode cX11_better 47 = .ok (.istore_n 3, 1) := by decide +kernel
theorem dX11_better_48 : decode cX11_better 48 = .ok (.aload_n 0, 1) := by decide +kernel
theorem dX11_better_49 : decode cX11_better 49 = .ok (.getfield 44, 3) := by decide +kernel
theorem dX11_better_52 : decode cX11_better 52 = .ok (.getfield 206, 3) := by decide +kernel
theorem dX11_better_55 : decode cX11_better 55 = .ok (.istore 4, 2) := by decide +kernel
theorem dX11_better_57 : decode cX11_better 57 = .ok (.aload_n 0, 1) := by decide +kernel
theorem dX11_better_58 : decode cX11_better 58 = .ok (.getfield 44, 3) := by decide +kernel
theorem dX11_better_61 : decode cX11_better 61 = .ok (.aload_n 0, 1) := by decide +kernel
theorem dX11_better_62 : decode cX11_better 62 = .ok (.getfield 35, 3) := by decide +kernel
theorem dX11_better_65 : decode cX11_better 65 = .ok (.getfield 197, 3) := by decide +kernel
theorem dX11_better_68 : decode cX11_better 68 = .ok (.iload_n 1, 1) := by decide +kernel
theorem dX11_better_69 : decode cX11_better 69 = .ok (.aaload, 1) := by decide +kernel
theorem dX11_better_70 : decode cX11_better 70 = .ok (.invokevirtual 184, 3) := by decide +kernel
theorem dX11_better_73 : decode cX11_better 73 = .ok (.aload_n 0, 1) := by decide +kernel
theorem dX11_better_74 : decode cX11_better 74 = .ok (.getfield 44, 3) := by decide +kernel
theorem dX11_better_77 : decode cX11_better 77 = .ok (.iload_n 3, 1) := by decide +kernel
theorem dX11_better_78 : decode cX11_better 78 = .ok (.iload 4, 2) := by decide +kernel
theorem dX11_better_80 : decode cX11_better 80 = .ok (.aload_n 0, 1) := by decide +kernel
theorem dX11_better_81 : decode cX11_better 81 = .ok (.getfield 35, 3) := by decide +kernel
theorem dX11_better_84 : decode cX11_better 84 = .ok (.getfield 197, 3) := by decide +kernel
theorem dX11_better_87 : decode cX11_better 87 = .ok (.iload_n 1, 1) := by decide +kernel
theorem dX11_better_88 : decode cX11_better 88 = .ok (.aaload, 1) := by decide +kernel
theorem dX11_better_89 : decode cX11_better 89 = .ok (.aload_n 0, 1) := by decide +kernel
theorem dX11_better_90 : decode cX11_better 90 = .ok (.getfield 35, 3) := by decide +kernel
theorem dX11_better_93 : decode cX11_better 93 = .ok (.getfield 197, 3) := by decide +kernel
theorem dX11_better_96 : decode cX11_better 96 = .ok (.iload_n 2, 1) := by decide +kernel
theorem dX11_better_97 : decode cX11_better 97 = .ok (.aaload, 1) := by decide +kernel
theorem dX11_better_98 : decode cX11_better 98 = .ok (.invokevirtual 242, 3) := by decide +kernel
theorem dX11_better_101 : decode cX11_better 101 = .ok (.ifCond .eq 7, 3) := by decide +kernel
theorem dX11_better_104 : decode cX11_better 104 = .ok (.iconst 1, 1) := by decide +kernel
theorem dX11_better_105 : decode cX11_better 105 = .ok (.goto 4, 3) := by decide +kernel
theorem dX11_better_108 : decode cX11_better 108 = .ok (.iconst 0, 1) := by decide +kernel
theorem dX11_better_109 : decode cX11_better 109 = .ok (.ireturn, 1) := by decide +kernel
theorem dX11_cross_0 : decode cX11_cross 0 = .ok (.iload_n 1, 1) := by decide +kernel
theorem dX11_cross_1 : decode cX11_cross 1 = .ok (.ifCond .lt 14, 3) := by decide +kernel
theorem dX11_cross_4 : decode cX11_cross 4 = .ok (.iload_n 1, 1) := by decide +kernel
theorem dX11_cross_5 : decode cX11_cross 5 = .ok (.aload_n 0, 1) := by decide +kernel
theorem dX11_cross_6 : decode cX11_cross 6 = .ok (.getfield 28, 3) := by decide +kernel
theorem dX11_cross_9 : decode cX11_cross 9 = .ok (.getfield 128, 3) := by decide +kernel
theorem dX11_cross_12 : decode cX11_cross 12 = .ok (.if_icmp .le 6, 3) := by decide +kernel
theorem dX11_cross_15 : decode cX11_cross 15 = .ok (.bipush (-2), 2) := by decide +kernel
theorem dX11_cross_17 : decode cX11_cross 17 = .ok (.ireturn, 1) := by decide +kernel
theorem dX11_cross_18 : decode cX11_cross 18 = .ok (.aload_n 0, 1) := by decide +kernel
theorem dX11_cross_19 : decode cX11_cross 19 = .ok (.getfield 61, 3) := by decide +kernel
theorem dX11_cross_22 : decode cX11_cross 22 = .ok (.invokevirtual 246, 3) := by decide +kernel
theorem dX11_cross_25 : decode cX11_cross 25 = .ok (.aload_n 0, 1) := by decide +kernel
theorem dX11_cross_26 : decode cX11_cross 26 = .ok (.getfield 61, 3) := by decide +kernel
theorem dX11_cross_29 : decode cX11_cross 29 = .ok (.getfield 247, 3) := by decide +kernel
theorem dX11_cross_32 : decode cX11_cross 32 = .ok (.iload_n 1, 1) := by decide +kernel
theorem dX11_cross_33 : decode cX11_cross 33 = .ok (.iaload, 1) := by decide +kernel
theorem dX11_cross_34 : decode cX11_cross 34 = .ok (.ireturn, 1) := by decide +kernel
theorem dX11_knot_0 : decode cX11_knot 0 = .ok (.iload_n 1, 1) := by decide +kernel
theorem dX11_knot_1 : decode cX11_knot 1 = .ok (.ifCond .lt 8, 3) := by decide +kernel
theorem dX11_knot_4 : decode cX11_knot 4 = .ok (.iload_n 1, 1) := by decide +kernel
theorem dX11_knot_5 : decode cX11_knot 5 = .ok (.iconst 1, 1) := by decide +kernel
theorem dX11_knot_6 : decode cX11_knot 6 = .ok (.if_icmp .le 6, 3) := by decide +kernel
theorem dX11_knot_9 : decode cX11_knot 9 = .ok (.bipush (-2), 2) := by decide +kernel
theorem dX11_knot_11 : decode cX11_knot 11 = .ok (.ireturn, 1) := by decide +kernel
theorem dX11_knot_12 : decode cX11_knot 12 = .ok (.aload_n 0, 1) := by decide +kernel
theorem dX11_knot_13 : decode cX11_knot 13 = .ok (.getfield 61, 3) := by decide +kernel
theorem dX11_knot_16 : decode cX11_knot 16 = .ok (.invokevirtual 246, 3) := by decide +kernel
theorem dX11_knot_19 : decode cX11_knot 19 = .ok (.iload_n 1, 1) := by decide +kernel
theorem dX11_knot_20 : decode cX11_knot 20 = .ok (.ifCond .ne 13, 3) := by decide +kernel
theorem dX11_knot_23 : decode cX11_knot 23 = .ok (.aload_n 0, 1) := by decide +kernel
theorem dX11_knot_24 : decode cX11_knot 24 = .ok (.getfield 61, 3) := by decide +kernel
theorem dX11_knot_27 : decode cX11_knot 27 = .ok (.getfield 250, 3) := by decide +kernel
theorem dX11_knot_30 : decode cX11_knot 30 = .ok (.goto 10, 3) := by decide +kernel
theorem dX11_knot_33 : decode cX11_knot 33 = .ok (.aload_n 0, 1) := by decide +kernel
theorem dX11_knot_34 : decode cX11_knot 34 = .ok (.getfield 61, 3) := by decide +kernel
theorem dX11_knot_37 : decode cX11_knot 37 = .ok (.getfield 253, 3) := by decide +kernel
theorem dX11_knot_40 : decode cX11_knot 40 = .ok (.ireturn, 1) := by decide +kernel
theorem dX11_bound_0 : decode cX11_bound 0 = .ok (.aload_n 0, 1) := by decide +kernel
theorem dX11_bound_1 : decode cX11_bound 1 = .ok (.getfield 61, 3) := by decide +kernel
theorem dX11_bound_4 : decode cX11_bound 4 = .ok (.invokevirtual 246, 3) := by decide +kernel
theorem dX11_bound_7 : decode cX11_bound 7 = .ok (.aload_n 0, 1) := by decide +kernel
theorem dX11_bound_8 : decode cX11_bound 8 = .ok (.getfield 61, 3) := by decide +kernel
theorem dX11_bound_11 : decode cX11_bound 11 = .ok (.invokevirtual 256, 3) := by decide +kernel
theorem dX11_bound_14 : decode cX11_bound 14 = .ok (.aload_n 0, 1) := by decide +kernel
theorem dX11_bound_15 : decode cX11_bound 15 = .ok (.getfield 28, 3) := by decide +kernel
theorem dX11_bound_18 : decode cX11_bound 18 = .ok (.invokevirtual 259, 3) := by decide +kernel
theorem dX11_bound_21 : decode cX11_bound 21 = .ok (.aload_n 0, 1) := by decide +kernel
theorem dX11_bound_22 : decode cX11_bound 22 = .ok (.getfield 61, 3) := by decide +kernel
theorem dX11_bound_25 : decode cX11_bound 25 = .ok (.getfield 253, 3) := by decide +kernel
theorem dX11_bound_28 : decode cX11_bound 28 = .ok (.invokestatic 262, 3) := by decide +kernel
theorem dX11_bound_31 : decode cX11_bound 31 = .ok (.invokestatic 262, 3) := by decide +kernel
theorem dX11_bound_34 : decode cX11_bound 34 = .ok (.ireturn, 1) := by decide +kernel
theorem dX11_part_0 : decode cX11_part 0 = .ok (.iload_n 1, 1) := by decide +kernel
theorem dX11_part_1 : decode cX11_part 1 = .ok (.iconst (-1), 1) := by decide +kernel
theorem dX11_part_2 : decode cX11_part 2 = .ok (.if_icmp .ne 11, 3) := by decide +kernel
theorem dX11_part_5 : decode cX11_part 5 = .ok (.aload_n 0, 1) := by decide +kernel
theorem dX11_part_6 : decode cX11_part 6 = .ok (.getfield 61, 3) := by decide +kernel
theorem dX11_part_9 : decode cX11_part 9 = .ok (.invokevirtual 267, 3) := by decide +kernel
theorem dX11_part_12 : decode cX11_part 12 = .ok (.ireturn, 1) := by decide +kernel
theorem dX11_part_13 : decode cX11_part 13 = .ok (.aload_n 0, 1) := by decide +kernel
theorem dX11_part_14 : decode cX11_part 14 = .ok (.getfield 28, 3) := by decide +kernel
theorem dX11_part_17 : decode cX11_part 17 = .ok (.iload_n 1, 1) := by decide +kernel
theorem dX11_part_18 : decode cX11_part 18 = .ok (.invokevirtual 137, 3) := by decide +kernel
theorem dX11_part_21 : decode cX11_part 21 = .ok (.ifCond .eq 14, 3) := by decide +kernel
theorem dX11_part_24 : decode cX11_part 24 = .ok (.aload_n 0, 1) := by decide +kernel
theorem dX11_part_25 : decode cX11_part 25 = .ok (.getfield 61, 3) := by decide +kernel
theorem dX11_part_28 : decode cX11_part 28 = .ok (.iload_n 1, 1) := by decide +kernel
theorem dX11_part_29 : decode cX11_part 29 = .ok (.invokevirtual 270, 3) := by decide +kernel
theorem dX11_part_32 : decode cX11_part 32 = .ok (.goto 4, 3) := by decide +kernel
theorem dX11_part_35 : decode cX11_part 35 = .ok (.iconst (-1), 1) := by decide +kernel
theorem dX11_part_36 : decode cX11_part 36 = .ok (.ireturn, 1) := by decide +kernel
theorem dX11_within_0 : decode cX11_within 0 = .ok (.aload_n 0, 1) := by decide +kernel
theorem dX11_within_1 : decode cX11_within 1 = .ok (.getfield 61, 3) := by decide +kernel
theorem dX11_within_4 : decode cX11_within 4 = .ok (.invokevirtual 273, 3) := by decide +kernel
theorem dX11_within_7 : decode cX11_within 7 = .ok (.ireturn, 1) := by decide +kernel
theorem dX11_build_0 : decode cX11_build 0 = .ok (.iload_n 1, 1) := by decide +kernel
theorem dX11_build_1 : decode cX11_build 1 = .ok (.ifCond .lt 19, 3) := by decide +kernel
theorem dX11_build_4 : decode cX11_build 4 = .ok (.iload_n 1, 1) := by decide +kernel
theorem dX11_build_5 : decode cX11_build 5 = .ok (.iconst 2, 1) := by decide +kernel
theorem dX11_build_6 : decode cX11_build 6 = .ok (.if_icmp .gt 14, 3) := by decide +kernel
theorem dX11_build_9 : decode cX11_build 9 = .ok (.iload_n 2, 1) := by decide +kernel
theorem dX11_build_10 : decode cX11_build 10 = .ok (.iconst 1, 1) := by decide +kernel
theorem dX11_build_11 : decode cX11_build 11 = .ok (.if_icmp .lt 9, 3) := by decide +kernel
theorem dX11_build_14 : decode cX11_build 14 = .ok (.iload_n 2, 1) := by decide +kernel
theorem dX11_build_15 : decode cX11_build 15 = .ok (.bipush 9, 2) := by decide +kernel
theorem dX11_build_17 : decode cX11_build 17 = .ok (.if_icmp .le 6, 3) := by decide +kernel
theorem dX11_build_20 : decode cX11_build 20 = .ok (.bipush (-2), 2) := by decide +kernel
theorem dX11_build_22 : decode cX11_build 22 = .ok (.ireturn, 1) := by decide +kernel
theorem dX11_build_23 : decode cX11_build 23 = .ok (.aload_n 0, 1) := by decide +kernel
theorem dX11_build_24 : decode cX11_build 24 = .ok (.getfield 28, 3) := by decide +kernel
theorem dX11_build_27 : decode cX11_build 27 = .ok (.getfield 128, 3) := by decide +kernel
theorem dX11_build_30 : decode cX11_build 30 = .ok (.ifCond .ne 6, 3) := by decide +kernel
theorem dX11_build_33 : decode cX11_build 33 = .ok (.bipush (-3), 2) := by decide +kernel
theorem dX11_build_35 : decode cX11_build 35 = .ok (.ireturn, 1) := by decide +kernel
theorem dX11_build_36 : decode cX11_build 36 = .ok (.aload_n 0, 1) := by decide +kernel
theorem dX11_build_37 : decode cX11_build 37 = .ok (.getfield 35, 3) := by decide +kernel
theorem dX11_build_40 : decode cX11_build 40 = .ok (.invokevirtual 192, 3) := by decide +kernel
theorem dX11_build_43 : decode cX11_build 43 = .ok (.ifCond .eq 6, 3) := by decide +kernel
theorem dX11_build_46 : decode cX11_build 46 = .ok (.bipush (-4), 2) := by decide +kernel
theorem dX11_build_48 : decode cX11_build 48 = .ok (.ireturn, 1) := by decide +kernel
theorem dX11_build_49 : decode cX11_build 49 = .ok (.iconst 0, 1) := by decide +kernel
theorem dX11_build_50 : decode cX11_build 50 = .ok (.istore_n 3, 1) := by decide +kernel
theorem dX11_build_51 : decode cX11_build 51 = .ok (.iconst 0, 1) := by decide +kernel
theorem dX11_build_52 : decode cX11_build 52 = .ok (.istore 4, 2) := by decide +kernel
theorem dX11_build_54 : decode cX11_build 54 = .ok (.iload 4, 2) := by decide +kernel
theorem dX11_build_56 : decode cX11_build 56 = .ok (.aload_n 0, 1) := by decide +kernel
theorem dX11_build_57 : decode cX11_build 57 = .ok (.getfield 28, 3) := by decide +kernel
theorem dX11_build_60 : decode cX11_build 60 = .ok (.getfield 128, 3) := by decide +kernel
theorem dX11_build_63 : decode cX11_build 63 = .ok (.if_icmp .ge 38, 3) := by decide +kernel
theorem dX11_build_66 : decode cX11_build 66 = .ok (.aload_n 0, 1) := by decide +kernel
theorem dX11_build_67 : decode cX11_build 67 = .ok (.getfield 90, 3) := by decide +kernel
theorem dX11_build_70 : decode cX11_build 70 = .ok (.iload 4, 2) := by decide +kernel
theorem dX11_build_72 : decode cX11_build 72 = .ok (.aload_n 0, 1) := by decide +kernel
theorem dX11_build_73 : decode cX11_build 73 = .ok (.getfield 28, 3) := by decide +kernel
theorem dX11_build_76 : decode cX11_build 76 = .ok (.iload_n 1, 1) := by decide +kernel
theorem dX11_build_77 : decode cX11_build 77 = .ok (.iload_n 2, 1) := by decide +kernel
theorem dX11_build_78 : decode cX11_build 78 = .ok (.iload_n 3, 1) := by decide +kernel
theorem dX11_build_79 : decode cX11_build 79 = .ok (.invokevirtual 276, 3) := by decide +kernel
theorem dX11_build_82 : decode cX11_build 82 = .ok (.iastore, 1) := by decide +kernel
theorem dX11_build_83 : decode cX11_build 83 = .ok (.iload_n 3, 1) := by decide +kernel
theorem dX11_build_84 : decode cX11_build 84 = .ok (.iconst 1, 1) := by decide +kernel
theorem dX11_build_85 : decode cX11_build 85 = .ok (.aload_n 0, 1) := by decide +kernel
theorem dX11_build_86 : decode cX11_build 86 = .ok (.getfield 90, 3) := by decide +kernel
theorem dX11_build_89 : decode cX11_build 89 = .ok (.iload 4, 2) := by decide +kernel
theorem dX11_build_91 : decode cX11_build 91 = .ok (.iaload, 1) := by decide +kernel
theorem dX11_build_92 : decode cX11_build 92 = .ok (.ishl, 1) := by decide +kernel
theorem dX11_build_93 : decode cX11_build 93 = .ok (.ior, 1) := by decide +kernel
theorem dX11_build_94 : decode cX11_build 94 = .ok (.istore_n 3, 1) := by decide +kernel
theorem dX11_build_95 : decode cX11_build 95 = .ok (.iinc 4 1, 3) := by decide +kernel
theorem dX11_build_98 : decode cX11_build 98 = .ok (.goto (-44), 3) := by decide +kernel
theorem dX11_build_101 : decode cX11_build 101 = .ok (.aload_n 0, 1) := by decide +kernel
theorem dX11_build_102 : decode cX11_build 102 = .ok (.getfield 35, 3) := by decide +kernel
theorem dX11_build_105 : decode cX11_build 105 = .ok (.iconst 1, 1) := by decide +kernel
theorem dX11_build_106 : decode cX11_build 106 = .ok (.aload_n 0, 1) := by decide +kernel
theorem dX11_build_107 : decode cX11_build 107 = .ok (.getfield 90, 3) := by decide +kernel
theorem dX11_build_110 : decode cX11_build 110 = .ok (.invokevirtual 181, 3) := by decide +kernel
theorem dX11_build_113 : decode cX11_build 113 = .ok (.ireturn, 1) := by decide +kernel
theorem dX11_isLawful_0 : decode cX11_isLawful 0 = .ok (.aload_n 0, 1) := by decide +kernel
theorem dX11_isLawful_1 : decode cX11_isLawful 1 = .ok (.getfield 44, 3) := by decide +kernel
theorem dX11_isLawful_4 : decode cX11_isLawful 4 = .ok (.aload_n 0, 1) := by decide +kernel
theorem dX11_isLawful_5 : decode cX11_isLawful 5 = .ok (.getfield 35, 3) := by decide +kernel
theorem dX11_isLawful_8 : decode cX11_isLawful 8 = .ok (.getfield 197, 3) := by decide +kernel
theorem dX11_isLawful_11 : decode cX11_isLawful 11 = .ok (.iload_n 1, 1) := by decide +kernel
theorem dX11_isLawful_12 : decode cX11_isLawful 12 = .ok (.aaload, 1) := by decide +kernel
theorem dX11_isLawful_13 : decode cX11_isLawful 13 = .ok (.invokevirtual 184, 3) := by decide +kernel
theorem dX11_isLawful_16 : decode cX11_isLawful 16 = .ok (.aload_n 0, 1) := by decide +kernel
theorem dX11_isLawful_17 : decode cX11_isLawful 17 = .ok (.getfield 44, 3) := by decide +kernel
theorem dX11_isLawful_20 : decode cX11_isLawful 20 = .ok (.getfield 188, 3) := by decide +kernel
theorem dX11_isLawful_23 : decode cX11_isLawful 23 = .ok (.ireturn, 1) := by decide +kernel
theorem dX11_move_0 : decode cX11_move 0 = .ok (.aload_n 0, 1) := by decide +kernel
theorem dX11_move_1 : decode cX11_move 1 = .ok (.getfield 35, 3) := by decide +kernel
theorem dX11_move_4 : decode cX11_move 4 = .ok (.iload_n 1, 1) := by decide +kernel
theorem dX11_move_5 : decode cX11_move 5 = .ok (.invokevirtual 196, 3) := by decide +kernel
theorem dX11_move_8 : decode cX11_move 8 = .ok (.ifCond .ne 5, 3) := by decide +kernel
theorem dX11_move_11 : decode cX11_move 11 = .ok (.iconst (-1), 1) := by decide +kernel
theorem dX11_move_12 : decode cX11_move 12 = .ok (.ireturn, 1) := by decide +kernel
theorem dX11_move_13 : decode cX11_move 13 = .ok (.aload_n 0, 1) := by decide +kernel
theorem dX11_move_14 : decode cX11_move 14 = .ok (.iload_n 1, 1) := by decide +kernel
theorem dX11_move_15 : decode cX11_move 15 = .ok (.invokevirtual 280, 3) := by decide +kernel
theorem dX11_move_18 : decode cX11_move 18 = .ok (.ifCond .ne 6, 3) := by decide +kernel
theorem dX11_move_21 : decode cX11_move 21 = .ok (.bipush (-3), 2) := by decide +kernel
theorem dX11_move_23 : decode cX11_move 23 = .ok (.ireturn, 1) := by decide +kernel
theorem dX11_move_24 : decode cX11_move 24 = .ok (.aload_n 0, 1) := by decide +kernel
theorem dX11_move_25 : decode cX11_move 25 = .ok (.getfield 35, 3) := by decide +kernel
theorem dX11_move_28 : decode cX11_move 28 = .ok (.invokevirtual 192, 3) := by decide +kernel
theorem dX11_move_31 : decode cX11_move 31 = .ok (.ifCond .eq 6, 3) := by decide +kernel
theorem dX11_move_34 : decode cX11_move 34 = .ok (.bipush (-4), 2) := by decide +kernel
theorem dX11_move_36 : decode cX11_move 36 = .ok (.ireturn, 1) := by decide +kernel
theorem dX11_move_37 : decode cX11_move 37 = .ok (.aload_n 0, 1) := by decide +kernel
theorem dX11_move_38 : decode cX11_move 38 = .ok (.getfield 70, 3) := by decide +kernel
theorem dX11_move_41 : decode cX11_move 41 = .ok (.aload_n 0, 1) := by decide +kernel
theorem dX11_move_42 : decode cX11_move 42 = .ok (.getfield 35, 3) := by decide +kernel
theorem dX11_move_45 : decode cX11_move 45 = .ok (.getfield 197, 3) := by decide +kernel
theorem dX11_move_48 : decode cX11_move 48 = .ok (.iload_n 1, 1) := by decide +kernel
theorem dX11_move_49 : decode cX11_move 49 = .ok (.aaload, 1) := by decide +kernel
theorem dX11_move_50 : decode cX11_move 50 = .ok (.invokevirtual 283, 3) := by decide +kernel
theorem dX11_move_53 : decode cX11_move 53 = .ok (.pop, 1) := by decide +kernel
theorem dX11_move_54 : decode cX11_move 54 = .ok (.aload_n 0, 1) := by decide +kernel
theorem dX11_move_55 : decode cX11_move 55 = .ok (.getfield 35, 3) := by decide +kernel
theorem dX11_move_58 : decode cX11_move 58 = .ok (.iconst 1, 1) := by decide +kernel
theorem dX11_move_59 : decode cX11_move 59 = .ok (.aload_n 0, 1) := by decide +kernel
theorem dX11_move_60 : decode cX11_move 60 = .ok (.getfield 70, 3) := by decide +kernel
theorem dX11_move_63 : decode cX11_move 63 = .ok (.getfield 287, 3) := by decide +kernel
theorem dX11_move_66 : decode cX11_move 66 = .ok (.invokevirtual 181, 3) := by decide +kernel
theorem dX11_move_69 : decode cX11_move 69 = .ok (.ireturn, 1) := by decide +kernel
theorem dX11_moves_0 : decode cX11_moves 0 = .ok (.aload_n 0, 1) := by decide +kernel
theorem dX11_moves_1 : decode cX11_moves 1 = .ok (.getfield 35, 3) := by decide +kernel
theorem dX11_moves_4 : decode cX11_moves 4 = .ok (.iload_n 1, 1) := by decide +kernel
theorem dX11_moves_5 : decode cX11_moves 5 = .ok (.invokevirtual 196, 3) := by decide +kernel
theorem dX11_moves_8 : decode cX11_moves 8 = .ok (.ifCond .ne 5, 3) := by decide +kernel
theorem dX11_moves_11 : decode cX11_moves 11 = .ok (.iconst (-1), 1) := by decide +kernel
theorem dX11_moves_12 : decode cX11_moves 12 = .ok (.ireturn, 1) := by decide +kernel
theorem dX11_moves_13 : decode cX11_moves 13 = .ok (.aload_n 0, 1) := by decide +kernel
theorem dX11_moves_14 : decode cX11_moves 14 = .ok (.iload_n 1, 1) := by decide +kernel
theorem dX11_moves_15 : decode cX11_moves 15 = .ok (.invokevirtual 280, 3) := by decide +kernel
theorem dX11_moves_18 : decode cX11_moves 18 = .ok (.ifCond .eq 22, 3) := by decide +kernel
theorem dX11_moves_21 : decode cX11_moves 21 = .ok (.aload_n 0, 1) := by decide +kernel
theorem dX11_moves_22 : decode cX11_moves 22 = .ok (.getfield 70, 3) := by decide +kernel
theorem dX11_moves_25 : decode cX11_moves 25 = .ok (.aload_n 0, 1) := by decide +kernel
theorem dX11_moves_26 : decode cX11_moves 26 = .ok (.getfield 35, 3) := by decide +kernel
theorem dX11_moves_29 : decode cX11_moves 29 = .ok (.getfield 197, 3) := by decide +kernel
theorem dX11_moves_32 : decode cX11_moves 32 = .ok (.iload_n 1, 1) := by decide +kernel
theorem dX11_moves_33 : decode cX11_moves 33 = .ok (.aaload, 1) := by decide +kernel
theorem dX11_moves_34 : decode cX11_moves 34 = .ok (.invokevirtual 283, 3) := by decide +kernel
theorem dX11_moves_37 : decode cX11_moves 37 = .ok (.goto 5, 3) := by decide +kernel
theorem dX11_moves_40 : decode cX11_moves 40 = .ok (.bipush (-3), 2) := by decide +kernel
theorem dX11_moves_42 : decode cX11_moves 42 = .ok (.ireturn, 1) := by decide +kernel
theorem dX11_cheapest_0 : decode cX11_cheapest 0 = .ok (.aload_n 0, 1) := by decide +kernel
theorem dX11_cheapest_1 : decode cX11_cheapest 1 = .ok (.getfield 35, 3) := by decide +kernel
theorem dX11_cheapest_4 : decode cX11_cheapest 4 = .ok (.iload_n 1, 1) := by decide +kernel
theorem dX11_cheapest_5 : decode cX11_cheapest 5 = .ok (.invokevirtual 196, 3) := by decide +kernel
theorem dX11_cheapest_8 : decode cX11_cheapest 8 = .ok (.ifCond .ne 5, 3) := by decide +kernel
theorem dX11_cheapest_11 : decode cX11_cheapest 11 = .ok (.iconst (-1), 1) := by decide +kernel
theorem dX11_cheapest_12 : decode cX11_cheapest 12 = .ok (.ireturn, 1) := by decide +kernel
theorem dX11_cheapest_13 : decode cX11_cheapest 13 = .ok (.iload_n 2, 1) := by decide +kernel
theorem dX11_cheapest_14 : decode cX11_cheapest 14 = .ok (.ifCond .lt 9, 3) := by decide +kernel
theorem dX11_cheapest_17 : decode cX11_cheapest 17 = .ok (.iload_n 2, 1) := by decide +kernel
theorem dX11_cheapest_18 : decode cX11_cheapest 18 = .ok (.bipush 99, 2) := by decide +kernel
theorem dX11_cheapest_20 : decode cX11_cheapest 20 = .ok (.if_icmp .le 6, 3) := by decide +kernel
theorem dX11_cheapest_23 : decode cX11_cheapest 23 = .ok (.bipush (-2), 2) := by decide +kernel
theorem dX11_cheapest_25 : decode cX11_cheapest 25 = .ok (.ireturn, 1) := by decide +kernel
theorem dX11_cheapest_26 : decode cX11_cheapest 26 = .ok (.aload_n 0, 1) := by decide +kernel
theorem dX11_cheapest_27 : decode cX11_cheapest 27 = .ok (.getfield 44, 3) := by decide +kernel
theorem dX11_cheapest_30 : decode cX11_cheapest 30 = .ok (.aload_n 0, 1) := by decide +kernel
theorem dX11_cheapest_31 : decode cX11_cheapest 31 = .ok (.getfield 35, 3) := by decide +kernel
theorem dX11_cheapest_34 : decode cX11_cheapest 34 = .ok (.getfield 197, 3) := by decide +kernel
theorem dX11_cheapest_37 : decode cX11_cheapest 37 = .ok (.iload_n 1, 1) := by decide +kernel
theorem dX11_cheapest_38 : decode cX11_cheapest 38 = .ok (.aaload, 1) := by decide +kernel
theorem dX11_cheapest_39 : decode cX11_cheapest 39 = .ok (.invokevirtual 184, 3) := by decide +kernel
theorem dX11_cheapest_42 : decode cX11_cheapest 42 = .ok (.iload_n 2, 1) := by decide +kernel
theorem dX11_cheapest_43 : decode cX11_cheapest 43 = .ok (.aload_n 0, 1) := by decide +kernel
theorem dX11_cheapest_44 : decode cX11_cheapest 44 = .ok (.getfield 28, 3) := by decide +kernel
theorem dX11_cheapest_47 : decode cX11_cheapest 47 = .ok (.invokevirtual 259, 3) := by decide +kernel
theorem dX11_cheapest_50 : decode cX11_cheapest 50 = .ok (.if_icmp .ge 8, 3) := by decide +kernel
theorem dX11_cheapest_53 : decode cX11_cheapest 53 = .ok (.bipush (-9), 2) := by decide +kernel
theorem dX11_cheapest_55 : decode cX11_cheapest 55 = .ok (.goto 20, 3) := by decide +kernel
theorem dX11_cheapest_58 : decode cX11_cheapest 58 = .ok (.aload_n 0, 1) := by decide +kernel
theorem dX11_cheapest_59 : decode cX11_cheapest 59 = .ok (.getfield 77, 3) := by decide +kernel
theorem dX11_cheapest_62 : decode cX11_cheapest 62 = .ok (.aload_n 0, 1) := by decide +kernel
theorem dX11_cheapest_63 : decode cX11_cheapest 63 = .ok (.getfield 35, 3) := by decide +kernel
theorem dX11_cheapest_66 : decode cX11_cheapest 66 = .ok (.getfield 197, 3) := by decide +kernel
theorem dX11_cheapest_69 : decode cX11_cheapest 69 = .ok (.iload_n 1, 1) := by decide +kernel
theorem dX11_cheapest_70 : decode cX11_cheapest 70 = .ok (.aaload, 1) := by decide +kernel
theorem dX11_cheapest_71 : decode cX11_cheapest 71 = .ok (.iload_n 2, 1) := by decide +kernel
theorem dX11_cheapest_72 : decode cX11_cheapest 72 = .ok (.invokevirtual 290, 3) := by decide +kernel
theorem dX11_cheapest_75 : decode cX11_cheapest 75 = .ok (.ireturn, 1) := by decide +kernel
theorem dX11_room_0 : decode cX11_room 0 = .ok (.aload_n 0, 1) := by decide +kernel
theorem dX11_room_1 : decode cX11_room 1 = .ok (.getfield 35, 3) := by decide +kernel
theorem dX11_room_4 : decode cX11_room 4 = .ok (.iload_n 1, 1) := by decide +kernel
theorem dX11_room_5 : decode cX11_room 5 = .ok (.invokevirtual 196, 3) := by decide +kernel
theorem dX11_room_8 : decode cX11_room 8 = .ok (.ifCond .ne 5, 3) := by decide +kernel
theorem dX11_room_11 : decode cX11_room 11 = .ok (.iconst (-1), 1) := by decide +kernel
theorem dX11_room_12 : decode cX11_room 12 = .ok (.ireturn, 1) := by decide +kernel
theorem dX11_room_13 : decode cX11_room 13 = .ok (.iload_n 2, 1) := by decide +kernel
theorem dX11_room_14 : decode cX11_room 14 = .ok (.ifCond .lt 10, 3) := by decide +kernel
theorem dX11_room_17 : decode cX11_room 17 = .ok (.iload_n 2, 1) := by decide +kernel
theorem dX11_room_18 : decode cX11_room 18 = .ok (.sipush 9999, 3) := by decide +kernel
theorem dX11_room_21 : decode cX11_room 21 = .ok (.if_icmp .le 6, 3) := by decide +kernel
theorem dX11_room_24 : decode cX11_room 24 = .ok (.bipush (-2), 2) := by decide +kernel
theorem dX11_room_26 : decode cX11_room 26 = .ok (.ireturn, 1) := by decide +kernel
theorem dX11_room_27 : decode cX11_room 27 = .ok (.aload_n 0, 1) := by decide +kernel
theorem dX11_room_28 : decode cX11_room 28 = .ok (.getfield 44, 3) := by decide +kernel
theorem dX11_room_31 : decode cX11_room 31 = .ok (.aload_n 0, 1) := by decide +kernel
theorem dX11_room_32 : decode cX11_room 32 = .ok (.getfield 35, 3) := by decide +kernel
theorem dX11_room_35 : decode cX11_room 35 = .ok (.getfield 197, 3) := by decide +kernel
theorem dX11_room_38 : decode cX11_room 38 = .ok (.iload_n 1, 1) := by decide +kernel
theorem dX11_room_39 : decode cX11_room 39 = .ok (.aaload, 1) := by decide +kernel
theorem dX11_room_40 : decode cX11_room 40 = .ok (.invokevirtual 184, 3) := by decide +kernel
theorem dX11_room_43 : decode cX11_room 43 = .ok (.aload_n 0, 1) := by decide +kernel
theorem dX11_room_44 : decode cX11_room 44 = .ok (.getfield 77, 3) := by decide +kernel
theorem dX11_room_47 : decode cX11_room 47 = .ok (.aload_n 0, 1) := by decide +kernel
theorem dX11_room_48 : decode cX11_room 48 = .ok (.getfield 35, 3) := by decide +kernel
theorem dX11_room_51 : decode cX11_room 51 = .ok (.getfield 197, 3) := by decide +kernel
theorem dX11_room_54 : decode cX11_room 54 = .ok (.iload_n 1, 1) := by decide +kernel
theorem dX11_room_55 : decode cX11_room 55 = .ok (.aaload, 1) := by decide +kernel
theorem dX11_room_56 : decode cX11_room 56 = .ok (.iload_n 2, 1) := by decide +kernel
theorem dX11_room_57 : decode cX11_room 57 = .ok (.invokevirtual 294, 3) := by decide +kernel
theorem dX11_room_60 : decode cX11_room 60 = .ok (.ireturn, 1) := by decide +kernel
theorem dX11_two_0 : decode cX11_two 0 = .ok (.aload_n 0, 1) := by decide +kernel
theorem dX11_two_1 : decode cX11_two 1 = .ok (.getfield 28, 3) := by decide +kernel
theorem dX11_two_4 : decode cX11_two 4 = .ok (.getfield 128, 3) := by decide +kernel
theorem dX11_two_7 : decode cX11_two 7 = .ok (.ifCond .ne 6, 3) := by decide +kernel
theorem dX11_two_10 : decode cX11_two 10 = .ok (.bipush (-3), 2) := by decide +kernel
theorem dX11_two_12 : decode cX11_two 12 = .ok (.ireturn, 1) := by decide +kernel
theorem dX11_two_13 : decode cX11_two 13 = .ok (.iload_n 1, 1) := by decide +kernel
theorem dX11_two_14 : decode cX11_two 14 = .ok (.ifCond .lt 8, 3) := by decide +kernel
theorem dX11_two_17 : decode cX11_two 17 = .ok (.iload_n 1, 1) := by decide +kernel
theorem dX11_two_18 : decode cX11_two 18 = .ok (.iconst 3, 1) := by decide +kernel
theorem dX11_two_19 : decode cX11_two 19 = .ok (.if_icmp .le 6, 3) := by decide +kernel
theorem dX11_two_22 : decode cX11_two 22 = .ok (.bipush (-2), 2) := by decide +kernel
theorem dX11_two_24 : decode cX11_two 24 = .ok (.ireturn, 1) := by decide +kernel
theorem dX11_two_25 : decode cX11_two 25 = .ok (.aload_n 0, 1) := by decide +kernel
theorem dX11_two_26 : decode cX11_two 26 = .ok (.getfield 86, 3) := by decide +kernel
theorem dX11_two_29 : decode cX11_two 29 = .ok (.invokevirtual 297, 3) := by decide +kernel
theorem dX11_two_32 : decode cX11_two 32 = .ok (.iload_n 1, 1) := by decide +kernel
theorem dX11_two_33 : decode cX11_two 33 = .ok (.tableswitch 61 0 2 #[27, 45, 53], 27) := by decide +kernel
theorem dX11_two_60 : decode cX11_two 60 = .ok (.aload_n 0, 1) := by decide +kernel
theorem dX11_two_61 : decode cX11_two 61 = .ok (.getfield 86, 3) := by decide +kernel
theorem dX11_two_64 : decode cX11_two 64 = .ok (.getfield 298, 3) := by decide +kernel
theorem dX11_two_67 : decode cX11_two 67 = .ok (.aload_n 0, 1) := by decide +kernel
theorem dX11_two_68 : decode cX11_two 68 = .ok (.getfield 86, 3) := by decide +kernel
theorem dX11_two_71 : decode cX11_two 71 = .ok (.getfield 301, 3) := by decide +kernel
theorem dX11_two_74 : decode cX11_two 74 = .ok (.invokestatic 262, 3) := by decide +kernel
theorem dX11_two_77 : decode cX11_two 77 = .ok (.ireturn, 1) := by decide +kernel
theorem dX11_two_78 : decode cX11_two 78 = .ok (.aload_n 0, 1) := by decide +kernel
theorem dX11_two_79 : decode cX11_two 79 = .ok (.getfield 86, 3) := by decide +kernel
theorem dX11_two_82 : decode cX11_two 82 = .ok (.getfield 304, 3) := by decide +kernel
theorem dX11_two_85 : decode cX11_two 85 = .ok (.ireturn, 1) := by decide +kernel
theorem dX11_two_86 : decode cX11_two 86 = .ok (.aload_n 0, 1) := by decide +kernel
theorem dX11_two_87 : decode cX11_two 87 = .ok (.getfield 86, 3) := by decide +kernel
theorem dX11_two_90 : decode cX11_two 90 = .ok (.getfield 298, 3) := by decide +kernel
theorem dX11_two_93 : decode cX11_two 93 = .ok (.ireturn, 1) := by decide +kernel
theorem dX11_two_94 : decode cX11_two 94 = .ok (.aload_n 0, 1) := by decide +kernel
theorem dX11_two_95 : decode cX11_two 95 = .ok (.getfield 86, 3) := by decide +kernel
theorem dX11_two_98 : decode cX11_two 98 = .ok (.getfield 301, 3) := by decide +kernel
theorem dX11_two_101 : decode cX11_two 101 = .ok (.ireturn, 1) := by decide +kernel
theorem dX11_mostWithout_0 : decode cX11_mostWithout 0 = .ok (.aload_n 0, 1) := by decide +kernel
theorem dX11_mostWithout_1 : decode cX11_mostWithout 1 = .ok (.getfield 55, 3) := by decide +kernel
theorem dX11_mostWithout_4 : decode cX11_mostWithout 4 = .ok (.aload_n 0, 1) := by decide +kernel
theorem dX11_mostWithout_5 : decode cX11_mostWithout 5 = .ok (.getfield 28, 3) := by decide +kernel
theorem dX11_mostWithout_8 : decode cX11_mostWithout 8 = .ok (.invokevirtual 129, 3) := by decide +kernel
theorem dX11_mostWithout_11 : decode cX11_mostWithout 11 = .ok (.iconst 1, 1) := by decide +kernel
theorem dX11_mostWithout_12 : decode cX11_mostWithout 12 = .ok (.iload_n 1, 1) := by decide +kernel
theorem dX11_mostWithout_13 : decode cX11_mostWithout 13 = .ok (.ishl, 1) := by decide +kernel
theorem dX11_mostWithout_14 : decode cX11_mostWithout 14 = .ok (.iconst (-1), 1) := by decide +kernel
theorem dX11_mostWithout_15 : decode cX11_mostWithout 15 = .ok (.ixor, 1) := by decide +kernel
theorem dX11_mostWithout_16 : decode cX11_mostWithout 16 = .ok (.iand, 1) := by decide +kernel
theorem dX11_mostWithout_17 : decode cX11_mostWithout 17 = .ok (.iload_n 2, 1) := by decide +kernel
theorem dX11_mostWithout_18 : decode cX11_mostWithout 18 = .ok (.invokevirtual 311, 3) := by decide +kernel
theorem dX11_mostWithout_21 : decode cX11_mostWithout 21 = .ok (.ireturn, 1) := by decide +kernel
theorem dX11_without_0 : decode cX11_without 0 = .ok (.aload_n 0, 1) := by decide +kernel
theorem dX11_without_1 : decode cX11_without 1 = .ok (.getfield 28, 3) := by decide +kernel
theorem dX11_without_4 : decode cX11_without 4 = .ok (.iload_n 1, 1) := by decide +kernel
theorem dX11_without_5 : decode cX11_without 5 = .ok (.invokevirtual 137, 3) := by decide +kernel
theorem dX11_without_8 : decode cX11_without 8 = .ok (.ifCond .eq 14, 3) := by decide +kernel
theorem dX11_without_11 : decode cX11_without 11 = .ok (.aload_n 0, 1) := by decide +kernel
theorem dX11_without_12 : decode cX11_without 12 = .ok (.iload_n 1, 1) := by decide +kernel
theorem dX11_without_13 : decode cX11_without 13 = .ok (.ldc_w 307, 3) := by decide +kernel
theorem dX11_without_16 : decode cX11_without 16 = .ok (.invokevirtual 308, 3) := by decide +kernel
theorem dX11_without_19 : decode cX11_without 19 = .ok (.goto 4, 3) := by decide +kernel
theorem dX11_without_22 : decode cX11_without 22 = .ok (.iconst (-1), 1) := by decide +kernel
theorem dX11_without_23 : decode cX11_without 23 = .ok (.ireturn, 1) := by decide +kernel
theorem dX11_why_0 : decode cX11_why 0 = .ok (.aload_n 0, 1) := by decide +kernel
theorem dX11_why_1 : decode cX11_why 1 = .ok (.getfield 28, 3) := by decide +kernel
theorem dX11_why_4 : decode cX11_why 4 = .ok (.iload_n 1, 1) := by decide +kernel
theorem dX11_why_5 : decode cX11_why 5 = .ok (.invokevirtual 137, 3) := by decide +kernel
theorem dX11_why_8 : decode cX11_why 8 = .ok (.ifCond .eq 14, 3) := by decide +kernel
theorem dX11_why_11 : decode cX11_why 11 = .ok (.aload_n 0, 1) := by decide +kernel
theorem dX11_why_12 : decode cX11_why 12 = .ok (.getfield 28, 3) := by decide +kernel
theorem dX11_why_15 : decode cX11_why 15 = .ok (.iload_n 2, 1) := by decide +kernel
theorem dX11_why_16 : decode cX11_why 16 = .ok (.invokevirtual 137, 3) := by decide +kernel
theorem dX11_why_19 : decode cX11_why 19 = .ok (.ifCond .ne 5, 3) := by decide +kernel
theorem dX11_why_22 : decode cX11_why 22 = .ok (.iconst (-1), 1) := by decide +kernel
theorem dX11_why_23 : decode cX11_why 23 = .ok (.ireturn, 1) := by decide +kernel
theorem dX11_why_24 : decode cX11_why 24 = .ok (.aload_n 0, 1) := by decide +kernel
theorem dX11_why_25 : decode cX11_why 25 = .ok (.getfield 28, 3) := by decide +kernel
theorem dX11_why_28 : decode cX11_why 28 = .ok (.iload_n 1, 1) := by decide +kernel
theorem dX11_why_29 : decode cX11_why 29 = .ok (.iload_n 2, 1) := by decide +kernel
theorem dX11_why_30 : decode cX11_why 30 = .ok (.invokevirtual 146, 3) := by decide +kernel
theorem dX11_why_33 : decode cX11_why 33 = .ok (.ifCond .eq 15, 3) := by decide +kernel
theorem dX11_why_36 : decode cX11_why 36 = .ok (.aload_n 0, 1) := by decide +kernel
theorem dX11_why_37 : decode cX11_why 37 = .ok (.getfield 55, 3) := by decide +kernel
theorem dX11_why_40 : decode cX11_why 40 = .ok (.iload_n 1, 1) := by decide +kernel
theorem dX11_why_41 : decode cX11_why 41 = .ok (.iload_n 2, 1) := by decide +kernel
theorem dX11_why_42 : decode cX11_why 42 = .ok (.invokevirtual 314, 3) := by decide +kernel
theorem dX11_why_45 : decode cX11_why 45 = .ok (.goto 5, 3) := by decide +kernel
theorem dX11_why_48 : decode cX11_why 48 = .ok (.bipush (-3), 2) := by decide +kernel
theorem dX11_why_50 : decode cX11_why 50 = .ok (.ireturn, 1) := by decide +kernel
theorem dX11_widest_0 : decode cX11_widest 0 = .ok (.bipush (-9), 2) := by decide +kernel
theorem dX11_widest_2 : decode cX11_widest 2 = .ok (.istore_n 1, 1) := by decide +kernel
theorem dX11_widest_3 : decode cX11_widest 3 = .ok (.ldc_w 307, 3) := by decide +kernel
theorem dX11_widest_6 : decode cX11_widest 6 = .ok (.istore_n 2, 1) := by decide +kernel
theorem dX11_widest_7 : decode cX11_widest 7 = .ok (.iconst 0, 1) := by decide +kernel
theorem dX11_widest_8 : decode cX11_widest 8 = .ok (.istore_n 3, 1) := by decide +kernel
theorem dX11_widest_9 : decode cX11_widest 9 = .ok (.iload_n 3, 1) := by decide +kernel
theorem dX11_widest_10 : decode cX11_widest 10 = .ok (.aload_n 0, 1) := by decide +kernel
theorem dX11_widest_11 : decode cX11_widest 11 = .ok (.getfield 28, 3) := by decide +kernel
theorem dX11_widest_14 : decode cX11_widest 14 = .ok (.getfield 128, 3) := by decide +kernel
theorem dX11_widest_17 : decode cX11_widest 17 = .ok (.if_icmp .ge 28, 3) := by decide +kernel
theorem dX11_widest_20 : decode cX11_widest 20 = .ok (.aload_n 0, 1) := by decide +kernel
theorem dX11_widest_21 : decode cX11_widest 21 = .ok (.iload_n 3, 1) := by decide +kernel
theorem dX11_widest_22 : decode cX11_widest 22 = .ok (.iload_n 2, 1) := by decide +kernel
theorem dX11_widest_23 : decode cX11_widest 23 = .ok (.invokevirtual 308, 3) := by decide +kernel
theorem dX11_widest_26 : decode cX11_widest 26 = .ok (.istore 4, 2) := by decide +kernel
theorem dX11_widest_28 : decode cX11_widest 28 = .ok (.iload 4, 2) := by decide +kernel
theorem dX11_widest_30 : decode cX11_widest 30 = .ok (.iload_n 2, 1) := by decide +kernel
theorem dX11_widest_31 : decode cX11_widest 31 = .ok (.if_icmp .ge 8, 3) := by decide +kernel
theorem dX11_widest_34 : decode cX11_widest 34 = .ok (.iload 4, 2) := by decide +kernel
theorem dX11_widest_36 : decode cX11_widest 36 = .ok (.istore_n 2, 1) := by decide +kernel
theorem dX11_widest_37 : decode cX11_widest 37 = .ok (.iload_n 3, 1) := by decide +kernel
theorem dX11_widest_38 : decode cX11_widest 38 = .ok (.istore_n 1, 1) := by decide +kernel
theorem dX11_widest_39 : decode cX11_widest 39 = .ok (.iinc 3 1, 3) := by decide +kernel
theorem dX11_widest_42 : decode cX11_widest 42 = .ok (.goto (-33), 3) := by decide +kernel
theorem dX11_widest_45 : decode cX11_widest 45 = .ok (.iload_n 1, 1) := by decide +kernel
theorem dX11_widest_46 : decode cX11_widest 46 = .ok (.ireturn, 1) := by decide +kernel
theorem dX11_sheet_0 : decode cX11_sheet 0 = .ok (.aload_n 0, 1) := by decide +kernel
theorem dX11_sheet_1 : decode cX11_sheet 1 = .ok (.iconst 0, 1) := by decide +kernel
theorem dX11_sheet_2 : decode cX11_sheet 2 = .ok (.putfield 94, 3) := by decide +kernel
theorem dX11_sheet_5 : decode cX11_sheet 5 = .ok (.iload_n 1, 1) := by decide +kernel
theorem dX11_sheet_6 : decode cX11_sheet 6 = .ok (.invokestatic 98, 3) := by decide +kernel
theorem dX11_sheet_9 : decode cX11_sheet 9 = .ok (.ifCond .ne 5, 3) := by decide +kernel
theorem dX11_sheet_12 : decode cX11_sheet 12 = .ok (.iconst (-1), 1) := by decide +kernel
theorem dX11_sheet_13 : decode cX11_sheet 13 = .ok (.ireturn, 1) := by decide +kernel
theorem dX11_sheet_14 : decode cX11_sheet 14 = .ok (.iload_n 2, 1) := by decide +kernel
theorem dX11_sheet_15 : decode cX11_sheet 15 = .ok (.invokestatic 102, 3) := by decide +kernel
theorem dX11_sheet_18 : decode cX11_sheet 18 = .ok (.ifCond .eq 9, 3) := by decide +kernel
theorem dX11_sheet_21 : decode cX11_sheet 21 = .ok (.iload_n 3, 1) := by decide +kernel
theorem dX11_sheet_22 : decode cX11_sheet 22 = .ok (.bipush 60, 2) := by decide +kernel
theorem dX11_sheet_24 : decode cX11_sheet 24 = .ok (.if_icmp .le 6, 3) := by decide +kernel
theorem dX11_sheet_27 : decode cX11_sheet 27 = .ok (.bipush (-2), 2) := by decide +kernel
theorem dX11_sheet_29 : decode cX11_sheet 29 = .ok (.ireturn, 1) := by decide +kernel
theorem dX11_sheet_30 : decode cX11_sheet 30 = .ok (.iload_n 3, 1) := by decide +kernel
theorem dX11_sheet_31 : decode cX11_sheet 31 = .ok (.ifCond .ge 9, 3) := by decide +kernel
theorem dX11_sheet_34 : decode cX11_sheet 34 = .ok (.aload_n 0, 1) := by decide +kernel
theorem dX11_sheet_35 : decode cX11_sheet 35 = .ok (.iconst 4, 1) := by decide +kernel
theorem dX11_sheet_36 : decode cX11_sheet 36 = .ok (.invokevirtual 109, 3) := by decide +kernel
theorem dX11_sheet_39 : decode cX11_sheet 39 = .ok (.ireturn, 1) := by decide +kernel
theorem dX11_sheet_40 : decode cX11_sheet 40 = .ok (.aload_n 0, 1) := by decide +kernel
theorem dX11_sheet_41 : decode cX11_sheet 41 = .ok (.getfield 14, 3) := by decide +kernel
theorem dX11_sheet_44 : decode cX11_sheet 44 = .ok (.iload_n 1, 1) := by decide +kernel
theorem dX11_sheet_45 : decode cX11_sheet 45 = .ok (.iload_n 2, 1) := by decide +kernel
theorem dX11_sheet_46 : decode cX11_sheet 46 = .ok (.iload_n 3, 1) := by decide +kernel
theorem dX11_sheet_47 : decode cX11_sheet 47 = .ok (.invokevirtual 317, 3) := by decide +kernel
theorem dX11_sheet_50 : decode cX11_sheet 50 = .ok (.iconst 1, 1) := by decide +kernel
theorem dX11_sheet_51 : decode cX11_sheet 51 = .ok (.ireturn, 1) := by decide +kernel
theorem dX11_lose_0 : decode cX11_lose 0 = .ok (.iload_n 1, 1) := by decide +kernel
theorem dX11_lose_1 : decode cX11_lose 1 = .ok (.invokestatic 98, 3) := by decide +kernel
theorem dX11_lose_4 : decode cX11_lose 4 = .ok (.ifCond .ne 5, 3) := by decide +kernel
theorem dX11_lose_7 : decode cX11_lose 7 = .ok (.iconst (-1), 1) := by decide +kernel
theorem dX11_lose_8 : decode cX11_lose 8 = .ok (.ireturn, 1) := by decide +kernel
theorem dX11_lose_9 : decode cX11_lose 9 = .ok (.aload_n 0, 1) := by decide +kernel
theorem dX11_lose_10 : decode cX11_lose 10 = .ok (.getfield 14, 3) := by decide +kernel
theorem dX11_lose_13 : decode cX11_lose 13 = .ok (.iload_n 1, 1) := by decide +kernel
theorem dX11_lose_14 : decode cX11_lose 14 = .ok (.invokevirtual 321, 3) := by decide +kernel
theorem dX11_lose_17 : decode cX11_lose 17 = .ok (.ifCond .eq 7, 3) := by decide +kernel
theorem dX11_lose_20 : decode cX11_lose 20 = .ok (.iconst 1, 1) := by decide +kernel
theorem dX11_lose_21 : decode cX11_lose 21 = .ok (.goto 4, 3) := by decide +kernel
theorem dX11_lose_24 : decode cX11_lose 24 = .ok (.iconst 0, 1) := by decide +kernel
theorem dX11_lose_25 : decode cX11_lose 25 = .ok (.ireturn, 1) := by decide +kernel
theorem dX11_put_0 : decode cX11_put 0 = .ok (.aload_n 0, 1) := by decide +kernel
theorem dX11_put_1 : decode cX11_put 1 = .ok (.iconst 0, 1) := by decide +kernel
theorem dX11_put_2 : decode cX11_put 2 = .ok (.putfield 94, 3) := by decide +kernel
theorem dX11_put_5 : decode cX11_put 5 = .ok (.iload_n 1, 1) := by decide +kernel
theorem dX11_put_6 : decode cX11_put 6 = .ok (.invokestatic 98, 3) := by decide +kernel
theorem dX11_put_9 : decode cX11_put 9 = .ok (.ifCond .ne 5, 3) := by decide +kernel
theorem dX11_put_12 : decode cX11_put 12 = .ok (.iconst (-1), 1) := by decide +kernel
theorem dX11_put_13 : decode cX11_put 13 = .ok (.ireturn, 1) := by decide +kernel
theorem dX11_put_14 : decode cX11_put 14 = .ok (.aload_n 0, 1) := by decide +kernel
theorem dX11_put_15 : decode cX11_put 15 = .ok (.getfield 14, 3) := by decide +kernel
theorem dX11_put_18 : decode cX11_put 18 = .ok (.iload_n 1, 1) := by decide +kernel
theorem dX11_put_19 : decode cX11_put 19 = .ok (.aload_n 0, 1) := by decide +kernel
theorem dX11_put_20 : decode cX11_put 20 = .ok (.getfield 14, 3) := by decide +kernel
theorem dX11_put_23 : decode cX11_put 23 = .ok (.getfield 324, 3) := by decide +kernel
theorem dX11_put_26 : decode cX11_put 26 = .ok (.iload_n 1, 1) := by decide +kernel
theorem dX11_put_27 : decode cX11_put 27 = .ok (.iaload, 1) := by decide +kernel
theorem dX11_put_28 : decode cX11_put 28 = .ok (.iload_n 2, 1) := by decide +kernel
theorem dX11_put_29 : decode cX11_put 29 = .ok (.invokevirtual 327, 3) := by decide +kernel
theorem dX11_put_32 : decode cX11_put 32 = .ok (.istore 4, 2) := by decide +kernel
theorem dX11_put_34 : decode cX11_put 34 = .ok (.iload 4, 2) := by decide +kernel
theorem dX11_put_36 : decode cX11_put 36 = .ok (.ifCond .eq 10, 3) := by decide +kernel
theorem dX11_put_39 : decode cX11_put 39 = .ok (.aload_n 0, 1) := by decide +kernel
theorem dX11_put_40 : decode cX11_put 40 = .ok (.iload 4, 2) := by decide +kernel
theorem dX11_put_42 : decode cX11_put 42 = .ok (.invokevirtual 109, 3) := by decide +kernel
theorem dX11_put_45 : decode cX11_put 45 = .ok (.ireturn, 1) := by decide +kernel
theorem dX11_put_46 : decode cX11_put 46 = .ok (.aload_n 0, 1) := by decide +kernel
theorem dX11_put_47 : decode cX11_put 47 = .ok (.getfield 14, 3) := by decide +kernel
theorem dX11_put_50 : decode cX11_put 50 = .ok (.iload_n 1, 1) := by decide +kernel
theorem dX11_put_51 : decode cX11_put 51 = .ok (.iload_n 2, 1) := by decide +kernel
theorem dX11_put_52 : decode cX11_put 52 = .ok (.iload_n 3, 1) := by decide +kernel
theorem dX11_put_53 : decode cX11_put 53 = .ok (.invokevirtual 330, 3) := by decide +kernel
theorem dX11_put_56 : decode cX11_put 56 = .ok (.iconst 1, 1) := by decide +kernel
theorem dX11_put_57 : decode cX11_put 57 = .ok (.ireturn, 1) := by decide +kernel
abbrev rm_X11_thing : Room := { frames := 3, cells := 0, slots := 0, locals := 69 }
def T_X11_thing_65 (post : Int32 → Mem → Prop) (μ : Mem) : Prop :=
  post (-2) μ
theorem v_X11_thing_65 {X : Cx} {w : Wd} {l : Launch} {D : va_G} {A : Nat → Prop} (g : Gd X w RX11 cX11_thing 4 rm_X11_thing) (hX : atX X l D A) (post : Int32 → Mem → Prop) (hR : Rt X w shX 58 (some .int) (pI post)) (μ : Mem) (h : T_X11_thing_65 post μ) : V X 65 [] [] (wls w shX 58 μ) := by
  refine r_bipush (pc := 65) g dX11_thing_65 cb_m2 ?_
  exact r_ireti (pc := 67) g hR dX11_thing_67 h
def T_X11_thing_37 (post : Int32 → Mem → Prop) (x1 : Int32) (x2 : Int32) (x3 : Int32) (μ : Mem) : Prop :=
  ((¬ x2 = 1 → T_X11_thing_65 post μ) ∧ (x2 = 1 → ((x3 < 0 → T_X11_thing_65 post μ) ∧ (¬ x3 < 0 → ((99 < x3 → T_X11_thing_65 post μ) ∧ (¬ 99 < x3 → T_X5_change 19 x1 x3 μ (fun (u1 : Int32) (μ2 : Mem) => post u1 μ2)))))))
theorem v_X11_thing_37 {X : Cx} {w : Wd} {l : Launch} {D : va_G} {A : Nat → Prop} (g : Gd X w RX11 cX11_thing 4 rm_X11_thing) (hX : atX X l D A) (post : Int32 → Mem → Prop) (hR : Rt X w shX 58 (some .int) (pI post)) (x1 : Int32) (x2 : Int32) (x3 : Int32) (μ : Mem) (h : T_X11_thing_37 post x1 x2 x3 μ) : V X 37 [(0, .ref (w.1 0)), (1, .int x1), (2, .int x2), (3, .int x3)] [] (wls w shX 58 μ) := by
  refine r_iload_n (pc := 37) 2 g dX11_thing_37 rfl ?_
  refine r_iconst (pc := 38) g dX11_thing_38 ci_1 ?_
  refine r_icmp_ne (pc := 39) 65 g dX11_thing_39 rfl (fun q => ?_) (fun q => ?_)
  · have h := h.1 q
    refine r_sub [] (lv' := []) rfl ?_
    exact v_X11_thing_65 g hX post hR μ h
  · have h := h.2 q
    refine r_iload_n (pc := 42) 3 g dX11_thing_42 rfl ?_
    refine r_if_lt (pc := 43) 65 g dX11_thing_43 rfl (fun q => ?_) (fun q => ?_)
    · have h := h.1 q
      refine r_sub [] (lv' := []) rfl ?_
      exact v_X11_thing_65 g hX post hR μ h
    · have h := h.2 q
      refine r_iload_n (pc := 46) 3 g dX11_thing_46 rfl ?_
      refine r_bipush (pc := 47) g dX11_thing_47 cb_99 ?_
      refine r_icmp_gt (pc := 49) 65 g dX11_thing_49 rfl (fun q => ?_) (fun q => ?_)
      · have h := h.1 q
        refine r_sub [] (lv' := []) rfl ?_
        exact v_X11_thing_65 g hX post hR μ h
      · have h := h.2 q
        refine r_aload_n (pc := 52) 0 g dX11_thing_52 rfl ?_
        refine r_getr (pc := 53) (μ := μ) g dX11_thing_53 fa_RX11_28 shX_out sX_0 rfl ?_
        refine r_getr (pc := 56) (μ := μ) g dX11_thing_56 fa_RX11_160 shX_out sX_13 rfl ?_
        refine r_iload_n (pc := 59) 1 g dX11_thing_59 rfl ?_
        refine r_iload_n (pc := 60) 3 g dX11_thing_60 rfl ?_
        refine r_callVi (pc := 61) (st := []) g hX dX11_thing_61 (m_X5_change 19 (Or.inr rfl) x1 x3 μ _ h) kb_RX11_164 kv_X5_change shX_out (sc_0 (Or.inr rfl)) rfl rfl rfl rfl (fun u1 μ2 h => ?_)
        exact r_ireti (pc := 64) g hR dX11_thing_64 h
def T_X11_thing (x1 : Int32) (x2 : Int32) (x3 : Int32) (μ : Mem) (post : Int32 → Mem → Prop) : Prop :=
  ((x1 < 0 → post (-1) μ) ∧ (¬ x1 < 0 → ((x1 < 10 → ((¬ x2 = 0 → T_X11_thing_37 post x1 x2 x3 μ) ∧ (x2 = 0 → ((x3 < 1 → T_X11_thing_37 post x1 x2 x3 μ) ∧ (¬ x3 < 1 → ((9 < x3 → T_X11_thing_37 post x1 x2 x3 μ) ∧ (¬ 9 < x3 → T_X10_changeSize x1 x3 μ (fun (u1 : Int32) (μ2 : Mem) => post u1 μ2)))))))) ∧ (¬ x1 < 10 → post (-1) μ))))
theorem m_X11_thing {w : Wd} {l : Launch} {D : va_G} {A : Nat → Prop} (x1 : Int32) (x2 : Int32) (x3 : Int32) (μ : Mem) (post : Int32 → Mem → Prop) (h : T_X11_thing x1 x2 x3 μ post) : MetX l D A w shX 58 yX11_thing cX11_thing 4 (some .int) rm_X11_thing [.ref (w.1 0), .int x1, .int x2, .int x3] μ (pI post) := by
  refine metX_of (by decide) rfl (lv := [(0, .ref (w.1 0)), (1, .int x1), (2, .int x2), (3, .int x3)]) rfl (fun X hX g hR => ?_)
  refine r_iload_n (pc := 0) 1 g dX11_thing_0 rfl ?_
  refine r_if_lt (pc := 1) 10 g dX11_thing_1 rfl (fun q => ?_) (fun q => ?_)
  · have h := h.1 q
    refine r_iconst (pc := 10) g dX11_thing_10 ci_m1 ?_
    exact r_ireti (pc := 11) g hR dX11_thing_11 h
  · have h := h.2 q
    refine r_iload_n (pc := 4) 1 g dX11_thing_4 rfl ?_
    refine r_bipush (pc := 5) g dX11_thing_5 cb_10 ?_
    refine r_icmp_lt (pc := 7) 12 g dX11_thing_7 rfl (fun q => ?_) (fun q => ?_)
    · have h := h.1 q
      refine r_iload_n (pc := 12) 2 g dX11_thing_12 rfl ?_
      refine r_if_ne (pc := 13) 37 g dX11_thing_13 rfl (fun q => ?_) (fun q => ?_)
      · have h := h.1 q
        refine r_sub [0, 1, 2, 3] (lv' := [(0, .ref (w.1 0)), (1, .int x1), (2, .int x2), (3, .int x3)]) rfl ?_
        exact v_X11_thing_37 g hX post hR x1 x2 x3 μ h
      · have h := h.2 q
        refine r_iload_n (pc := 16) 3 g dX11_thing_16 rfl ?_
        refine r_iconst (pc := 17) g dX11_thing_17 ci_1 ?_
        refine r_icmp_lt (pc := 18) 37 g dX11_thing_18 rfl (fun q => ?_) (fun q => ?_)
        · have h := h.1 q
          refine r_sub [0, 1, 2, 3] (lv' := [(0, .ref (w.1 0)), (1, .int x1), (2, .int x2), (3, .int x3)]) rfl ?_
          exact v_X11_thing_37 g hX post hR x1 x2 x3 μ h
        · have h := h.2 q
          refine r_iload_n (pc := 21) 3 g dX11_thing_21 rfl ?_
          refine r_bipush (pc := 22) g dX11_thing_22 cb_9 ?_
          refine r_icmp_gt (pc := 24) 37 g dX11_thing_24 rfl (fun q => ?_) (fun q => ?_)
          · have h := h.1 q
            refine r_sub [0, 1, 2, 3] (lv' := [(0, .ref (w.1 0)), (1, .int x1), (2, .int x2), (3, .int x3)]) rfl ?_
            exact v_X11_thing_37 g hX post hR x1 x2 x3 μ h
          · have h := h.2 q
            refine r_aload_n (pc := 27) 0 g dX11_thing_27 rfl ?_
            refine r_getr (pc := 28) (μ := μ) g dX11_thing_28 fa_RX11_28 shX_out sX_0 rfl ?_
            refine r_iload_n (pc := 31) 1 g dX11_thing_31 rfl ?_
            refine r_iload_n (pc := 32) 3 g dX11_thing_32 rfl ?_
            refine r_callVi (pc := 33) (st := []) g hX dX11_thing_33 (m_X10_changeSize x1 x3 μ _ h) kb_RX11_156 kv_X10_changeSize shX_out sX_13 rfl rfl rfl rfl (fun u1 μ2 h => ?_)
            exact r_ireti (pc := 36) g hR dX11_thing_36 h
    · have h := h.2 q
      refine r_iconst (pc := 10) g dX11_thing_10 ci_m1 ?_
      exact r_ireti (pc := 11) g hR dX11_thing_11 h
abbrev rm_X11_isKind : Room := { frames := 0, cells := 0, slots := 0, locals := 0 }
def T_X11_isKind (x0 : Int32) (μ : Mem) (post : Int32 → Mem → Prop) : Prop :=
  ((x0 < 0 → post 0 μ) ∧ (¬ x0 < 0 → ((2 < x0 → post 0 μ) ∧ (¬ 2 < x0 → post 1 μ))))
theorem m_X11_isKind {w : Wd} {l : Launch} {D : va_G} {A : Nat → Prop} (x0 : Int32) (μ : Mem) (post : Int32 → Mem → Prop) (h : T_X11_isKind x0 μ post) : MetX l D A w shX 58 yX11_isKind cX11_isKind 1 (some .boolean) rm_X11_isKind [.int x0] μ (pI post) := by
  refine metX_of (by decide) rfl (lv := [(0, .int x0)]) rfl (fun X hX g hR => ?_)
  refine r_iload_n (pc := 0) 0 g dX11_isKind_0 rfl ?_
  refine r_if_lt (pc := 1) 13 g dX11_isKind_1 rfl (fun q => ?_) (fun q => ?_)
  · have h := h.1 q
    refine r_iconst (pc := 13) g dX11_isKind_13 ci_0 ?_
    exact r_zreti (pc := 14) g hR dX11_isKind_14 (Or.inl rfl) h
  · have h := h.2 q
    refine r_iload_n (pc := 4) 0 g dX11_isKind_4 rfl ?_
    refine r_iconst (pc := 5) g dX11_isKind_5 ci_2 ?_
    refine r_icmp_gt (pc := 6) 13 g dX11_isKind_6 rfl (fun q => ?_) (fun q => ?_)
    · have h := h.1 q
      refine r_iconst (pc := 13) g dX11_isKind_13 ci_0 ?_
      exact r_zreti (pc := 14) g hR dX11_isKind_14 (Or.inl rfl) h
    · have h := h.2 q
      refine r_iconst (pc := 9) g dX11_isKind_9 ci_1 ?_
      refine r_goto (pc := 10) 14 g dX11_isKind_10 rfl ?_
      exact r_zreti (pc := 14) g hR dX11_isKind_14 (Or.inr rfl) h
abbrev rm_X11_refusalOfSpare : Room := { frames := 2, cells := 0, slots := 0, locals := 49 }
def T_X11_refusalOfSpare_65 (post : Int32 → Mem → Prop) (P7 : Int32 → Int32 → Int32 → Int32 → Mem → Prop) (x1 : Int32) (x2 : Int32) (x4 : Int32) (x5 : Int32) (s0 : Int32) (μ : Mem) : Prop :=
  P7 x1 (x2 ||| x5) s0 (x4 + 1) μ
theorem v_X11_refusalOfSpare_65 {X : Cx} {w : Wd} {l : Launch} {D : va_G} {A : Nat → Prop} (g : Gd X w RX11 cX11_refusalOfSpare 6 rm_X11_refusalOfSpare) (hX : atX X l D A) (post : Int32 → Mem → Prop) (hR : Rt X w shX 58 (some .int) (pI post)) (P7 : Int32 → Int32 → Int32 → Int32 → Mem → Prop) (hP7 : ∀ (x1 : Int32) (x2 : Int32) (x3 : Int32) (x4 : Int32) (μ : Mem), P7 x1 x2 x3 x4 μ → V X 7 [(0, .ref (w.1 0)), (1, .int x1), (2, .int x2), (3, .int x3), (4, .int x4)] [] (wls w shX 58 μ)) (x1 : Int32) (x2 : Int32) (x4 : Int32) (x5 : Int32) (s0 : Int32) (μ : Mem) (h : T_X11_refusalOfSpare_65 post P7 x1 x2 x4 x5 s0 μ) : V X 65 [(0, .ref (w.1 0)), (1, .int x1), (2, .int x2), (4, .int x4), (5, .int x5)] [.int s0] (wls w shX 58 μ) := by
  refine r_istore_n (pc := 65) (lv' := [(3, .int s0), (0, .ref (w.1 0)), (1, .int x1), (2, .int x2), (4, .int x4), (5, .int x5)]) g dX11_refusalOfSpare_65 rfl rfl ?_
  refine r_iload_n (pc := 66) 3 g dX11_refusalOfSpare_66 rfl ?_
  refine r_iload (pc := 67) 5 g dX11_refusalOfSpare_67 rfl ?_
  refine r_ior (pc := 69) g dX11_refusalOfSpare_69 ?_
  refine r_istore_n (pc := 70) (lv' := [(2, .int (x2 ||| x5)), (3, .int s0), (0, .ref (w.1 0)), (1, .int x1), (4, .int x4), (5, .int x5)]) g dX11_refusalOfSpare_70 rfl rfl ?_
  refine r_iinc (pc := 71) (lv' := [(4, .int (x4 + 1)), (2, .int (x2 ||| x5)), (3, .int s0), (0, .ref (w.1 0)), (1, .int x1), (5, .int x5)]) 4 g dX11_refusalOfSpare_71 rfl ci_1 rfl rfl ?_
  refine r_goto (pc := 74) 7 g dX11_refusalOfSpare_74 rfl ?_
  refine r_sub [3, 4, 1, 2, 0] (lv' := [(0, .ref (w.1 0)), (1, .int x1), (2, .int (x2 ||| x5)), (3, .int s0), (4, .int (x4 + 1))]) rfl ?_
  exact hP7 x1 (x2 ||| x5) s0 (x4 + 1) μ h
def T_X11_refusalOfSpare_60 (post : Int32 → Mem → Prop) (P7 : Int32 → Int32 → Int32 → Int32 → Mem → Prop) (x1 : Int32) (x2 : Int32) (x4 : Int32) (x5 : Int32) (μ : Mem) : Prop :=
  T_X11_refusalOfSpare_65 post P7 x1 x2 x4 x5 1 μ
theorem v_X11_refusalOfSpare_60 {X : Cx} {w : Wd} {l : Launch} {D : va_G} {A : Nat → Prop} (g : Gd X w RX11 cX11_refusalOfSpare 6 rm_X11_refusalOfSpare) (hX : atX X l D A) (post : Int32 → Mem → Prop) (hR : Rt X w shX 58 (some .int) (pI post)) (P7 : Int32 → Int32 → Int32 → Int32 → Mem → Prop) (hP7 : ∀ (x1 : Int32) (x2 : Int32) (x3 : Int32) (x4 : Int32) (μ : Mem), P7 x1 x2 x3 x4 μ → V X 7 [(0, .ref (w.1 0)), (1, .int x1), (2, .int x2), (3, .int x3), (4, .int x4)] [] (wls w shX 58 μ)) (x1 : Int32) (x2 : Int32) (x4 : Int32) (x5 : Int32) (μ : Mem) (h : T_X11_refusalOfSpare_60 post P7 x1 x2 x4 x5 μ) : V X 60 [(0, .ref (w.1 0)), (1, .int x1), (2, .int x2), (4, .int x4), (5, .int x5)] [] (wls w shX 58 μ) := by
  refine r_iconst (pc := 60) g dX11_refusalOfSpare_60 ci_1 ?_
  refine r_goto (pc := 61) 65 g dX11_refusalOfSpare_61 rfl ?_
  refine r_sub [0, 1, 2, 3, 4] (lv' := [(0, .ref (w.1 0)), (1, .int x1), (2, .int x2), (4, .int x4), (5, .int x5)]) rfl ?_
  exact v_X11_refusalOfSpare_65 g hX post hR P7 hP7 x1 x2 x4 x5 1 μ h
def T_X11_refusalOfSpare_112 (post : Int32 → Mem → Prop) (μ : Mem) : Prop :=
  T_X3_isFull μ (fun (u1 : Int32) (μ2 : Mem) => ((u1 = 0 → post 0 μ2) ∧ (¬ u1 = 0 → post (-4) μ2)))
theorem v_X11_refusalOfSpare_112 {X : Cx} {w : Wd} {l : Launch} {D : va_G} {A : Nat → Prop} (g : Gd X w RX11 cX11_refusalOfSpare 6 rm_X11_refusalOfSpare) (hX : atX X l D A) (post : Int32 → Mem → Prop) (hR : Rt X w shX 58 (some .int) (pI post)) (μ : Mem) (h : T_X11_refusalOfSpare_112 post μ) : V X 112 [(0, .ref (w.1 0))] [] (wls w shX 58 μ) := by
  refine r_aload_n (pc := 112) 0 g dX11_refusalOfSpare_112 rfl ?_
  refine r_getr (pc := 113) (μ := μ) g dX11_refusalOfSpare_113 fa_RX11_35 shX_out sX_0 rfl ?_
  refine r_callVi (pc := 116) (st := []) g hX dX11_refusalOfSpare_116 (m_X3_isFull μ _ h) kb_RX11_192 kv_X3_isFull shX_out sX_22 rfl rfl rfl rfl (fun u1 μ2 h => ?_)
  refine r_if_eq (pc := 119) 127 g dX11_refusalOfSpare_119 rfl (fun q => ?_) (fun q => ?_)
  · have h := h.1 q
    refine r_iconst (pc := 127) g dX11_refusalOfSpare_127 ci_0 ?_
    exact r_ireti (pc := 128) g hR dX11_refusalOfSpare_128 h
  · have h := h.2 q
    refine r_bipush (pc := 122) g dX11_refusalOfSpare_122 cb_m4 ?_
    refine r_goto (pc := 124) 128 g dX11_refusalOfSpare_124 rfl ?_
    exact r_ireti (pc := 128) g hR dX11_refusalOfSpare_128 h
def B_X11_refusalOfSpare_7 (post : Int32 → Mem → Prop) (P7 : Int32 → Int32 → Int32 → Int32 → Mem → Prop) (x1 : Int32) (x2 : Int32) (x3 : Int32) (x4 : Int32) (μ : Mem) : Prop :=
  (((μ 13 4) ≤ x4 → ((x3 = 0 → T_X1_measure 57 μ (fun (μ2 : Mem) => ((x1 = 0 → T_X11_refusalOfSpare_112 post μ2) ∧ (¬ x1 = 0 → ((¬ (μ2 33 3) = 0 → T_X11_refusalOfSpare_112 post μ2) ∧ ((μ2 33 3) = 0 → post (-3) μ2)))))) ∧ (¬ x3 = 0 → post (-3) μ))) ∧ (¬ (μ 13 4) ≤ x4 → vp_in x4 9 ∧ T_X10_has (μ 57 x4.toNatClampNeg) μ (fun (u4 : Int32) (μ5 : Mem) => ((¬ u4 = 0 → vp_in x4 9 ∧ ((¬ x3 = 0 → T_X11_refusalOfSpare_60 post P7 x1 x2 x4 ((1 : Int32) <<< ((μ5 57 x4.toNatClampNeg) &&& 31)) μ5) ∧ (x3 = 0 → (((x2 &&& ((1 : Int32) <<< ((μ5 57 x4.toNatClampNeg) &&& 31))) = 0 → T_X11_refusalOfSpare_65 post P7 x1 x2 x4 ((1 : Int32) <<< ((μ5 57 x4.toNatClampNeg) &&& 31)) 0 μ5) ∧ (¬ (x2 &&& ((1 : Int32) <<< ((μ5 57 x4.toNatClampNeg) &&& 31))) = 0 → T_X11_refusalOfSpare_60 post P7 x1 x2 x4 ((1 : Int32) <<< ((μ5 57 x4.toNatClampNeg) &&& 31)) μ5))))) ∧ (u4 = 0 → post (-1) μ5)))))
def T_X11_refusalOfSpare_7 (post : Int32 → Mem → Prop) (x1 : Int32) (x2 : Int32) (x3 : Int32) (x4 : Int32) (μ : Mem) : Prop :=
  ∀ P7 : Int32 → Int32 → Int32 → Int32 → Mem → Prop, (∀ (x1 : Int32) (x2 : Int32) (x3 : Int32) (x4 : Int32) (μ : Mem), B_X11_refusalOfSpare_7 post P7 x1 x2 x3 x4 μ → P7 x1 x2 x3 x4 μ) → P7 x1 x2 x3 x4 μ
theorem bv_X11_refusalOfSpare_7 {X : Cx} {w : Wd} {l : Launch} {D : va_G} {A : Nat → Prop} (g : Gd X w RX11 cX11_refusalOfSpare 6 rm_X11_refusalOfSpare) (hX : atX X l D A) (post : Int32 → Mem → Prop) (hR : Rt X w shX 58 (some .int) (pI post)) (P7 : Int32 → Int32 → Int32 → Int32 → Mem → Prop) (hP7 : ∀ (x1 : Int32) (x2 : Int32) (x3 : Int32) (x4 : Int32) (μ : Mem), P7 x1 x2 x3 x4 μ → V X 7 [(0, .ref (w.1 0)), (1, .int x1), (2, .int x2), (3, .int x3), (4, .int x4)] [] (wls w shX 58 μ)) (x1 : Int32) (x2 : Int32) (x3 : Int32) (x4 : Int32) (μ : Mem) (h : B_X11_refusalOfSpare_7 post P7 x1 x2 x3 x4 μ) : V X 7 [(0, .ref (w.1 0)), (1, .int x1), (2, .int x2), (3, .int x3), (4, .int x4)] [] (wls w shX 58 μ) := by
  refine r_iload (pc := 7) 4 g dX11_refusalOfSpare_7 rfl ?_
  refine r_aload_n (pc := 9) 0 g dX11_refusalOfSpare_9 rfl ?_
  refine r_getr (pc := 10) (μ := μ) g dX11_refusalOfSpare_10 fa_RX11_28 shX_out sX_0 rfl ?_
  refine r_geti (pc := 13) (μ := μ) g dX11_refusalOfSpare_13 fa_RX11_128 shX_out sX_13 rfl ?_
  refine r_icmp_ge (pc := 16) 77 g dX11_refusalOfSpare_16 rfl (fun q => ?_) (fun q => ?_)
  · have h := h.1 q
    refine r_iload_n (pc := 77) 3 g dX11_refusalOfSpare_77 rfl ?_
    refine r_if_eq (pc := 78) 84 g dX11_refusalOfSpare_78 rfl (fun q => ?_) (fun q => ?_)
    · have h := h.1 q
      refine r_aload_n (pc := 84) 0 g dX11_refusalOfSpare_84 rfl ?_
      refine r_getr (pc := 85) (μ := μ) g dX11_refusalOfSpare_85 fa_RX11_44 shX_out sX_0 rfl ?_
      refine r_aload_n (pc := 88) 0 g dX11_refusalOfSpare_88 rfl ?_
      refine r_getr (pc := 89) (μ := μ) g dX11_refusalOfSpare_89 fa_RX11_90 shX_out sX_0 rfl ?_
      refine r_callVv (pc := 92) (st := []) g hX dX11_refusalOfSpare_92 (m_X1_measure 57 μ _ h) kb_RX11_184 kv_X1_measure shX_out sX_33 rfl rfl rfl rfl (fun μ2 h => ?_)
      refine r_iload_n (pc := 95) 1 g dX11_refusalOfSpare_95 rfl ?_
      refine r_if_eq (pc := 96) 112 g dX11_refusalOfSpare_96 rfl (fun q => ?_) (fun q => ?_)
      · have h := h.1 q
        refine r_sub [0] (lv' := [(0, .ref (w.1 0))]) rfl ?_
        exact v_X11_refusalOfSpare_112 g hX post hR μ2 h
      · have h := h.2 q
        refine r_aload_n (pc := 99) 0 g dX11_refusalOfSpare_99 rfl ?_
        refine r_getr (pc := 100) (μ := μ2) g dX11_refusalOfSpare_100 fa_RX11_44 shX_out sX_0 rfl ?_
        refine r_geti (pc := 103) (μ := μ2) g dX11_refusalOfSpare_103 fa_RX11_188 shX_out sX_33 rfl ?_
        refine r_if_ne (pc := 106) 112 g dX11_refusalOfSpare_106 rfl (fun q => ?_) (fun q => ?_)
        · have h := h.1 q
          refine r_sub [0] (lv' := [(0, .ref (w.1 0))]) rfl ?_
          exact v_X11_refusalOfSpare_112 g hX post hR μ2 h
        · have h := h.2 q
          refine r_bipush (pc := 109) g dX11_refusalOfSpare_109 cb_m3 ?_
          exact r_ireti (pc := 111) g hR dX11_refusalOfSpare_111 h
    · have h := h.2 q
      refine r_bipush (pc := 81) g dX11_refusalOfSpare_81 cb_m3 ?_
      exact r_ireti (pc := 83) g hR dX11_refusalOfSpare_83 h
  · have h := h.2 q
    refine r_aload_n (pc := 19) 0 g dX11_refusalOfSpare_19 rfl ?_
    refine r_getr (pc := 20) (μ := μ) g dX11_refusalOfSpare_20 fa_RX11_28 shX_out sX_0 rfl ?_
    refine r_aload_n (pc := 23) 0 g dX11_refusalOfSpare_23 rfl ?_
    refine r_getr (pc := 24) (μ := μ) g dX11_refusalOfSpare_24 fa_RX11_90 shX_out sX_0 rfl ?_
    refine r_iload (pc := 27) 4 g dX11_refusalOfSpare_27 rfl ?_
    obtain ⟨b3, h⟩ := h
    refine r_iaload (pc := 29) (μ := μ) g dX11_refusalOfSpare_29 shX_out sX_57 b3 ?_
    refine r_callVi (pc := 30) (st := []) g hX dX11_refusalOfSpare_30 (m_X10_has (μ 57 x4.toNatClampNeg) μ _ h) kb_RX11_137 kv_X10_has shX_out sX_13 rfl rfl rfl rfl (fun u4 μ5 h => ?_)
    refine r_if_ne (pc := 33) 38 g dX11_refusalOfSpare_33 rfl (fun q => ?_) (fun q => ?_)
    · have h := h.1 q
      refine r_iconst (pc := 38) g dX11_refusalOfSpare_38 ci_1 ?_
      refine r_aload_n (pc := 39) 0 g dX11_refusalOfSpare_39 rfl ?_
      refine r_getr (pc := 40) (μ := μ5) g dX11_refusalOfSpare_40 fa_RX11_90 shX_out sX_0 rfl ?_
      refine r_iload (pc := 43) 4 g dX11_refusalOfSpare_43 rfl ?_
      obtain ⟨b6, h⟩ := h
      refine r_iaload (pc := 45) (μ := μ5) g dX11_refusalOfSpare_45 shX_out sX_57 b6 ?_
      refine r_ishl (pc := 46) g dX11_refusalOfSpare_46 ?_
      refine r_istore (pc := 47) (lv' := [(5, .int ((1 : Int32) <<< ((μ5 57 x4.toNatClampNeg) &&& 31))), (0, .ref (w.1 0)), (1, .int x1), (2, .int x2), (3, .int x3), (4, .int x4)]) g dX11_refusalOfSpare_47 rfl rfl ?_
      refine r_iload_n (pc := 49) 4 g dX11_refusalOfSpare_49 rfl ?_
      refine r_if_ne (pc := 50) 60 g dX11_refusalOfSpare_50 rfl (fun q => ?_) (fun q => ?_)
      · have h := h.1 q
        refine r_sub [1, 2, 3, 5, 0] (lv' := [(0, .ref (w.1 0)), (1, .int x1), (2, .int x2), (4, .int x4), (5, .int ((1 : Int32) <<< ((μ5 57 x4.toNatClampNeg) &&& 31)))]) rfl ?_
        exact v_X11_refusalOfSpare_60 g hX post hR P7 hP7 x1 x2 x4 ((1 : Int32) <<< ((μ5 57 x4.toNatClampNeg) &&& 31)) μ5 h
      · have h := h.2 q
        refine r_iload_n (pc := 53) 3 g dX11_refusalOfSpare_53 rfl ?_
        refine r_iload (pc := 54) 0 g dX11_refusalOfSpare_54 rfl ?_
        refine r_iand (pc := 56) g dX11_refusalOfSpare_56 ?_
        refine r_if_eq (pc := 57) 64 g dX11_refusalOfSpare_57 rfl (fun q => ?_) (fun q => ?_)
        · have h := h.1 q
          refine r_iconst (pc := 64) g dX11_refusalOfSpare_64 ci_0 ?_
          refine r_sub [1, 2, 3, 5, 0] (lv' := [(0, .ref (w.1 0)), (1, .int x1), (2, .int x2), (4, .int x4), (5, .int ((1 : Int32) <<< ((μ5 57 x4.toNatClampNeg) &&& 31)))]) rfl ?_
          exact v_X11_refusalOfSpare_65 g hX post hR P7 hP7 x1 x2 x4 ((1 : Int32) <<< ((μ5 57 x4.toNatClampNeg) &&& 31)) 0 μ5 h
        · have h := h.2 q
          refine r_sub [1, 2, 3, 5, 0] (lv' := [(0, .ref (w.1 0)), (1, .int x1), (2, .int x2), (4, .int x4), (5, .int ((1 : Int32) <<< ((μ5 57 x4.toNatClampNeg) &&& 31)))]) rfl ?_
          exact v_X11_refusalOfSpare_60 g hX post hR P7 hP7 x1 x2 x4 ((1 : Int32) <<< ((μ5 57 x4.toNatClampNeg) &&& 31)) μ5 h
    · have h := h.2 q
      refine r_iconst (pc := 36) g dX11_refusalOfSpare_36 ci_m1 ?_
      exact r_ireti (pc := 37) g hR dX11_refusalOfSpare_37 h
theorem v_X11_refusalOfSpare_7 {X : Cx} {w : Wd} {l : Launch} {D : va_G} {A : Nat → Prop} (g : Gd X w RX11 cX11_refusalOfSpare 6 rm_X11_refusalOfSpare) (hX : atX X l D A) (post : Int32 → Mem → Prop) (hR : Rt X w shX 58 (some .int) (pI post)) (x1 : Int32) (x2 : Int32) (x3 : Int32) (x4 : Int32) (μ : Mem) (h : T_X11_refusalOfSpare_7 post x1 x2 x3 x4 μ) : V X 7 [(0, .ref (w.1 0)), (1, .int x1), (2, .int x2), (3, .int x3), (4, .int x4)] [] (wls w shX 58 μ) :=
  h (fun x1 x2 x3 x4 μ => V X 7 [(0, .ref (w.1 0)), (1, .int x1), (2, .int x2), (3, .int x3), (4, .int x4)] [] (wls w shX 58 μ)) (fun x1 x2 x3 x4 μ h => bv_X11_refusalOfSpare_7 g hX post hR (fun x1 x2 x3 x4 μ => V X 7 [(0, .ref (w.1 0)), (1, .int x1), (2, .int x2), (3, .int x3), (4, .int x4)] [] (wls w shX 58 μ)) (fun _ _ _ _ _ h => h) x1 x2 x3 x4 μ h)
def T_X11_refusalOfSpare (x1 : Int32) (μ : Mem) (post : Int32 → Mem → Prop) : Prop :=
  T_X11_refusalOfSpare_7 post x1 0 0 0 μ
theorem m_X11_refusalOfSpare {w : Wd} {l : Launch} {D : va_G} {A : Nat → Prop} (x1 : Int32) (μ : Mem) (post : Int32 → Mem → Prop) (h : T_X11_refusalOfSpare x1 μ post) : MetX l D A w shX 58 yX11_refusalOfSpare cX11_refusalOfSpare 6 (some .int) rm_X11_refusalOfSpare [.ref (w.1 0), .int x1] μ (pI post) := by
  refine metX_of (by decide) rfl (lv := [(0, .ref (w.1 0)), (1, .int x1)]) rfl (fun X hX g hR => ?_)
  refine r_iconst (pc := 0) g dX11_refusalOfSpare_0 ci_0 ?_
  refine r_istore_n (pc := 1) (lv' := [(2, .int 0), (0, .ref (w.1 0)), (1, .int x1)]) g dX11_refusalOfSpare_1 rfl rfl ?_
  refine r_iconst (pc := 2) g dX11_refusalOfSpare_2 ci_0 ?_
  refine r_istore_n (pc := 3) (lv' := [(3, .int 0), (2, .int 0), (0, .ref (w.1 0)), (1, .int x1)]) g dX11_refusalOfSpare_3 rfl rfl ?_
  refine r_iconst (pc := 4) g dX11_refusalOfSpare_4 ci_0 ?_
  refine r_istore (pc := 5) (lv' := [(4, .int 0), (3, .int 0), (2, .int 0), (0, .ref (w.1 0)), (1, .int x1)]) g dX11_refusalOfSpare_5 rfl rfl ?_
  refine r_sub [3, 4, 2, 1, 0] (lv' := [(0, .ref (w.1 0)), (1, .int x1), (2, .int 0), (3, .int 0), (4, .int 0)]) rfl ?_
  exact v_X11_refusalOfSpare_7 g hX post hR x1 0 0 0 μ h
abbrev rm_X11_order : Room := { frames := 3, cells := 0, slots := 0, locals := 74 }
def T_X11_order_28 (post : Int32 → Mem → Prop) (μ : Mem) : Prop :=
  post (-2) μ
theorem v_X11_order_28 {X : Cx} {w : Wd} {l : Launch} {D : va_G} {A : Nat → Prop} (g : Gd X w RX11 cX11_order 8 rm_X11_order) (hX : atX X l D A) (post : Int32 → Mem → Prop) (hR : Rt X w shX 58 (some .int) (pI post)) (μ : Mem) (h : T_X11_order_28 post μ) : V X 28 [] [] (wls w shX 58 μ) := by
  refine r_bipush (pc := 28) g dX11_order_28 cb_m2 ?_
  exact r_ireti (pc := 30) g hR dX11_order_30 h
def T_X11_order_75 (post : Int32 → Mem → Prop) (μ : Mem) : Prop :=
  post (-2) μ
theorem v_X11_order_75 {X : Cx} {w : Wd} {l : Launch} {D : va_G} {A : Nat → Prop} (g : Gd X w RX11 cX11_order 8 rm_X11_order) (hX : atX X l D A) (post : Int32 → Mem → Prop) (hR : Rt X w shX 58 (some .int) (pI post)) (μ : Mem) (h : T_X11_order_75 post μ) : V X 75 [] [] (wls w shX 58 μ) := by
  refine r_bipush (pc := 75) g dX11_order_75 cb_m2 ?_
  exact r_ireti (pc := 77) g hR dX11_order_77 h
def T_X11_order (x1 : Int32) (x2 : Int32) (x3 : Int32) (x4 : Int32) (x5 : Int32) (μ : Mem) (post : Int32 → Mem → Prop) : Prop :=
  T_X11_isSheet x2 (mset μ 0 13 0) (fun (u1 : Int32) (μ2 : Mem) => ((¬ u1 = 0 → T_X11_isKind x1 μ2 (fun (u3 : Int32) (μ4 : Mem) => ((u3 = 0 → T_X11_order_28 post μ4) ∧ (¬ u3 = 0 → T_X11_isLane x3 μ4 (fun (u5 : Int32) (μ6 : Mem) => ((¬ u5 = 0 → T_X7_cellsFault x2 x3 x4 x5 μ6 (fun (u7 : Int32) (μ8 : Mem) => ((u7 = 0 → ((x5 = 0 → T_X11_order_75 post μ8) ∧ (¬ x5 = 0 → ((x5 = (μ8 13 4) → vp_in x2 4 ∧ (¬ x4 < 0 ∧ ¬ (0 : Int32) < 0 ∧ ¬ x5 < 0 ∧ x4.toNatClampNeg + x5.toNatClampNeg ≤ 60 ∧ (0 : Int32).toNatClampNeg + x5.toNatClampNeg ≤ 9) ∧ T_X11_refusalOfSpare x1 (mput μ8 57 (va_cpy (μ8 (5 + x2.toNatClampNeg)) (μ8 57) x4.toNatClampNeg (0 : Int32).toNatClampNeg x5.toNatClampNeg)) (fun (u11 : Int32) (μ12 : Mem) => ((u11 = 0 → T_X3_add 57 x1 μ12 (fun (u13 : Int32) (μ14 : Mem) => post u13 μ14)) ∧ (¬ u11 = 0 → post u11 μ12)))) ∧ (¬ x5 = (μ8 13 4) → T_X11_order_75 post μ8))))) ∧ (¬ u7 = 0 → T_X11_faulted u7 μ8 (fun (u15 : Int32) (μ16 : Mem) => post u15 μ16))))) ∧ (u5 = 0 → T_X11_order_28 post μ6))))))) ∧ (u1 = 0 → post (-1) μ2)))
theorem m_X11_order {w : Wd} {l : Launch} {D : va_G} {A : Nat → Prop} (x1 : Int32) (x2 : Int32) (x3 : Int32) (x4 : Int32) (x5 : Int32) (μ : Mem) (post : Int32 → Mem → Prop) (h : T_X11_order x1 x2 x3 x4 x5 μ post) : MetX l D A w shX 58 yX11_order cX11_order 8 (some .int) rm_X11_order [.ref (w.1 0), .int x1, .int x2, .int x3, .int x4, .int x5] μ (pI post) := by
  refine metX_of (by decide) rfl (lv := [(0, .ref (w.1 0)), (1, .int x1), (2, .int x2), (3, .int x3), (4, .int x4), (5, .int x5)]) rfl (fun X hX g hR => ?_)
  refine r_aload_n (pc := 0) 0 g dX11_order_0 rfl ?_
  refine r_iconst (pc := 1) g dX11_order_1 ci_0 ?_
  refine r_puti (pc := 2) (μ := μ) g dX11_order_2 fp_RX11_94 shX_out sX_0 rfl ?_
  refine r_iload_n (pc := 5) 2 g dX11_order_5 rfl ?_
  refine r_callSi (pc := 6) (st := []) g hX dX11_order_6 (m_X11_isSheet x2 (mset μ 0 13 0) _ h) kb_RX11_98 k_466 rfl rfl rfl rfl (fun u1 μ2 h => ?_)
  refine r_if_ne (pc := 9) 14 g dX11_order_9 rfl (fun q => ?_) (fun q => ?_)
  · have h := h.1 q
    refine r_iload_n (pc := 14) 1 g dX11_order_14 rfl ?_
    refine r_callSi (pc := 15) (st := []) g hX dX11_order_15 (m_X11_isKind x1 μ2 _ h) kb_RX11_169 k_585 rfl rfl rfl rfl (fun u3 μ4 h => ?_)
    refine r_if_eq (pc := 18) 28 g dX11_order_18 rfl (fun q => ?_) (fun q => ?_)
    · have h := h.1 q
      refine r_sub [] (lv' := []) rfl ?_
      exact v_X11_order_28 g hX post hR μ4 h
    · have h := h.2 q
      refine r_iload_n (pc := 21) 3 g dX11_order_21 rfl ?_
      refine r_callSi (pc := 22) (st := []) g hX dX11_order_22 (m_X11_isLane x3 μ4 _ h) kb_RX11_102 k_469 rfl rfl rfl rfl (fun u5 μ6 h => ?_)
      refine r_if_ne (pc := 25) 31 g dX11_order_25 rfl (fun q => ?_) (fun q => ?_)
      · have h := h.1 q
        refine r_aload_n (pc := 31) 0 g dX11_order_31 rfl ?_
        refine r_getr (pc := 32) (μ := μ6) g dX11_order_32 fa_RX11_14 shX_out sX_0 rfl ?_
        refine r_iload_n (pc := 35) 2 g dX11_order_35 rfl ?_
        refine r_iload_n (pc := 36) 3 g dX11_order_36 rfl ?_
        refine r_iload (pc := 37) 4 g dX11_order_37 rfl ?_
        refine r_iload (pc := 39) 5 g dX11_order_39 rfl ?_
        refine r_callVi (pc := 41) (st := []) g hX dX11_order_41 (m_X7_cellsFault x2 x3 x4 x5 μ6 _ h) kb_RX11_105 kv_X7_cellsFault shX_out sX_1 rfl rfl rfl rfl (fun u7 μ8 h => ?_)
        refine r_istore (pc := 44) (lv' := [(6, .int u7), (0, .ref (w.1 0)), (1, .int x1), (2, .int x2), (3, .int x3), (4, .int x4), (5, .int x5)]) g dX11_order_44 rfl rfl ?_
        refine r_iload (pc := 46) 0 g dX11_order_46 rfl ?_
        refine r_if_eq (pc := 48) 58 g dX11_order_48 rfl (fun q => ?_) (fun q => ?_)
        · have h := h.1 q
          refine r_iload (pc := 58) 6 g dX11_order_58 rfl ?_
          refine r_if_eq (pc := 60) 75 g dX11_order_60 rfl (fun q => ?_) (fun q => ?_)
          · have h := h.1 q
            refine r_sub [] (lv' := []) rfl ?_
            exact v_X11_order_75 g hX post hR μ8 h
          · have h := h.2 q
            refine r_iload (pc := 63) 6 g dX11_order_63 rfl ?_
            refine r_aload_n (pc := 65) 1 g dX11_order_65 rfl ?_
            refine r_getr (pc := 66) (μ := μ8) g dX11_order_66 fa_RX11_28 shX_out sX_0 rfl ?_
            refine r_geti (pc := 69) (μ := μ8) g dX11_order_69 fa_RX11_128 shX_out sX_13 rfl ?_
            refine r_icmp_eq (pc := 72) 78 g dX11_order_72 rfl (fun q => ?_) (fun q => ?_)
            · have h := h.1 q
              refine r_aload_n (pc := 78) 1 g dX11_order_78 rfl ?_
              refine r_getr (pc := 79) (μ := μ8) g dX11_order_79 fa_RX11_14 shX_out sX_0 rfl ?_
              refine r_getr (pc := 82) (μ := μ8) g dX11_order_82 fa_RX11_113 shX_out sX_1 rfl ?_
              refine r_iload_n (pc := 85) 3 g dX11_order_85 rfl ?_
              obtain ⟨b9, h⟩ := h
              refine r_aaload (pc := 86) (μ := μ8) g dX11_order_86 (by decide) sX_2 b9 ?_
              refine r_iload (pc := 87) 5 g dX11_order_87 rfl ?_
              refine r_aload_n (pc := 89) 1 g dX11_order_89 rfl ?_
              refine r_getr (pc := 90) (μ := μ8) g dX11_order_90 fa_RX11_90 shX_out sX_0 rfl ?_
              refine r_iconst (pc := 93) g dX11_order_93 ci_0 ?_
              refine r_iload (pc := 94) 6 g dX11_order_94 rfl ?_
              obtain ⟨b10, h⟩ := h
              refine r_copy (pc := 96) (μ := μ8) g dX11_order_96 kc_RX11_172 shX_out (shX_rows5 b9) sX_57 ⟨rfl, rfl⟩ b10 ?_
              refine r_aload_n (pc := 99) 1 g dX11_order_99 rfl ?_
              refine r_iload_n (pc := 100) 2 g dX11_order_100 rfl ?_
              refine r_callVi (pc := 101) (st := []) g hX dX11_order_101 (m_X11_refusalOfSpare x1 (mput μ8 57 (va_cpy (μ8 (5 + x2.toNatClampNeg)) (μ8 57) x4.toNatClampNeg (0 : Int32).toNatClampNeg x5.toNatClampNeg)) _ h) kb_RX11_178 kv_X11_refusalOfSpare shX_out sX_0 rfl rfl rfl rfl (fun u11 μ12 h => ?_)
              refine r_istore (pc := 104) (lv' := [(7, .int u11), (6, .int u7), (0, .ref (w.1 0)), (1, .int x1), (2, .int x2), (3, .int x3), (4, .int x4), (5, .int x5)]) g dX11_order_104 rfl rfl ?_
              refine r_iload (pc := 106) 0 g dX11_order_106 rfl ?_
              refine r_if_eq (pc := 108) 116 g dX11_order_108 rfl (fun q => ?_) (fun q => ?_)
              · have h := h.1 q
                refine r_aload_n (pc := 116) 2 g dX11_order_116 rfl ?_
                refine r_getr (pc := 117) (μ := μ12) g dX11_order_117 fa_RX11_35 shX_out sX_0 rfl ?_
                refine r_iload_n (pc := 120) 3 g dX11_order_120 rfl ?_
                refine r_aload_n (pc := 121) 2 g dX11_order_121 rfl ?_
                refine r_getr (pc := 122) (μ := μ12) g dX11_order_122 fa_RX11_90 shX_out sX_0 rfl ?_
                refine r_callVi (pc := 125) (st := []) g hX dX11_order_125 (m_X3_add 57 x1 μ12 _ h) kb_RX11_181 kv_X3_add shX_out sX_22 rfl rfl rfl rfl (fun u13 μ14 h => ?_)
                exact r_ireti (pc := 128) g hR dX11_order_128 h
              · have h := h.2 q
                refine r_iload (pc := 111) 0 g dX11_order_111 rfl ?_
                refine r_goto (pc := 113) 128 g dX11_order_113 rfl ?_
                exact r_ireti (pc := 128) g hR dX11_order_128 h
            · have h := h.2 q
              refine r_sub [] (lv' := []) rfl ?_
              exact v_X11_order_75 g hX post hR μ8 h
        · have h := h.2 q
          refine r_aload_n (pc := 51) 1 g dX11_order_51 rfl ?_
          refine r_iload (pc := 52) 0 g dX11_order_52 rfl ?_
          refine r_callVi (pc := 54) (st := []) g hX dX11_order_54 (m_X11_faulted u7 μ8 _ h) kb_RX11_109 kv_X11_faulted shX_out sX_0 rfl rfl rfl rfl (fun u15 μ16 h => ?_)
          exact r_ireti (pc := 57) g hR dX11_order_57 h
      · have h := h.2 q
        refine r_sub [] (lv' := []) rfl ?_
        exact v_X11_order_28 g hX post hR μ6 h
  · have h := h.2 q
    refine r_iconst (pc := 12) g dX11_order_12 ci_m1 ?_
    exact r_ireti (pc := 13) g hR dX11_order_13 h
abbrev rm_X11_atPlace : Room := { frames := 1, cells := 0, slots := 0, locals := 21 }
def T_X11_atPlace_28 (post : Int32 → Mem → Prop) (μ : Mem) : Prop :=
  post (-2) μ
theorem v_X11_atPlace_28 {X : Cx} {w : Wd} {l : Launch} {D : va_G} {A : Nat → Prop} (g : Gd X w RX11 cX11_atPlace 5 rm_X11_atPlace) (hX : atX X l D A) (post : Int32 → Mem → Prop) (hR : Rt X w shX 58 (some .int) (pI post)) (μ : Mem) (h : T_X11_atPlace_28 post μ) : V X 28 [] [] (wls w shX 58 μ) := by
  refine r_bipush (pc := 28) g dX11_atPlace_28 cb_m2 ?_
  exact r_ireti (pc := 30) g hR dX11_atPlace_30 h
def T_X11_atPlace (x1 : Int32) (x2 : Int32) (μ : Mem) (post : Int32 → Mem → Prop) : Prop :=
  (((x2 - x2 / 10 * 10) < 0 → T_X11_atPlace_28 post μ) ∧ (¬ (x2 - x2 / 10 * 10) < 0 → (((x2 - x2 / 10 * 10) < (μ 13 4) → (((x2 / 10) = 1 → vp_in x1 8 ∧ vp_in (x2 - x2 / 10 * 10) 9 ∧ post (μ (25 + x1.toNatClampNeg) (x2 - x2 / 10 * 10).toNatClampNeg) μ) ∧ ((x2 / 10) = 2 → vp_in (x2 - x2 / 10 * 10) 9 ∧ post (μ 34 (x2 - x2 / 10 * 10).toNatClampNeg) μ) ∧ ((x2 / 10) = 3 → vp_in (x2 - x2 / 10 * 10) 9 ∧ T_X5_sum 16 (μ 34 (x2 - x2 / 10 * 10).toNatClampNeg) μ (fun (u6 : Int32) (μ7 : Mem) => post u6 μ7)) ∧ (¬ (x2 / 10) = 1 → ¬ (x2 / 10) = 2 → ¬ (x2 / 10) = 3 → post (-2) μ))) ∧ (¬ (x2 - x2 / 10 * 10) < (μ 13 4) → T_X11_atPlace_28 post μ))))
theorem m_X11_atPlace {w : Wd} {l : Launch} {D : va_G} {A : Nat → Prop} (x1 : Int32) (x2 : Int32) (μ : Mem) (post : Int32 → Mem → Prop) (h : T_X11_atPlace x1 x2 μ post) : MetX l D A w shX 58 yX11_atPlace cX11_atPlace 5 (some .int) rm_X11_atPlace [.ref (w.1 0), .int x1, .int x2] μ (pI post) := by
  refine metX_of (by decide) rfl (lv := [(0, .ref (w.1 0)), (1, .int x1), (2, .int x2)]) rfl (fun X hX g hR => ?_)
  refine r_iload_n (pc := 0) 2 g dX11_atPlace_0 rfl ?_
  refine r_bipush (pc := 1) g dX11_atPlace_1 cb_10 ?_
  refine r_idiv (pc := 3) g dX11_atPlace_3 (by decide) ?_
  refine r_istore_n (pc := 4) (lv' := [(3, .int (x2 / 10)), (0, .ref (w.1 0)), (1, .int x1), (2, .int x2)]) g dX11_atPlace_4 rfl rfl ?_
  refine r_iload_n (pc := 5) 3 g dX11_atPlace_5 rfl ?_
  refine r_bipush (pc := 6) g dX11_atPlace_6 cb_10 ?_
  refine r_irem (pc := 8) g dX11_atPlace_8 (by decide) ?_
  refine r_istore (pc := 9) (lv' := [(4, .int (x2 - x2 / 10 * 10)), (3, .int (x2 / 10)), (0, .ref (w.1 0)), (1, .int x1), (2, .int x2)]) g dX11_atPlace_9 rfl rfl ?_
  refine r_iload (pc := 11) 0 g dX11_atPlace_11 rfl ?_
  refine r_if_lt (pc := 13) 28 g dX11_atPlace_13 rfl (fun q => ?_) (fun q => ?_)
  · have h := h.1 q
    refine r_sub [] (lv' := []) rfl ?_
    exact v_X11_atPlace_28 g hX post hR μ h
  · have h := h.2 q
    refine r_iload (pc := 16) 0 g dX11_atPlace_16 rfl ?_
    refine r_aload_n (pc := 18) 2 g dX11_atPlace_18 rfl ?_
    refine r_getr (pc := 19) (μ := μ) g dX11_atPlace_19 fa_RX11_28 shX_out sX_0 rfl ?_
    refine r_geti (pc := 22) (μ := μ) g dX11_atPlace_22 fa_RX11_128 shX_out sX_13 rfl ?_
    refine r_icmp_lt (pc := 25) 31 g dX11_atPlace_25 rfl (fun q => ?_) (fun q => ?_)
    · have h := h.1 q
      refine r_iload_n (pc := 31) 1 g dX11_atPlace_31 rfl ?_
      have hs1 := h
      by_cases c0 : (x2 / 10) = 1
      · have h := hs1.1 c0
        refine r_tswK (pc := 32) 1 60 g dX11_atPlace_32 c0 ⟨by decide, by decide, rfl, rfl⟩ ?_
        refine r_aload_n (pc := 60) 2 g dX11_atPlace_60 rfl ?_
        refine r_getr (pc := 61) (μ := μ) g dX11_atPlace_61 fa_RX11_35 shX_out sX_0 rfl ?_
        refine r_getr (pc := 64) (μ := μ) g dX11_atPlace_64 fa_RX11_197 shX_out sX_22 rfl ?_
        refine r_iload_n (pc := 67) 3 g dX11_atPlace_67 rfl ?_
        obtain ⟨b2, h⟩ := h
        refine r_aaload (pc := 68) (μ := μ) g dX11_atPlace_68 (by decide) sX_23 b2 ?_
        refine r_iload (pc := 69) 0 g dX11_atPlace_69 rfl ?_
        obtain ⟨b3, h⟩ := h
        refine r_iaload (pc := 71) (μ := μ) g dX11_atPlace_71 shX_out (shX_rows25 b2) b3 ?_
        exact r_ireti (pc := 72) g hR dX11_atPlace_72 h
      by_cases c1 : (x2 / 10) = 2
      · have h := hs1.2.1 c1
        refine r_tswK (pc := 32) 2 73 g dX11_atPlace_32 c1 ⟨by decide, by decide, rfl, rfl⟩ ?_
        refine r_aload_n (pc := 73) 2 g dX11_atPlace_73 rfl ?_
        refine r_getr (pc := 74) (μ := μ) g dX11_atPlace_74 fa_RX11_44 shX_out sX_0 rfl ?_
        refine r_getr (pc := 77) (μ := μ) g dX11_atPlace_77 fa_RX11_212 shX_out sX_33 rfl ?_
        refine r_iload (pc := 80) 0 g dX11_atPlace_80 rfl ?_
        obtain ⟨b4, h⟩ := h
        refine r_iaload (pc := 82) (μ := μ) g dX11_atPlace_82 shX_out sX_34 b4 ?_
        exact r_ireti (pc := 83) g hR dX11_atPlace_83 h
      by_cases c2 : (x2 / 10) = 3
      · have h := hs1.2.2.1 c2
        refine r_tswK (pc := 32) 3 84 g dX11_atPlace_32 c2 ⟨by decide, by decide, rfl, rfl⟩ ?_
        refine r_aload_n (pc := 84) 2 g dX11_atPlace_84 rfl ?_
        refine r_getr (pc := 85) (μ := μ) g dX11_atPlace_85 fa_RX11_28 shX_out sX_0 rfl ?_
        refine r_getr (pc := 88) (μ := μ) g dX11_atPlace_88 fa_RX11_215 shX_out sX_13 rfl ?_
        refine r_aload_n (pc := 91) 2 g dX11_atPlace_91 rfl ?_
        refine r_getr (pc := 92) (μ := μ) g dX11_atPlace_92 fa_RX11_44 shX_out sX_0 rfl ?_
        refine r_getr (pc := 95) (μ := μ) g dX11_atPlace_95 fa_RX11_212 shX_out sX_33 rfl ?_
        refine r_iload (pc := 98) 0 g dX11_atPlace_98 rfl ?_
        obtain ⟨b5, h⟩ := h
        refine r_iaload (pc := 100) (μ := μ) g dX11_atPlace_100 shX_out sX_34 b5 ?_
        refine r_callVi (pc := 101) (st := []) g hX dX11_atPlace_101 (m_X5_sum 16 (Or.inl rfl) (μ 34 (x2 - x2 / 10 * 10).toNatClampNeg) μ _ h) kb_RX11_218 kv_X5_sum shX_out (sc_0 (Or.inl rfl)) rfl rfl rfl rfl (fun u6 μ7 h => ?_)
        exact r_ireti (pc := 104) g hR dX11_atPlace_104 h
      have h := hs1.2.2.2 c0 c1 c2
      refine r_tswD (pc := 32) 105 g dX11_atPlace_32 (by have e0 := ne_toInt c0 (w := 1) (by decide); have e1 := ne_toInt c1 (w := 2) (by decide); have e2 := ne_toInt c2 (w := 3) (by decide); omega) rfl ?_
      refine r_bipush (pc := 105) g dX11_atPlace_105 cb_m2 ?_
      exact r_ireti (pc := 107) g hR dX11_atPlace_107 h
    · have h := h.2 q
      refine r_sub [] (lv' := []) rfl ?_
      exact v_X11_atPlace_28 g hX post hR μ h
abbrev rm_X11_ofOrder : Room := { frames := 2, cells := 0, slots := 0, locals := 49 }
def T_X11_ofOrder (x1 : Int32) (x2 : Int32) (μ : Mem) (post : Int32 → Mem → Prop) : Prop :=
  T_X3_has x1 μ (fun (u1 : Int32) (μ2 : Mem) => ((¬ u1 = 0 → vp_in x1 8 ∧ T_X1_measure (25 + x1.toNatClampNeg) μ2 (fun (μ5 : Mem) => ((x2 = 0 → vp_in x1 8 ∧ post (μ5 24 x1.toNatClampNeg) μ5) ∧ (x2 = 1 → post (μ5 33 1) μ5) ∧ (x2 = 2 → post (μ5 33 2) μ5) ∧ (x2 = 3 → (((μ5 33 3) = 0 → post 0 μ5) ∧ (¬ (μ5 33 3) = 0 → post 1 μ5))) ∧ (¬ x2 = 0 → ¬ x2 = 1 → ¬ x2 = 2 → ¬ x2 = 3 → T_X11_atPlace x1 x2 μ5 (fun (u8 : Int32) (μ9 : Mem) => post u8 μ9))))) ∧ (u1 = 0 → post (-1) μ2)))
theorem m_X11_ofOrder {w : Wd} {l : Launch} {D : va_G} {A : Nat → Prop} (x1 : Int32) (x2 : Int32) (μ : Mem) (post : Int32 → Mem → Prop) (h : T_X11_ofOrder x1 x2 μ post) : MetX l D A w shX 58 yX11_ofOrder cX11_ofOrder 3 (some .int) rm_X11_ofOrder [.ref (w.1 0), .int x1, .int x2] μ (pI post) := by
  refine metX_of (by decide) rfl (lv := [(0, .ref (w.1 0)), (1, .int x1), (2, .int x2)]) rfl (fun X hX g hR => ?_)
  refine r_aload_n (pc := 0) 0 g dX11_ofOrder_0 rfl ?_
  refine r_getr (pc := 1) (μ := μ) g dX11_ofOrder_1 fa_RX11_35 shX_out sX_0 rfl ?_
  refine r_iload_n (pc := 4) 1 g dX11_ofOrder_4 rfl ?_
  refine r_callVi (pc := 5) (st := []) g hX dX11_ofOrder_5 (m_X3_has x1 μ _ h) kb_RX11_196 kv_X3_has shX_out sX_22 rfl rfl rfl rfl (fun u1 μ2 h => ?_)
  refine r_if_ne (pc := 8) 13 g dX11_ofOrder_8 rfl (fun q => ?_) (fun q => ?_)
  · have h := h.1 q
    refine r_aload_n (pc := 13) 0 g dX11_ofOrder_13 rfl ?_
    refine r_getr (pc := 14) (μ := μ2) g dX11_ofOrder_14 fa_RX11_44 shX_out sX_0 rfl ?_
    refine r_aload_n (pc := 17) 0 g dX11_ofOrder_17 rfl ?_
    refine r_getr (pc := 18) (μ := μ2) g dX11_ofOrder_18 fa_RX11_35 shX_out sX_0 rfl ?_
    refine r_getr (pc := 21) (μ := μ2) g dX11_ofOrder_21 fa_RX11_197 shX_out sX_22 rfl ?_
    refine r_iload_n (pc := 24) 1 g dX11_ofOrder_24 rfl ?_
    obtain ⟨b3, h⟩ := h
    refine r_aaload (pc := 25) (μ := μ2) g dX11_ofOrder_25 (by decide) sX_23 b3 ?_
    refine r_callVv (pc := 26) (st := []) g hX dX11_ofOrder_26 (m_X1_measure (25 + x1.toNatClampNeg) μ2 _ h) kb_RX11_184 kv_X1_measure shX_out sX_33 rfl rfl rfl rfl (fun μ5 h => ?_)
    refine r_iload_n (pc := 29) 2 g dX11_ofOrder_29 rfl ?_
    have hs6 := h
    by_cases c0 : x2 = 0
    · have h := hs6.1 c0
      refine r_tswK (pc := 30) 0 60 g dX11_ofOrder_30 c0 ⟨by decide, by decide, rfl, rfl⟩ ?_
      refine r_aload_n (pc := 60) 0 g dX11_ofOrder_60 rfl ?_
      refine r_getr (pc := 61) (μ := μ5) g dX11_ofOrder_61 fa_RX11_35 shX_out sX_0 rfl ?_
      refine r_getr (pc := 64) (μ := μ5) g dX11_ofOrder_64 fa_RX11_200 shX_out sX_22 rfl ?_
      refine r_iload_n (pc := 67) 1 g dX11_ofOrder_67 rfl ?_
      obtain ⟨b7, h⟩ := h
      refine r_iaload (pc := 68) (μ := μ5) g dX11_ofOrder_68 shX_out sX_24 b7 ?_
      exact r_ireti (pc := 69) g hR dX11_ofOrder_69 h
    by_cases c1 : x2 = 1
    · have h := hs6.2.1 c1
      refine r_tswK (pc := 30) 1 70 g dX11_ofOrder_30 c1 ⟨by decide, by decide, rfl, rfl⟩ ?_
      refine r_aload_n (pc := 70) 0 g dX11_ofOrder_70 rfl ?_
      refine r_getr (pc := 71) (μ := μ5) g dX11_ofOrder_71 fa_RX11_44 shX_out sX_0 rfl ?_
      refine r_geti (pc := 74) (μ := μ5) g dX11_ofOrder_74 fa_RX11_203 shX_out sX_33 rfl ?_
      exact r_ireti (pc := 77) g hR dX11_ofOrder_77 h
    by_cases c2 : x2 = 2
    · have h := hs6.2.2.1 c2
      refine r_tswK (pc := 30) 2 78 g dX11_ofOrder_30 c2 ⟨by decide, by decide, rfl, rfl⟩ ?_
      refine r_aload_n (pc := 78) 0 g dX11_ofOrder_78 rfl ?_
      refine r_getr (pc := 79) (μ := μ5) g dX11_ofOrder_79 fa_RX11_44 shX_out sX_0 rfl ?_
      refine r_geti (pc := 82) (μ := μ5) g dX11_ofOrder_82 fa_RX11_206 shX_out sX_33 rfl ?_
      exact r_ireti (pc := 85) g hR dX11_ofOrder_85 h
    by_cases c3 : x2 = 3
    · have h := hs6.2.2.2.1 c3
      refine r_tswK (pc := 30) 3 86 g dX11_ofOrder_30 c3 ⟨by decide, by decide, rfl, rfl⟩ ?_
      refine r_aload_n (pc := 86) 0 g dX11_ofOrder_86 rfl ?_
      refine r_getr (pc := 87) (μ := μ5) g dX11_ofOrder_87 fa_RX11_44 shX_out sX_0 rfl ?_
      refine r_geti (pc := 90) (μ := μ5) g dX11_ofOrder_90 fa_RX11_188 shX_out sX_33 rfl ?_
      refine r_if_eq (pc := 93) 100 g dX11_ofOrder_93 rfl (fun q => ?_) (fun q => ?_)
      · have h := h.1 q
        refine r_iconst (pc := 100) g dX11_ofOrder_100 ci_0 ?_
        exact r_ireti (pc := 101) g hR dX11_ofOrder_101 h
      · have h := h.2 q
        refine r_iconst (pc := 96) g dX11_ofOrder_96 ci_1 ?_
        refine r_goto (pc := 97) 101 g dX11_ofOrder_97 rfl ?_
        exact r_ireti (pc := 101) g hR dX11_ofOrder_101 h
    have h := hs6.2.2.2.2 c0 c1 c2 c3
    refine r_tswD (pc := 30) 102 g dX11_ofOrder_30 (by have e0 := ne_toInt c0 (w := 0) (by decide); have e1 := ne_toInt c1 (w := 1) (by decide); have e2 := ne_toInt c2 (w := 2) (by decide); have e3 := ne_toInt c3 (w := 3) (by decide); omega) rfl ?_
    refine r_aload_n (pc := 102) 0 g dX11_ofOrder_102 rfl ?_
    refine r_iload_n (pc := 103) 1 g dX11_ofOrder_103 rfl ?_
    refine r_iload_n (pc := 104) 2 g dX11_ofOrder_104 rfl ?_
    refine r_callVi (pc := 105) (st := []) g hX dX11_ofOrder_105 (m_X11_atPlace x1 x2 μ5 _ h) kb_RX11_209 kv_X11_atPlace shX_out sX_0 rfl rfl rfl rfl (fun u8 μ9 h => ?_)
    exact r_ireti (pc := 108) g hR dX11_ofOrder_108 h
  · have h := h.2 q
    refine r_iconst (pc := 11) g dX11_ofOrder_11 ci_m1 ?_
    exact r_ireti (pc := 12) g hR dX11_ofOrder_12 h
abbrev rm_X11_best : Room := { frames := 5, cells := 0, slots := 0, locals := 113 }
def T_X11_best_67 (post : Int32 → Mem → Prop) (μ : Mem) : Prop :=
  post (-2) μ
theorem v_X11_best_67 {X : Cx} {w : Wd} {l : Launch} {D : va_G} {A : Nat → Prop} (g : Gd X w RX11 cX11_best 2 rm_X11_best) (hX : atX X l D A) (post : Int32 → Mem → Prop) (hR : Rt X w shX 58 (some .int) (pI post)) (μ : Mem) (h : T_X11_best_67 post μ) : V X 67 [] [] (wls w shX 58 μ) := by
  refine r_bipush (pc := 67) g dX11_best_67 cb_m2 ?_
  exact r_ireti (pc := 69) g hR dX11_best_69 h
def T_X11_best (x1 : Int32) (μ : Mem) (post : Int32 → Mem → Prop) : Prop :=
  ((¬ (μ 13 4) = 0 → T_X6_refresh 35 μ (fun (μ2 : Mem) => ((¬ x1 = 0 → ((¬ x1 = 1 → ((x1 < 10 → T_X11_best_67 post μ2) ∧ (¬ x1 < 10 → (((x1 - 10) < (μ2 13 4) → T_X6_workAt 35 (x1 - 10) μ2 (fun (u3 : Int32) (μ4 : Mem) => post u3 μ4)) ∧ (¬ (x1 - 10) < (μ2 13 4) → T_X11_best_67 post μ2))))) ∧ (x1 = 1 → T_X6_longFrom 35 0 μ2 (fun (u5 : Int32) (μ6 : Mem) => post u5 μ6)))) ∧ (x1 = 0 → T_X6_leastFrom 35 0 μ2 (fun (u7 : Int32) (μ8 : Mem) => post u7 μ8))))) ∧ ((μ 13 4) = 0 → post (-3) μ))
theorem m_X11_best {w : Wd} {l : Launch} {D : va_G} {A : Nat → Prop} (x1 : Int32) (μ : Mem) (post : Int32 → Mem → Prop) (h : T_X11_best x1 μ post) : MetX l D A w shX 58 yX11_best cX11_best 2 (some .int) rm_X11_best [.ref (w.1 0), .int x1] μ (pI post) := by
  refine metX_of (by decide) rfl (lv := [(0, .ref (w.1 0)), (1, .int x1)]) rfl (fun X hX g hR => ?_)
  refine r_aload_n (pc := 0) 0 g dX11_best_0 rfl ?_
  refine r_getr (pc := 1) (μ := μ) g dX11_best_1 fa_RX11_28 shX_out sX_0 rfl ?_
  refine r_geti (pc := 4) (μ := μ) g dX11_best_4 fa_RX11_128 shX_out sX_13 rfl ?_
  refine r_if_ne (pc := 7) 13 g dX11_best_7 rfl (fun q => ?_) (fun q => ?_)
  · have h := h.1 q
    refine r_aload_n (pc := 13) 0 g dX11_best_13 rfl ?_
    refine r_getr (pc := 14) (μ := μ) g dX11_best_14 fa_RX11_51 shX_out sX_0 rfl ?_
    refine r_callVv (pc := 17) (st := []) g hX dX11_best_17 (m_X6_refresh 35 (Or.inl rfl) μ _ h) kb_RX11_221 kv_X6_refresh shX_out (sr_0 (Or.inl rfl)) rfl rfl rfl rfl (fun μ2 h => ?_)
    refine r_iload_n (pc := 20) 1 g dX11_best_20 rfl ?_
    refine r_if_ne (pc := 21) 33 g dX11_best_21 rfl (fun q => ?_) (fun q => ?_)
    · have h := h.1 q
      refine r_iload_n (pc := 33) 1 g dX11_best_33 rfl ?_
      refine r_iconst (pc := 34) g dX11_best_34 ci_1 ?_
      refine r_icmp_ne (pc := 35) 47 g dX11_best_35 rfl (fun q => ?_) (fun q => ?_)
      · have h := h.1 q
        refine r_iload_n (pc := 47) 1 g dX11_best_47 rfl ?_
        refine r_bipush (pc := 48) g dX11_best_48 cb_10 ?_
        refine r_icmp_lt (pc := 50) 67 g dX11_best_50 rfl (fun q => ?_) (fun q => ?_)
        · have h := h.1 q
          refine r_sub [] (lv' := []) rfl ?_
          exact v_X11_best_67 g hX post hR μ2 h
        · have h := h.2 q
          refine r_iload_n (pc := 53) 1 g dX11_best_53 rfl ?_
          refine r_bipush (pc := 54) g dX11_best_54 cb_10 ?_
          refine r_isub (pc := 56) g dX11_best_56 ?_
          refine r_aload_n (pc := 57) 0 g dX11_best_57 rfl ?_
          refine r_getr (pc := 58) (μ := μ2) g dX11_best_58 fa_RX11_28 shX_out sX_0 rfl ?_
          refine r_geti (pc := 61) (μ := μ2) g dX11_best_61 fa_RX11_128 shX_out sX_13 rfl ?_
          refine r_icmp_lt (pc := 64) 70 g dX11_best_64 rfl (fun q => ?_) (fun q => ?_)
          · have h := h.1 q
            refine r_aload_n (pc := 70) 0 g dX11_best_70 rfl ?_
            refine r_getr (pc := 71) (μ := μ2) g dX11_best_71 fa_RX11_51 shX_out sX_0 rfl ?_
            refine r_iload_n (pc := 74) 1 g dX11_best_74 rfl ?_
            refine r_bipush (pc := 75) g dX11_best_75 cb_10 ?_
            refine r_isub (pc := 77) g dX11_best_77 ?_
            refine r_callVi (pc := 78) (st := []) g hX dX11_best_78 (m_X6_workAt 35 (Or.inl rfl) (x1 - 10) μ2 _ h) kb_RX11_230 kv_X6_workAt shX_out (sr_0 (Or.inl rfl)) rfl rfl rfl rfl (fun u3 μ4 h => ?_)
            exact r_ireti (pc := 81) g hR dX11_best_81 h
          · have h := h.2 q
            refine r_sub [] (lv' := []) rfl ?_
            exact v_X11_best_67 g hX post hR μ2 h
      · have h := h.2 q
        refine r_aload_n (pc := 38) 0 g dX11_best_38 rfl ?_
        refine r_getr (pc := 39) (μ := μ2) g dX11_best_39 fa_RX11_51 shX_out sX_0 rfl ?_
        refine r_iconst (pc := 42) g dX11_best_42 ci_0 ?_
        refine r_callVi (pc := 43) (st := []) g hX dX11_best_43 (m_X6_longFrom 35 (Or.inl rfl) 0 μ2 _ h) kb_RX11_227 kv_X6_longFrom shX_out (sr_0 (Or.inl rfl)) rfl rfl rfl rfl (fun u5 μ6 h => ?_)
        exact r_ireti (pc := 46) g hR dX11_best_46 h
    · have h := h.2 q
      refine r_aload_n (pc := 24) 0 g dX11_best_24 rfl ?_
      refine r_getr (pc := 25) (μ := μ2) g dX11_best_25 fa_RX11_51 shX_out sX_0 rfl ?_
      refine r_iconst (pc := 28) g dX11_best_28 ci_0 ?_
      refine r_callVi (pc := 29) (st := []) g hX dX11_best_29 (m_X6_leastFrom 35 (Or.inl rfl) 0 μ2 _ h) kb_RX11_224 kv_X6_leastFrom shX_out (sr_0 (Or.inl rfl)) rfl rfl rfl rfl (fun u7 μ8 h => ?_)
      exact r_ireti (pc := 32) g hR dX11_best_32 h
  · have h := h.2 q
    refine r_bipush (pc := 10) g dX11_best_10 cb_m3 ?_
    exact r_ireti (pc := 12) g hR dX11_best_12 h
abbrev rm_X11_from : Room := { frames := 5, cells := 0, slots := 0, locals := 110 }
def T_X11_from_37 (post : Int32 → Mem → Prop) (μ : Mem) : Prop :=
  post (-2) μ
theorem v_X11_from_37 {X : Cx} {w : Wd} {l : Launch} {D : va_G} {A : Nat → Prop} (g : Gd X w RX11 cX11_from 5 rm_X11_from) (hX : atX X l D A) (post : Int32 → Mem → Prop) (hR : Rt X w shX 58 (some .int) (pI post)) (μ : Mem) (h : T_X11_from_37 post μ) : V X 37 [] [] (wls w shX 58 μ) := by
  refine r_bipush (pc := 37) g dX11_from_37 cb_m2 ?_
  exact r_ireti (pc := 39) g hR dX11_from_39 h
def T_X11_from (x1 : Int32) (x2 : Int32) (x3 : Int32) (μ : Mem) (post : Int32 → Mem → Prop) : Prop :=
  T_X3_has x1 μ (fun (u1 : Int32) (μ2 : Mem) => ((¬ u1 = 0 → ((x2 < 0 → T_X11_from_37 post μ2) ∧ (¬ x2 < 0 → (((μ2 13 4) < x2 → T_X11_from_37 post μ2) ∧ (¬ (μ2 13 4) < x2 → ((x3 < 0 → T_X11_from_37 post μ2) ∧ (¬ x3 < 0 → ((x3 ≤ 2 → T_X3_setOfFirst x1 x2 μ2 (fun (u3 : Int32) (μ4 : Mem) => T_X10_isClosed u3 μ4 (fun (u5 : Int32) (μ6 : Mem) => ((¬ u5 = 0 → T_X6_refresh 35 μ6 (fun (μ8 : Mem) => ((¬ x3 = 0 → ((¬ x3 = 1 → T_X6_nextFrom 35 u3 μ8 (fun (u9 : Int32) (μ10 : Mem) => post u9 μ10)) ∧ (x3 = 1 → T_X6_longFrom 35 u3 μ8 (fun (u11 : Int32) (μ12 : Mem) => post u11 μ12)))) ∧ (x3 = 0 → T_X6_leastFrom 35 u3 μ8 (fun (u13 : Int32) (μ14 : Mem) => post u13 μ14))))) ∧ (u5 = 0 → post (-3) μ6))))) ∧ (¬ x3 ≤ 2 → T_X11_from_37 post μ2))))))))) ∧ (u1 = 0 → post (-1) μ2)))
theorem m_X11_from {w : Wd} {l : Launch} {D : va_G} {A : Nat → Prop} (x1 : Int32) (x2 : Int32) (x3 : Int32) (μ : Mem) (post : Int32 → Mem → Prop) (h : T_X11_from x1 x2 x3 μ post) : MetX l D A w shX 58 yX11_from cX11_from 5 (some .int) rm_X11_from [.ref (w.1 0), .int x1, .int x2, .int x3] μ (pI post) := by
  refine metX_of (by decide) rfl (lv := [(0, .ref (w.1 0)), (1, .int x1), (2, .int x2), (3, .int x3)]) rfl (fun X hX g hR => ?_)
  refine r_aload_n (pc := 0) 0 g dX11_from_0 rfl ?_
  refine r_getr (pc := 1) (μ := μ) g dX11_from_1 fa_RX11_35 shX_out sX_0 rfl ?_
  refine r_iload_n (pc := 4) 1 g dX11_from_4 rfl ?_
  refine r_callVi (pc := 5) (st := []) g hX dX11_from_5 (m_X3_has x1 μ _ h) kb_RX11_196 kv_X3_has shX_out sX_22 rfl rfl rfl rfl (fun u1 μ2 h => ?_)
  refine r_if_ne (pc := 8) 13 g dX11_from_8 rfl (fun q => ?_) (fun q => ?_)
  · have h := h.1 q
    refine r_iload_n (pc := 13) 2 g dX11_from_13 rfl ?_
    refine r_if_lt (pc := 14) 37 g dX11_from_14 rfl (fun q => ?_) (fun q => ?_)
    · have h := h.1 q
      refine r_sub [] (lv' := []) rfl ?_
      exact v_X11_from_37 g hX post hR μ2 h
    · have h := h.2 q
      refine r_iload_n (pc := 17) 2 g dX11_from_17 rfl ?_
      refine r_aload_n (pc := 18) 0 g dX11_from_18 rfl ?_
      refine r_getr (pc := 19) (μ := μ2) g dX11_from_19 fa_RX11_28 shX_out sX_0 rfl ?_
      refine r_geti (pc := 22) (μ := μ2) g dX11_from_22 fa_RX11_128 shX_out sX_13 rfl ?_
      refine r_icmp_gt (pc := 25) 37 g dX11_from_25 rfl (fun q => ?_) (fun q => ?_)
      · have h := h.1 q
        refine r_sub [] (lv' := []) rfl ?_
        exact v_X11_from_37 g hX post hR μ2 h
      · have h := h.2 q
        refine r_iload_n (pc := 28) 3 g dX11_from_28 rfl ?_
        refine r_if_lt (pc := 29) 37 g dX11_from_29 rfl (fun q => ?_) (fun q => ?_)
        · have h := h.1 q
          refine r_sub [] (lv' := []) rfl ?_
          exact v_X11_from_37 g hX post hR μ2 h
        · have h := h.2 q
          refine r_iload_n (pc := 32) 3 g dX11_from_32 rfl ?_
          refine r_iconst (pc := 33) g dX11_from_33 ci_2 ?_
          refine r_icmp_le (pc := 34) 40 g dX11_from_34 rfl (fun q => ?_) (fun q => ?_)
          · have h := h.1 q
            refine r_aload_n (pc := 40) 0 g dX11_from_40 rfl ?_
            refine r_getr (pc := 41) (μ := μ2) g dX11_from_41 fa_RX11_35 shX_out sX_0 rfl ?_
            refine r_iload_n (pc := 44) 1 g dX11_from_44 rfl ?_
            refine r_iload_n (pc := 45) 2 g dX11_from_45 rfl ?_
            refine r_callVi (pc := 46) (st := []) g hX dX11_from_46 (m_X3_setOfFirst x1 x2 μ2 _ h) kb_RX11_233 kv_X3_setOfFirst shX_out sX_22 rfl rfl rfl rfl (fun u3 μ4 h => ?_)
            refine r_istore (pc := 49) (lv' := [(4, .int u3), (0, .ref (w.1 0)), (1, .int x1), (2, .int x2), (3, .int x3)]) g dX11_from_49 rfl rfl ?_
            refine r_aload_n (pc := 51) 1 g dX11_from_51 rfl ?_
            refine r_getr (pc := 52) (μ := μ4) g dX11_from_52 fa_RX11_28 shX_out sX_0 rfl ?_
            refine r_iload (pc := 55) 0 g dX11_from_55 rfl ?_
            refine r_callVi (pc := 57) (st := []) g hX dX11_from_57 (m_X10_isClosed u3 μ4 _ h) kb_RX11_236 kv_X10_isClosed shX_out sX_13 rfl rfl rfl rfl (fun u5 μ6 h => ?_)
            refine r_if_ne (pc := 60) 66 g dX11_from_60 rfl (fun q => ?_) (fun q => ?_)
            · have h := h.1 q
              refine r_aload_n (pc := 66) 1 g dX11_from_66 rfl ?_
              refine r_getr (pc := 67) (μ := μ6) g dX11_from_67 fa_RX11_51 shX_out sX_0 rfl ?_
              refine r_callVv (pc := 70) (st := []) g hX dX11_from_70 (m_X6_refresh 35 (Or.inl rfl) μ6 _ h) kb_RX11_221 kv_X6_refresh shX_out (sr_0 (Or.inl rfl)) rfl rfl rfl rfl (fun μ8 h => ?_)
              refine r_iload_n (pc := 73) 4 g dX11_from_73 rfl ?_
              refine r_if_ne (pc := 74) 87 g dX11_from_74 rfl (fun q => ?_) (fun q => ?_)
              · have h := h.1 q
                refine r_iload_n (pc := 87) 4 g dX11_from_87 rfl ?_
                refine r_iconst (pc := 88) g dX11_from_88 ci_1 ?_
                refine r_icmp_ne (pc := 89) 104 g dX11_from_89 rfl (fun q => ?_) (fun q => ?_)
                · have h := h.1 q
                  refine r_aload_n (pc := 104) 1 g dX11_from_104 rfl ?_
                  refine r_getr (pc := 105) (μ := μ8) g dX11_from_105 fa_RX11_51 shX_out sX_0 rfl ?_
                  refine r_iload (pc := 108) 0 g dX11_from_108 rfl ?_
                  refine r_callVi (pc := 110) (st := []) g hX dX11_from_110 (m_X6_nextFrom 35 (Or.inl rfl) u3 μ8 _ h) kb_RX11_239 kv_X6_nextFrom shX_out (sr_0 (Or.inl rfl)) rfl rfl rfl rfl (fun u9 μ10 h => ?_)
                  exact r_ireti (pc := 113) g hR dX11_from_113 h
                · have h := h.2 q
                  refine r_aload_n (pc := 92) 1 g dX11_from_92 rfl ?_
                  refine r_getr (pc := 93) (μ := μ8) g dX11_from_93 fa_RX11_51 shX_out sX_0 rfl ?_
                  refine r_iload (pc := 96) 0 g dX11_from_96 rfl ?_
                  refine r_callVi (pc := 98) (st := []) g hX dX11_from_98 (m_X6_longFrom 35 (Or.inl rfl) u3 μ8 _ h) kb_RX11_227 kv_X6_longFrom shX_out (sr_0 (Or.inl rfl)) rfl rfl rfl rfl (fun u11 μ12 h => ?_)
                  refine r_goto (pc := 101) 113 g dX11_from_101 rfl ?_
                  exact r_ireti (pc := 113) g hR dX11_from_113 h
              · have h := h.2 q
                refine r_aload_n (pc := 77) 1 g dX11_from_77 rfl ?_
                refine r_getr (pc := 78) (μ := μ8) g dX11_from_78 fa_RX11_51 shX_out sX_0 rfl ?_
                refine r_iload (pc := 81) 0 g dX11_from_81 rfl ?_
                refine r_callVi (pc := 83) (st := []) g hX dX11_from_83 (m_X6_leastFrom 35 (Or.inl rfl) u3 μ8 _ h) kb_RX11_224 kv_X6_leastFrom shX_out (sr_0 (Or.inl rfl)) rfl rfl rfl rfl (fun u13 μ14 h => ?_)
                exact r_ireti (pc := 86) g hR dX11_from_86 h
            · have h := h.2 q
              refine r_bipush (pc := 63) g dX11_from_63 cb_m3 ?_
              exact r_ireti (pc := 65) g hR dX11_from_65 h
          · have h := h.2 q
            refine r_sub [] (lv' := []) rfl ?_
            exact v_X11_from_37 g hX post hR μ2 h
  · have h := h.2 q
    refine r_iconst (pc := 11) g dX11_from_11 ci_m1 ?_
    exact r_ireti (pc := 12) g hR dX11_from_12 h
abbrev rm_X11_better : Room := { frames := 2, cells := 0, slots := 0, locals := 49 }
def T_X11_better (x1 : Int32) (x2 : Int32) (μ : Mem) (post : Int32 → Mem → Prop) : Prop :=
  T_X3_has x1 μ (fun (u1 : Int32) (μ2 : Mem) => ((u1 = 0 → post (-1) μ2) ∧ (¬ u1 = 0 → T_X3_has x2 μ2 (fun (u3 : Int32) (μ4 : Mem) => ((¬ u3 = 0 → vp_in x2 8 ∧ T_X1_measure (25 + x2.toNatClampNeg) μ4 (fun (μ7 : Mem) => vp_in x1 8 ∧ T_X1_measure (25 + x1.toNatClampNeg) μ7 (fun (μ10 : Mem) => vp_in x1 8 ∧ vp_in x2 8 ∧ T_X1_beats (25 + x1.toNatClampNeg) (25 + x2.toNatClampNeg) (μ7 33 1) (μ7 33 2) μ10 (fun (u13 : Int32) (μ14 : Mem) => ((u13 = 0 → post 0 μ14) ∧ (¬ u13 = 0 → post 1 μ14)))))) ∧ (u3 = 0 → post (-1) μ4))))))
theorem m_X11_better {w : Wd} {l : Launch} {D : va_G} {A : Nat → Prop} (x1 : Int32) (x2 : Int32) (μ : Mem) (post : Int32 → Mem → Prop) (h : T_X11_better x1 x2 μ post) : MetX l D A w shX 58 yX11_better cX11_better 5 (some .int) rm_X11_better [.ref (w.1 0), .int x1, .int x2] μ (pI post) := by
  refine metX_of (by decide) rfl (lv := [(0, .ref (w.1 0)), (1, .int x1), (2, .int x2)]) rfl (fun X hX g hR => ?_)
  refine r_aload_n (pc := 0) 0 g dX11_better_0 rfl ?_
  refine r_getr (pc := 1) (μ := μ) g dX11_better_1 fa_RX11_35 shX_out sX_0 rfl ?_
  refine r_iload_n (pc := 4) 1 g dX11_better_4 rfl ?_
  refine r_callVi (pc := 5) (st := []) g hX dX11_better_5 (m_X3_has x1 μ _ h) kb_RX11_196 kv_X3_has shX_out sX_22 rfl rfl rfl rfl (fun u1 μ2 h => ?_)
  refine r_if_eq (pc := 8) 22 g dX11_better_8 rfl (fun q => ?_) (fun q => ?_)
  · have h := h.1 q
    refine r_iconst (pc := 22) g dX11_better_22 ci_m1 ?_
    exact r_ireti (pc := 23) g hR dX11_better_23 h
  · have h := h.2 q
    refine r_aload_n (pc := 11) 0 g dX11_better_11 rfl ?_
    refine r_getr (pc := 12) (μ := μ2) g dX11_better_12 fa_RX11_35 shX_out sX_0 rfl ?_
    refine r_iload_n (pc := 15) 2 g dX11_better_15 rfl ?_
    refine r_callVi (pc := 16) (st := []) g hX dX11_better_16 (m_X3_has x2 μ2 _ h) kb_RX11_196 kv_X3_has shX_out sX_22 rfl rfl rfl rfl (fun u3 μ4 h => ?_)
    refine r_if_ne (pc := 19) 24 g dX11_better_19 rfl (fun q => ?_) (fun q => ?_)
    · have h := h.1 q
      refine r_aload_n (pc := 24) 0 g dX11_better_24 rfl ?_
      refine r_getr (pc := 25) (μ := μ4) g dX11_better_25 fa_RX11_44 shX_out sX_0 rfl ?_
      refine r_aload_n (pc := 28) 0 g dX11_better_28 rfl ?_
      refine r_getr (pc := 29) (μ := μ4) g dX11_better_29 fa_RX11_35 shX_out sX_0 rfl ?_
      refine r_getr (pc := 32) (μ := μ4) g dX11_better_32 fa_RX11_197 shX_out sX_22 rfl ?_
      refine r_iload_n (pc := 35) 2 g dX11_better_35 rfl ?_
      obtain ⟨b5, h⟩ := h
      refine r_aaload (pc := 36) (μ := μ4) g dX11_better_36 (by decide) sX_23 b5 ?_
      refine r_callVv (pc := 37) (st := []) g hX dX11_better_37 (m_X1_measure (25 + x2.toNatClampNeg) μ4 _ h) kb_RX11_184 kv_X1_measure shX_out sX_33 rfl rfl rfl rfl (fun μ7 h => ?_)
      refine r_aload_n (pc := 40) 0 g dX11_better_40 rfl ?_
      refine r_getr (pc := 41) (μ := μ7) g dX11_better_41 fa_RX11_44 shX_out sX_0 rfl ?_
      refine r_geti (pc := 44) (μ := μ7) g dX11_better_44 fa_RX11_203 shX_out sX_33 rfl ?_
      refine r_istore_n (pc := 47) (lv' := [(3, .int (μ7 33 1)), (0, .ref (w.1 0)), (1, .int x1), (2, .int x2)]) g dX11_better_47 rfl rfl ?_
      refine r_aload_n (pc := 48) 1 g dX11_better_48 rfl ?_
      refine r_getr (pc := 49) (μ := μ7) g dX11_better_49 fa_RX11_44 shX_out sX_0 rfl ?_
      refine r_geti (pc := 52) (μ := μ7) g dX11_better_52 fa_RX11_206 shX_out sX_33 rfl ?_
      refine r_istore (pc := 55) (lv' := [(4, .int (μ7 33 2)), (3, .int (μ7 33 1)), (0, .ref (w.1 0)), (1, .int x1), (2, .int x2)]) g dX11_better_55 rfl rfl ?_
      refine r_aload_n (pc := 57) 2 g dX11_better_57 rfl ?_
      refine r_getr (pc := 58) (μ := μ7) g dX11_better_58 fa_RX11_44 shX_out sX_0 rfl ?_
      refine r_aload_n (pc := 61) 2 g dX11_better_61 rfl ?_
      refine r_getr (pc := 62) (μ := μ7) g dX11_better_62 fa_RX11_35 shX_out sX_0 rfl ?_
      refine r_getr (pc := 65) (μ := μ7) g dX11_better_65 fa_RX11_197 shX_out sX_22 rfl ?_
      refine r_iload_n (pc := 68) 3 g dX11_better_68 rfl ?_
      obtain ⟨b8, h⟩ := h
      refine r_aaload (pc := 69) (μ := μ7) g dX11_better_69 (by decide) sX_23 b8 ?_
      refine r_callVv (pc := 70) (st := []) g hX dX11_better_70 (m_X1_measure (25 + x1.toNatClampNeg) μ7 _ h) kb_RX11_184 kv_X1_measure shX_out sX_33 rfl rfl rfl rfl (fun μ10 h => ?_)
      refine r_aload_n (pc := 73) 2 g dX11_better_73 rfl ?_
      refine r_getr (pc := 74) (μ := μ10) g dX11_better_74 fa_RX11_44 shX_out sX_0 rfl ?_
      refine r_iload_n (pc := 77) 1 g dX11_better_77 rfl ?_
      refine r_iload (pc := 78) 0 g dX11_better_78 rfl ?_
      refine r_aload_n (pc := 80) 2 g dX11_better_80 rfl ?_
      refine r_getr (pc := 81) (μ := μ10) g dX11_better_81 fa_RX11_35 shX_out sX_0 rfl ?_
      refine r_getr (pc := 84) (μ := μ10) g dX11_better_84 fa_RX11_197 shX_out sX_22 rfl ?_
      refine r_iload_n (pc := 87) 3 g dX11_better_87 rfl ?_
      obtain ⟨b11, h⟩ := h
      refine r_aaload (pc := 88) (μ := μ10) g dX11_better_88 (by decide) sX_23 b11 ?_
      refine r_aload_n (pc := 89) 2 g dX11_better_89 rfl ?_
      refine r_getr (pc := 90) (μ := μ10) g dX11_better_90 fa_RX11_35 shX_out sX_0 rfl ?_
      refine r_getr (pc := 93) (μ := μ10) g dX11_better_93 fa_RX11_197 shX_out sX_22 rfl ?_
      refine r_iload_n (pc := 96) 4 g dX11_better_96 rfl ?_
      obtain ⟨b12, h⟩ := h
      refine r_aaload (pc := 97) (μ := μ10) g dX11_better_97 (by decide) sX_23 b12 ?_
      refine r_callVi (pc := 98) (st := []) g hX dX11_better_98 (m_X1_beats (25 + x1.toNatClampNeg) (25 + x2.toNatClampNeg) (μ7 33 1) (μ7 33 2) μ10 _ h) kb_RX11_242 kv_X1_beats shX_out sX_33 rfl rfl rfl rfl (fun u13 μ14 h => ?_)
      refine r_if_eq (pc := 101) 108 g dX11_better_101 rfl (fun q => ?_) (fun q => ?_)
      · have h := h.1 q
        refine r_iconst (pc := 108) g dX11_better_108 ci_0 ?_
        exact r_ireti (pc := 109) g hR dX11_better_109 h
      · have h := h.2 q
        refine r_iconst (pc := 104) g dX11_better_104 ci_1 ?_
        refine r_goto (pc := 105) 109 g dX11_better_105 rfl ?_
        exact r_ireti (pc := 109) g hR dX11_better_109 h
    · have h := h.2 q
      refine r_iconst (pc := 22) g dX11_better_22 ci_m1 ?_
      exact r_ireti (pc := 23) g hR dX11_better_23 h
abbrev rm_X11_cross : Room := { frames := 3, cells := 0, slots := 0, locals := 67 }
def T_X11_cross_15 (post : Int32 → Mem → Prop) (μ : Mem) : Prop :=
  post (-2) μ
theorem v_X11_cross_15 {X : Cx} {w : Wd} {l : Launch} {D : va_G} {A : Nat → Prop} (g : Gd X w RX11 cX11_cross 2 rm_X11_cross) (hX : atX X l D A) (post : Int32 → Mem → Prop) (hR : Rt X w shX 58 (some .int) (pI post)) (μ : Mem) (h : T_X11_cross_15 post μ) : V X 15 [] [] (wls w shX 58 μ) := by
  refine r_bipush (pc := 15) g dX11_cross_15 cb_m2 ?_
  exact r_ireti (pc := 17) g hR dX11_cross_17 h
def T_X11_cross (x1 : Int32) (μ : Mem) (post : Int32 → Mem → Prop) : Prop :=
  ((x1 < 0 → T_X11_cross_15 post μ) ∧ (¬ x1 < 0 → ((x1 ≤ (μ 13 4) → T_X0_refresh μ (fun (μ2 : Mem) => vp_in x1 10 ∧ post (μ2 48 x1.toNatClampNeg) μ2)) ∧ (¬ x1 ≤ (μ 13 4) → T_X11_cross_15 post μ))))
theorem m_X11_cross {w : Wd} {l : Launch} {D : va_G} {A : Nat → Prop} (x1 : Int32) (μ : Mem) (post : Int32 → Mem → Prop) (h : T_X11_cross x1 μ post) : MetX l D A w shX 58 yX11_cross cX11_cross 2 (some .int) rm_X11_cross [.ref (w.1 0), .int x1] μ (pI post) := by
  refine metX_of (by decide) rfl (lv := [(0, .ref (w.1 0)), (1, .int x1)]) rfl (fun X hX g hR => ?_)
  refine r_iload_n (pc := 0) 1 g dX11_cross_0 rfl ?_
  refine r_if_lt (pc := 1) 15 g dX11_cross_1 rfl (fun q => ?_) (fun q => ?_)
  · have h := h.1 q
    refine r_sub [] (lv' := []) rfl ?_
    exact v_X11_cross_15 g hX post hR μ h
  · have h := h.2 q
    refine r_iload_n (pc := 4) 1 g dX11_cross_4 rfl ?_
    refine r_aload_n (pc := 5) 0 g dX11_cross_5 rfl ?_
    refine r_getr (pc := 6) (μ := μ) g dX11_cross_6 fa_RX11_28 shX_out sX_0 rfl ?_
    refine r_geti (pc := 9) (μ := μ) g dX11_cross_9 fa_RX11_128 shX_out sX_13 rfl ?_
    refine r_icmp_le (pc := 12) 18 g dX11_cross_12 rfl (fun q => ?_) (fun q => ?_)
    · have h := h.1 q
      refine r_aload_n (pc := 18) 0 g dX11_cross_18 rfl ?_
      refine r_getr (pc := 19) (μ := μ) g dX11_cross_19 fa_RX11_61 shX_out sX_0 rfl ?_
      refine r_callVv (pc := 22) (st := []) g hX dX11_cross_22 (m_X0_refresh μ _ h) kb_RX11_246 kv_X0_refresh shX_out sX_47 rfl rfl rfl rfl (fun μ2 h => ?_)
      refine r_aload_n (pc := 25) 0 g dX11_cross_25 rfl ?_
      refine r_getr (pc := 26) (μ := μ2) g dX11_cross_26 fa_RX11_61 shX_out sX_0 rfl ?_
      refine r_getr (pc := 29) (μ := μ2) g dX11_cross_29 fa_RX11_247 shX_out sX_47 rfl ?_
      refine r_iload_n (pc := 32) 1 g dX11_cross_32 rfl ?_
      obtain ⟨b3, h⟩ := h
      refine r_iaload (pc := 33) (μ := μ2) g dX11_cross_33 shX_out sX_48 b3 ?_
      exact r_ireti (pc := 34) g hR dX11_cross_34 h
    · have h := h.2 q
      refine r_sub [] (lv' := []) rfl ?_
      exact v_X11_cross_15 g hX post hR μ h
abbrev rm_X11_knot : Room := { frames := 3, cells := 0, slots := 0, locals := 67 }
def T_X11_knot_9 (post : Int32 → Mem → Prop) (μ : Mem) : Prop :=
  post (-2) μ
theorem v_X11_knot_9 {X : Cx} {w : Wd} {l : Launch} {D : va_G} {A : Nat → Prop} (g : Gd X w RX11 cX11_knot 2 rm_X11_knot) (hX : atX X l D A) (post : Int32 → Mem → Prop) (hR : Rt X w shX 58 (some .int) (pI post)) (μ : Mem) (h : T_X11_knot_9 post μ) : V X 9 [] [] (wls w shX 58 μ) := by
  refine r_bipush (pc := 9) g dX11_knot_9 cb_m2 ?_
  exact r_ireti (pc := 11) g hR dX11_knot_11 h
def T_X11_knot (x1 : Int32) (μ : Mem) (post : Int32 → Mem → Prop) : Prop :=
  ((x1 < 0 → T_X11_knot_9 post μ) ∧ (¬ x1 < 0 → ((x1 ≤ 1 → T_X0_refresh μ (fun (μ2 : Mem) => ((¬ x1 = 0 → post (μ2 47 2) μ2) ∧ (x1 = 0 → post (μ2 47 1) μ2)))) ∧ (¬ x1 ≤ 1 → T_X11_knot_9 post μ))))
theorem m_X11_knot {w : Wd} {l : Launch} {D : va_G} {A : Nat → Prop} (x1 : Int32) (μ : Mem) (post : Int32 → Mem → Prop) (h : T_X11_knot x1 μ post) : MetX l D A w shX 58 yX11_knot cX11_knot 2 (some .int) rm_X11_knot [.ref (w.1 0), .int x1] μ (pI post) := by
  refine metX_of (by decide) rfl (lv := [(0, .ref (w.1 0)), (1, .int x1)]) rfl (fun X hX g hR => ?_)
  refine r_iload_n (pc := 0) 1 g dX11_knot_0 rfl ?_
  refine r_if_lt (pc := 1) 9 g dX11_knot_1 rfl (fun q => ?_) (fun q => ?_)
  · have h := h.1 q
    refine r_sub [] (lv' := []) rfl ?_
    exact v_X11_knot_9 g hX post hR μ h
  · have h := h.2 q
    refine r_iload_n (pc := 4) 1 g dX11_knot_4 rfl ?_
    refine r_iconst (pc := 5) g dX11_knot_5 ci_1 ?_
    refine r_icmp_le (pc := 6) 12 g dX11_knot_6 rfl (fun q => ?_) (fun q => ?_)
    · have h := h.1 q
      refine r_aload_n (pc := 12) 0 g dX11_knot_12 rfl ?_
      refine r_getr (pc := 13) (μ := μ) g dX11_knot_13 fa_RX11_61 shX_out sX_0 rfl ?_
      refine r_callVv (pc := 16) (st := []) g hX dX11_knot_16 (m_X0_refresh μ _ h) kb_RX11_246 kv_X0_refresh shX_out sX_47 rfl rfl rfl rfl (fun μ2 h => ?_)
      refine r_iload_n (pc := 19) 1 g dX11_knot_19 rfl ?_
      refine r_if_ne (pc := 20) 33 g dX11_knot_20 rfl (fun q => ?_) (fun q => ?_)
      · have h := h.1 q
        refine r_aload_n (pc := 33) 0 g dX11_knot_33 rfl ?_
        refine r_getr (pc := 34) (μ := μ2) g dX11_knot_34 fa_RX11_61 shX_out sX_0 rfl ?_
        refine r_geti (pc := 37) (μ := μ2) g dX11_knot_37 fa_RX11_253 shX_out sX_47 rfl ?_
        exact r_ireti (pc := 40) g hR dX11_knot_40 h
      · have h := h.2 q
        refine r_aload_n (pc := 23) 0 g dX11_knot_23 rfl ?_
        refine r_getr (pc := 24) (μ := μ2) g dX11_knot_24 fa_RX11_61 shX_out sX_0 rfl ?_
        refine r_geti (pc := 27) (μ := μ2) g dX11_knot_27 fa_RX11_250 shX_out sX_47 rfl ?_
        refine r_goto (pc := 30) 40 g dX11_knot_30 rfl ?_
        exact r_ireti (pc := 40) g hR dX11_knot_40 h
    · have h := h.2 q
      refine r_sub [] (lv' := []) rfl ?_
      exact v_X11_knot_9 g hX post hR μ h
abbrev rm_X11_bound : Room := { frames := 3, cells := 0, slots := 0, locals := 67 }
def T_X11_bound (μ : Mem) (post : Int32 → Mem → Prop) : Prop :=
  T_X0_refresh μ (fun (μ2 : Mem) => T_X0_greatestCross μ2 (fun (u3 : Int32) (μ4 : Mem) => T_X10_greatestNeed μ4 (fun (u5 : Int32) (μ6 : Mem) => post (if u3 < (if u5 < (μ6 47 2) then (μ6 47 2) else u5) then (if u5 < (μ6 47 2) then (μ6 47 2) else u5) else u3) μ6)))
theorem m_X11_bound {w : Wd} {l : Launch} {D : va_G} {A : Nat → Prop} (μ : Mem) (post : Int32 → Mem → Prop) (h : T_X11_bound μ post) : MetX l D A w shX 58 yX11_bound cX11_bound 1 (some .int) rm_X11_bound [.ref (w.1 0)] μ (pI post) := by
  refine metX_of (by decide) rfl (lv := [(0, .ref (w.1 0))]) rfl (fun X hX g hR => ?_)
  refine r_aload_n (pc := 0) 0 g dX11_bound_0 rfl ?_
  refine r_getr (pc := 1) (μ := μ) g dX11_bound_1 fa_RX11_61 shX_out sX_0 rfl ?_
  refine r_callVv (pc := 4) (st := []) g hX dX11_bound_4 (m_X0_refresh μ _ h) kb_RX11_246 kv_X0_refresh shX_out sX_47 rfl rfl rfl rfl (fun μ2 h => ?_)
  refine r_aload_n (pc := 7) 0 g dX11_bound_7 rfl ?_
  refine r_getr (pc := 8) (μ := μ2) g dX11_bound_8 fa_RX11_61 shX_out sX_0 rfl ?_
  refine r_callVi (pc := 11) (st := []) g hX dX11_bound_11 (m_X0_greatestCross μ2 _ h) kb_RX11_256 kv_X0_greatestCross shX_out sX_47 rfl rfl rfl rfl (fun u3 μ4 h => ?_)
  refine r_aload_n (pc := 14) 0 g dX11_bound_14 rfl ?_
  refine r_getr (pc := 15) (μ := μ4) g dX11_bound_15 fa_RX11_28 shX_out sX_0 rfl ?_
  refine r_callVi (pc := 18) (st := [.int u3]) g hX dX11_bound_18 (m_X10_greatestNeed μ4 _ h) kb_RX11_259 kv_X10_greatestNeed shX_out sX_13 rfl rfl rfl rfl (fun u5 μ6 h => ?_)
  refine r_aload_n (pc := 21) 0 g dX11_bound_21 rfl ?_
  refine r_getr (pc := 22) (μ := μ6) g dX11_bound_22 fa_RX11_61 shX_out sX_0 rfl ?_
  refine r_geti (pc := 25) (μ := μ6) g dX11_bound_25 fa_RX11_253 shX_out sX_47 rfl ?_
  refine r_max (pc := 28) g dX11_bound_28 kj_RX11_262 ⟨rfl, rfl⟩ ?_
  refine r_max (pc := 31) g dX11_bound_31 kj_RX11_262 ⟨rfl, rfl⟩ ?_
  exact r_ireti (pc := 34) g hR dX11_bound_34 h
abbrev rm_X11_part : Room := { frames := 3, cells := 0, slots := 0, locals := 68 }
def T_X11_part (x1 : Int32) (μ : Mem) (post : Int32 → Mem → Prop) : Prop :=
  ((¬ x1 = (-1) → T_X10_has x1 μ (fun (u1 : Int32) (μ2 : Mem) => ((u1 = 0 → post (-1) μ2) ∧ (¬ u1 = 0 → T_X0_leastOfPart x1 μ2 (fun (u3 : Int32) (μ4 : Mem) => post u3 μ4))))) ∧ (x1 = (-1) → T_X0_countParts μ (fun (u5 : Int32) (μ6 : Mem) => post u5 μ6)))
theorem m_X11_part {w : Wd} {l : Launch} {D : va_G} {A : Nat → Prop} (x1 : Int32) (μ : Mem) (post : Int32 → Mem → Prop) (h : T_X11_part x1 μ post) : MetX l D A w shX 58 yX11_part cX11_part 2 (some .int) rm_X11_part [.ref (w.1 0), .int x1] μ (pI post) := by
  refine metX_of (by decide) rfl (lv := [(0, .ref (w.1 0)), (1, .int x1)]) rfl (fun X hX g hR => ?_)
  refine r_iload_n (pc := 0) 1 g dX11_part_0 rfl ?_
  refine r_iconst (pc := 1) g dX11_part_1 ci_m1 ?_
  refine r_icmp_ne (pc := 2) 13 g dX11_part_2 rfl (fun q => ?_) (fun q => ?_)
  · have h := h.1 q
    refine r_aload_n (pc := 13) 0 g dX11_part_13 rfl ?_
    refine r_getr (pc := 14) (μ := μ) g dX11_part_14 fa_RX11_28 shX_out sX_0 rfl ?_
    refine r_iload_n (pc := 17) 1 g dX11_part_17 rfl ?_
    refine r_callVi (pc := 18) (st := []) g hX dX11_part_18 (m_X10_has x1 μ _ h) kb_RX11_137 kv_X10_has shX_out sX_13 rfl rfl rfl rfl (fun u1 μ2 h => ?_)
    refine r_if_eq (pc := 21) 35 g dX11_part_21 rfl (fun q => ?_) (fun q => ?_)
    · have h := h.1 q
      refine r_iconst (pc := 35) g dX11_part_35 ci_m1 ?_
      exact r_ireti (pc := 36) g hR dX11_part_36 h
    · have h := h.2 q
      refine r_aload_n (pc := 24) 0 g dX11_part_24 rfl ?_
      refine r_getr (pc := 25) (μ := μ2) g dX11_part_25 fa_RX11_61 shX_out sX_0 rfl ?_
      refine r_iload_n (pc := 28) 1 g dX11_part_28 rfl ?_
      refine r_callVi (pc := 29) (st := []) g hX dX11_part_29 (m_X0_leastOfPart x1 μ2 _ h) kb_RX11_270 kv_X0_leastOfPart shX_out sX_47 rfl rfl rfl rfl (fun u3 μ4 h => ?_)
      refine r_goto (pc := 32) 36 g dX11_part_32 rfl ?_
      exact r_ireti (pc := 36) g hR dX11_part_36 h
  · have h := h.2 q
    refine r_aload_n (pc := 5) 0 g dX11_part_5 rfl ?_
    refine r_getr (pc := 6) (μ := μ) g dX11_part_6 fa_RX11_61 shX_out sX_0 rfl ?_
    refine r_callVi (pc := 9) (st := []) g hX dX11_part_9 (m_X0_countParts μ _ h) kb_RX11_267 kv_X0_countParts shX_out sX_47 rfl rfl rfl rfl (fun u5 μ6 h => ?_)
    exact r_ireti (pc := 12) g hR dX11_part_12 h
abbrev rm_X11_within : Room := { frames := 2, cells := 0, slots := 0, locals := 45 }
def T_X11_within (μ : Mem) (post : Int32 → Mem → Prop) : Prop :=
  T_X0_allWithin μ (fun (u1 : Int32) (μ2 : Mem) => post u1 μ2)
theorem m_X11_within {w : Wd} {l : Launch} {D : va_G} {A : Nat → Prop} (μ : Mem) (post : Int32 → Mem → Prop) (h : T_X11_within μ post) : MetX l D A w shX 58 yX11_within cX11_within 1 (some .int) rm_X11_within [.ref (w.1 0)] μ (pI post) := by
  refine metX_of (by decide) rfl (lv := [(0, .ref (w.1 0))]) rfl (fun X hX g hR => ?_)
  refine r_aload_n (pc := 0) 0 g dX11_within_0 rfl ?_
  refine r_getr (pc := 1) (μ := μ) g dX11_within_1 fa_RX11_61 shX_out sX_0 rfl ?_
  refine r_callVi (pc := 4) (st := []) g hX dX11_within_4 (m_X0_allWithin μ _ h) kb_RX11_273 kv_X0_allWithin shX_out sX_47 rfl rfl rfl rfl (fun u1 μ2 h => ?_)
  exact r_ireti (pc := 7) g hR dX11_within_7 h
abbrev rm_X11_build : Room := { frames := 3, cells := 0, slots := 0, locals := 77 }
def T_X11_build_20 (post : Int32 → Mem → Prop) (μ : Mem) : Prop :=
  post (-2) μ
theorem v_X11_build_20 {X : Cx} {w : Wd} {l : Launch} {D : va_G} {A : Nat → Prop} (g : Gd X w RX11 cX11_build 5 rm_X11_build) (hX : atX X l D A) (post : Int32 → Mem → Prop) (hR : Rt X w shX 58 (some .int) (pI post)) (μ : Mem) (h : T_X11_build_20 post μ) : V X 20 [] [] (wls w shX 58 μ) := by
  refine r_bipush (pc := 20) g dX11_build_20 cb_m2 ?_
  exact r_ireti (pc := 22) g hR dX11_build_22 h
def B_X11_build_54 (post : Int32 → Mem → Prop) (P54 : Int32 → Int32 → Int32 → Int32 → Mem → Prop) (x1 : Int32) (x2 : Int32) (x3 : Int32) (x4 : Int32) (μ : Mem) : Prop :=
  (((μ 13 4) ≤ x4 → T_X3_add 57 1 μ (fun (u1 : Int32) (μ2 : Mem) => post u1 μ2)) ∧ (¬ (μ 13 4) ≤ x4 → T_X10_choose x1 x2 x3 μ (fun (u3 : Int32) (μ4 : Mem) => vp_in x4 9 ∧ vp_in x4 9 ∧ P54 x1 x2 (x3 ||| ((1 : Int32) <<< (((mset μ4 57 x4.toNatClampNeg u3) 57 x4.toNatClampNeg) &&& 31))) (x4 + 1) (mset μ4 57 x4.toNatClampNeg u3))))
def T_X11_build_54 (post : Int32 → Mem → Prop) (x1 : Int32) (x2 : Int32) (x3 : Int32) (x4 : Int32) (μ : Mem) : Prop :=
  ∀ P54 : Int32 → Int32 → Int32 → Int32 → Mem → Prop, (∀ (x1 : Int32) (x2 : Int32) (x3 : Int32) (x4 : Int32) (μ : Mem), B_X11_build_54 post P54 x1 x2 x3 x4 μ → P54 x1 x2 x3 x4 μ) → P54 x1 x2 x3 x4 μ
theorem bv_X11_build_54 {X : Cx} {w : Wd} {l : Launch} {D : va_G} {A : Nat → Prop} (g : Gd X w RX11 cX11_build 5 rm_X11_build) (hX : atX X l D A) (post : Int32 → Mem → Prop) (hR : Rt X w shX 58 (some .int) (pI post)) (P54 : Int32 → Int32 → Int32 → Int32 → Mem → Prop) (hP54 : ∀ (x1 : Int32) (x2 : Int32) (x3 : Int32) (x4 : Int32) (μ : Mem), P54 x1 x2 x3 x4 μ → V X 54 [(0, .ref (w.1 0)), (1, .int x1), (2, .int x2), (3, .int x3), (4, .int x4)] [] (wls w shX 58 μ)) (x1 : Int32) (x2 : Int32) (x3 : Int32) (x4 : Int32) (μ : Mem) (h : B_X11_build_54 post P54 x1 x2 x3 x4 μ) : V X 54 [(0, .ref (w.1 0)), (1, .int x1), (2, .int x2), (3, .int x3), (4, .int x4)] [] (wls w shX 58 μ) := by
  refine r_iload (pc := 54) 4 g dX11_build_54 rfl ?_
  refine r_aload_n (pc := 56) 0 g dX11_build_56 rfl ?_
  refine r_getr (pc := 57) (μ := μ) g dX11_build_57 fa_RX11_28 shX_out sX_0 rfl ?_
  refine r_geti (pc := 60) (μ := μ) g dX11_build_60 fa_RX11_128 shX_out sX_13 rfl ?_
  refine r_icmp_ge (pc := 63) 101 g dX11_build_63 rfl (fun q => ?_) (fun q => ?_)
  · have h := h.1 q
    refine r_aload_n (pc := 101) 0 g dX11_build_101 rfl ?_
    refine r_getr (pc := 102) (μ := μ) g dX11_build_102 fa_RX11_35 shX_out sX_0 rfl ?_
    refine r_iconst (pc := 105) g dX11_build_105 ci_1 ?_
    refine r_aload_n (pc := 106) 0 g dX11_build_106 rfl ?_
    refine r_getr (pc := 107) (μ := μ) g dX11_build_107 fa_RX11_90 shX_out sX_0 rfl ?_
    refine r_callVi (pc := 110) (st := []) g hX dX11_build_110 (m_X3_add 57 1 μ _ h) kb_RX11_181 kv_X3_add shX_out sX_22 rfl rfl rfl rfl (fun u1 μ2 h => ?_)
    exact r_ireti (pc := 113) g hR dX11_build_113 h
  · have h := h.2 q
    refine r_aload_n (pc := 66) 0 g dX11_build_66 rfl ?_
    refine r_getr (pc := 67) (μ := μ) g dX11_build_67 fa_RX11_90 shX_out sX_0 rfl ?_
    refine r_iload (pc := 70) 4 g dX11_build_70 rfl ?_
    refine r_aload_n (pc := 72) 0 g dX11_build_72 rfl ?_
    refine r_getr (pc := 73) (μ := μ) g dX11_build_73 fa_RX11_28 shX_out sX_0 rfl ?_
    refine r_iload_n (pc := 76) 1 g dX11_build_76 rfl ?_
    refine r_iload_n (pc := 77) 2 g dX11_build_77 rfl ?_
    refine r_iload_n (pc := 78) 3 g dX11_build_78 rfl ?_
    refine r_callVi (pc := 79) (st := [.int x4, .ref (w.1 57)]) g hX dX11_build_79 (m_X10_choose x1 x2 x3 μ _ h) kb_RX11_276 kv_X10_choose shX_out sX_13 rfl rfl rfl rfl (fun u3 μ4 h => ?_)
    obtain ⟨b5, h⟩ := h
    refine r_iastore (pc := 82) (μ := μ4) g dX11_build_82 shX_out sX_57 b5 ?_
    refine r_iload_n (pc := 83) 3 g dX11_build_83 rfl ?_
    refine r_iconst (pc := 84) g dX11_build_84 ci_1 ?_
    refine r_aload_n (pc := 85) 0 g dX11_build_85 rfl ?_
    refine r_getr (pc := 86) (μ := mset μ4 57 x4.toNatClampNeg u3) g dX11_build_86 fa_RX11_90 shX_out sX_0 rfl ?_
    refine r_iload (pc := 89) 4 g dX11_build_89 rfl ?_
    obtain ⟨b6, h⟩ := h
    refine r_iaload (pc := 91) (μ := mset μ4 57 x4.toNatClampNeg u3) g dX11_build_91 shX_out sX_57 b6 ?_
    refine r_ishl (pc := 92) g dX11_build_92 ?_
    refine r_ior (pc := 93) g dX11_build_93 ?_
    refine r_istore_n (pc := 94) (lv' := [(3, .int (x3 ||| ((1 : Int32) <<< (((mset μ4 57 x4.toNatClampNeg u3) 57 x4.toNatClampNeg) &&& 31)))), (0, .ref (w.1 0)), (1, .int x1), (2, .int x2), (4, .int x4)]) g dX11_build_94 rfl rfl ?_
    refine r_iinc (pc := 95) (lv' := [(4, .int (x4 + 1)), (3, .int (x3 ||| ((1 : Int32) <<< (((mset μ4 57 x4.toNatClampNeg u3) 57 x4.toNatClampNeg) &&& 31)))), (0, .ref (w.1 0)), (1, .int x1), (2, .int x2)]) 4 g dX11_build_95 rfl ci_1 rfl rfl ?_
    refine r_goto (pc := 98) 54 g dX11_build_98 rfl ?_
    refine r_sub [2, 3, 4, 1, 0] (lv' := [(0, .ref (w.1 0)), (1, .int x1), (2, .int x2), (3, .int (x3 ||| ((1 : Int32) <<< (((mset μ4 57 x4.toNatClampNeg u3) 57 x4.toNatClampNeg) &&& 31)))), (4, .int (x4 + 1))]) rfl ?_
    exact hP54 x1 x2 (x3 ||| ((1 : Int32) <<< (((mset μ4 57 x4.toNatClampNeg u3) 57 x4.toNatClampNeg) &&& 31))) (x4 + 1) (mset μ4 57 x4.toNatClampNeg u3) h
theorem v_X11_build_54 {X : Cx} {w : Wd} {l : Launch} {D : va_G} {A : Nat → Prop} (g : Gd X w RX11 cX11_build 5 rm_X11_build) (hX : atX X l D A) (post : Int32 → Mem → Prop) (hR : Rt X w shX 58 (some .int) (pI post)) (x1 : Int32) (x2 : Int32) (x3 : Int32) (x4 : Int32) (μ : Mem) (h : T_X11_build_54 post x1 x2 x3 x4 μ) : V X 54 [(0, .ref (w.1 0)), (1, .int x1), (2, .int x2), (3, .int x3), (4, .int x4)] [] (wls w shX 58 μ) :=
  h (fun x1 x2 x3 x4 μ => V X 54 [(0, .ref (w.1 0)), (1, .int x1), (2, .int x2), (3, .int x3), (4, .int x4)] [] (wls w shX 58 μ)) (fun x1 x2 x3 x4 μ h => bv_X11_build_54 g hX post hR (fun x1 x2 x3 x4 μ => V X 54 [(0, .ref (w.1 0)), (1, .int x1), (2, .int x2), (3, .int x3), (4, .int x4)] [] (wls w shX 58 μ)) (fun _ _ _ _ _ h => h) x1 x2 x3 x4 μ h)
def T_X11_build (x1 : Int32) (x2 : Int32) (μ : Mem) (post : Int32 → Mem → Prop) : Prop :=
  ((x1 < 0 → T_X11_build_20 post μ) ∧ (¬ x1 < 0 → ((2 < x1 → T_X11_build_20 post μ) ∧ (¬ 2 < x1 → ((x2 < 1 → T_X11_build_20 post μ) ∧ (¬ x2 < 1 → ((x2 ≤ 9 → ((¬ (μ 13 4) = 0 → T_X3_isFull μ (fun (u1 : Int32) (μ2 : Mem) => ((u1 = 0 → T_X11_build_54 post x1 x2 0 0 μ2) ∧ (¬ u1 = 0 → post (-4) μ2)))) ∧ ((μ 13 4) = 0 → post (-3) μ))) ∧ (¬ x2 ≤ 9 → T_X11_build_20 post μ))))))))
theorem m_X11_build {w : Wd} {l : Launch} {D : va_G} {A : Nat → Prop} (x1 : Int32) (x2 : Int32) (μ : Mem) (post : Int32 → Mem → Prop) (h : T_X11_build x1 x2 μ post) : MetX l D A w shX 58 yX11_build cX11_build 5 (some .int) rm_X11_build [.ref (w.1 0), .int x1, .int x2] μ (pI post) := by
  refine metX_of (by decide) rfl (lv := [(0, .ref (w.1 0)), (1, .int x1), (2, .int x2)]) rfl (fun X hX g hR => ?_)
  refine r_iload_n (pc := 0) 1 g dX11_build_0 rfl ?_
  refine r_if_lt (pc := 1) 20 g dX11_build_1 rfl (fun q => ?_) (fun q => ?_)
  · have h := h.1 q
    refine r_sub [] (lv' := []) rfl ?_
    exact v_X11_build_20 g hX post hR μ h
  · have h := h.2 q
    refine r_iload_n (pc := 4) 1 g dX11_build_4 rfl ?_
    refine r_iconst (pc := 5) g dX11_build_5 ci_2 ?_
    refine r_icmp_gt (pc := 6) 20 g dX11_build_6 rfl (fun q => ?_) (fun q => ?_)
    · have h := h.1 q
      refine r_sub [] (lv' := []) rfl ?_
      exact v_X11_build_20 g hX post hR μ h
    · have h := h.2 q
      refine r_iload_n (pc := 9) 2 g dX11_build_9 rfl ?_
      refine r_iconst (pc := 10) g dX11_build_10 ci_1 ?_
      refine r_icmp_lt (pc := 11) 20 g dX11_build_11 rfl (fun q => ?_) (fun q => ?_)
      · have h := h.1 q
        refine r_sub [] (lv' := []) rfl ?_
        exact v_X11_build_20 g hX post hR μ h
      · have h := h.2 q
        refine r_iload_n (pc := 14) 2 g dX11_build_14 rfl ?_
        refine r_bipush (pc := 15) g dX11_build_15 cb_9 ?_
        refine r_icmp_le (pc := 17) 23 g dX11_build_17 rfl (fun q => ?_) (fun q => ?_)
        · have h := h.1 q
          refine r_aload_n (pc := 23) 0 g dX11_build_23 rfl ?_
          refine r_getr (pc := 24) (μ := μ) g dX11_build_24 fa_RX11_28 shX_out sX_0 rfl ?_
          refine r_geti (pc := 27) (μ := μ) g dX11_build_27 fa_RX11_128 shX_out sX_13 rfl ?_
          refine r_if_ne (pc := 30) 36 g dX11_build_30 rfl (fun q => ?_) (fun q => ?_)
          · have h := h.1 q
            refine r_aload_n (pc := 36) 0 g dX11_build_36 rfl ?_
            refine r_getr (pc := 37) (μ := μ) g dX11_build_37 fa_RX11_35 shX_out sX_0 rfl ?_
            refine r_callVi (pc := 40) (st := []) g hX dX11_build_40 (m_X3_isFull μ _ h) kb_RX11_192 kv_X3_isFull shX_out sX_22 rfl rfl rfl rfl (fun u1 μ2 h => ?_)
            refine r_if_eq (pc := 43) 49 g dX11_build_43 rfl (fun q => ?_) (fun q => ?_)
            · have h := h.1 q
              refine r_iconst (pc := 49) g dX11_build_49 ci_0 ?_
              refine r_istore_n (pc := 50) (lv' := [(3, .int 0), (0, .ref (w.1 0)), (1, .int x1), (2, .int x2)]) g dX11_build_50 rfl rfl ?_
              refine r_iconst (pc := 51) g dX11_build_51 ci_0 ?_
              refine r_istore (pc := 52) (lv' := [(4, .int 0), (3, .int 0), (0, .ref (w.1 0)), (1, .int x1), (2, .int x2)]) g dX11_build_52 rfl rfl ?_
              refine r_sub [2, 3, 4, 1, 0] (lv' := [(0, .ref (w.1 0)), (1, .int x1), (2, .int x2), (3, .int 0), (4, .int 0)]) rfl ?_
              exact v_X11_build_54 g hX post hR x1 x2 0 0 μ2 h
            · have h := h.2 q
              refine r_bipush (pc := 46) g dX11_build_46 cb_m4 ?_
              exact r_ireti (pc := 48) g hR dX11_build_48 h
          · have h := h.2 q
            refine r_bipush (pc := 33) g dX11_build_33 cb_m3 ?_
            exact r_ireti (pc := 35) g hR dX11_build_35 h
        · have h := h.2 q
          refine r_sub [] (lv' := []) rfl ?_
          exact v_X11_build_20 g hX post hR μ h
abbrev rm_X11_isLawful : Room := { frames := 2, cells := 0, slots := 0, locals := 49 }
def T_X11_isLawful (x1 : Int32) (μ : Mem) (post : Int32 → Mem → Prop) : Prop :=
  vp_in x1 8 ∧ T_X1_measure (25 + x1.toNatClampNeg) μ (fun (μ3 : Mem) => (((μ3 33 3) = 0 ∨ (μ3 33 3) = 1) ∧ post (μ3 33 3) μ3))
theorem m_X11_isLawful {w : Wd} {l : Launch} {D : va_G} {A : Nat → Prop} (x1 : Int32) (μ : Mem) (post : Int32 → Mem → Prop) (h : T_X11_isLawful x1 μ post) : MetX l D A w shX 58 yX11_isLawful cX11_isLawful 2 (some .boolean) rm_X11_isLawful [.ref (w.1 0), .int x1] μ (pI post) := by
  refine metX_of (by decide) rfl (lv := [(0, .ref (w.1 0)), (1, .int x1)]) rfl (fun X hX g hR => ?_)
  refine r_aload_n (pc := 0) 0 g dX11_isLawful_0 rfl ?_
  refine r_getr (pc := 1) (μ := μ) g dX11_isLawful_1 fa_RX11_44 shX_out sX_0 rfl ?_
  refine r_aload_n (pc := 4) 0 g dX11_isLawful_4 rfl ?_
  refine r_getr (pc := 5) (μ := μ) g dX11_isLawful_5 fa_RX11_35 shX_out sX_0 rfl ?_
  refine r_getr (pc := 8) (μ := μ) g dX11_isLawful_8 fa_RX11_197 shX_out sX_22 rfl ?_
  refine r_iload_n (pc := 11) 1 g dX11_isLawful_11 rfl ?_
  obtain ⟨b1, h⟩ := h
  refine r_aaload (pc := 12) (μ := μ) g dX11_isLawful_12 (by decide) sX_23 b1 ?_
  refine r_callVv (pc := 13) (st := []) g hX dX11_isLawful_13 (m_X1_measure (25 + x1.toNatClampNeg) μ _ h) kb_RX11_184 kv_X1_measure shX_out sX_33 rfl rfl rfl rfl (fun μ3 h => ?_)
  refine r_aload_n (pc := 16) 0 g dX11_isLawful_16 rfl ?_
  refine r_getr (pc := 17) (μ := μ3) g dX11_isLawful_17 fa_RX11_44 shX_out sX_0 rfl ?_
  refine r_geti (pc := 20) (μ := μ3) g dX11_isLawful_20 fa_RX11_188 shX_out sX_33 rfl ?_
  exact r_zreti (pc := 23) g hR dX11_isLawful_23 h.1 h.2
abbrev rm_X11_move : Room := { frames := 5, cells := 0, slots := 0, locals := 115 }
def T_X11_move (x1 : Int32) (μ : Mem) (post : Int32 → Mem → Prop) : Prop :=
  T_X3_has x1 μ (fun (u1 : Int32) (μ2 : Mem) => ((¬ u1 = 0 → T_X11_isLawful x1 μ2 (fun (u3 : Int32) (μ4 : Mem) => ((¬ u3 = 0 → T_X3_isFull μ4 (fun (u5 : Int32) (μ6 : Mem) => ((u5 = 0 → vp_in x1 8 ∧ T_X2_improve (25 + x1.toNatClampNeg) μ6 (fun (u8 : Int32) (μ9 : Mem) => T_X3_add 51 1 μ9 (fun (u10 : Int32) (μ11 : Mem) => post u10 μ11))) ∧ (¬ u5 = 0 → post (-4) μ6)))) ∧ (u3 = 0 → post (-3) μ4)))) ∧ (u1 = 0 → post (-1) μ2)))
theorem m_X11_move {w : Wd} {l : Launch} {D : va_G} {A : Nat → Prop} (x1 : Int32) (μ : Mem) (post : Int32 → Mem → Prop) (h : T_X11_move x1 μ post) : MetX l D A w shX 58 yX11_move cX11_move 2 (some .int) rm_X11_move [.ref (w.1 0), .int x1] μ (pI post) := by
  refine metX_of (by decide) rfl (lv := [(0, .ref (w.1 0)), (1, .int x1)]) rfl (fun X hX g hR => ?_)
  refine r_aload_n (pc := 0) 0 g dX11_move_0 rfl ?_
  refine r_getr (pc := 1) (μ := μ) g dX11_move_1 fa_RX11_35 shX_out sX_0 rfl ?_
  refine r_iload_n (pc := 4) 1 g dX11_move_4 rfl ?_
  refine r_callVi (pc := 5) (st := []) g hX dX11_move_5 (m_X3_has x1 μ _ h) kb_RX11_196 kv_X3_has shX_out sX_22 rfl rfl rfl rfl (fun u1 μ2 h => ?_)
  refine r_if_ne (pc := 8) 13 g dX11_move_8 rfl (fun q => ?_) (fun q => ?_)
  · have h := h.1 q
    refine r_aload_n (pc := 13) 0 g dX11_move_13 rfl ?_
    refine r_iload_n (pc := 14) 1 g dX11_move_14 rfl ?_
    refine r_callVi (pc := 15) (st := []) g hX dX11_move_15 (m_X11_isLawful x1 μ2 _ h) kb_RX11_280 kv_X11_isLawful shX_out sX_0 rfl rfl rfl rfl (fun u3 μ4 h => ?_)
    refine r_if_ne (pc := 18) 24 g dX11_move_18 rfl (fun q => ?_) (fun q => ?_)
    · have h := h.1 q
      refine r_aload_n (pc := 24) 0 g dX11_move_24 rfl ?_
      refine r_getr (pc := 25) (μ := μ4) g dX11_move_25 fa_RX11_35 shX_out sX_0 rfl ?_
      refine r_callVi (pc := 28) (st := []) g hX dX11_move_28 (m_X3_isFull μ4 _ h) kb_RX11_192 kv_X3_isFull shX_out sX_22 rfl rfl rfl rfl (fun u5 μ6 h => ?_)
      refine r_if_eq (pc := 31) 37 g dX11_move_31 rfl (fun q => ?_) (fun q => ?_)
      · have h := h.1 q
        refine r_aload_n (pc := 37) 0 g dX11_move_37 rfl ?_
        refine r_getr (pc := 38) (μ := μ6) g dX11_move_38 fa_RX11_70 shX_out sX_0 rfl ?_
        refine r_aload_n (pc := 41) 0 g dX11_move_41 rfl ?_
        refine r_getr (pc := 42) (μ := μ6) g dX11_move_42 fa_RX11_35 shX_out sX_0 rfl ?_
        refine r_getr (pc := 45) (μ := μ6) g dX11_move_45 fa_RX11_197 shX_out sX_22 rfl ?_
        refine r_iload_n (pc := 48) 1 g dX11_move_48 rfl ?_
        obtain ⟨b7, h⟩ := h
        refine r_aaload (pc := 49) (μ := μ6) g dX11_move_49 (by decide) sX_23 b7 ?_
        refine r_callVi (pc := 50) (st := []) g hX dX11_move_50 (m_X2_improve (25 + x1.toNatClampNeg) μ6 _ h) kb_RX11_283 kv_X2_improve shX_out sX_50 rfl rfl rfl rfl (fun u8 μ9 h => ?_)
        refine r_pop (pc := 53) g dX11_move_53 rfl ?_
        refine r_aload_n (pc := 54) 0 g dX11_move_54 rfl ?_
        refine r_getr (pc := 55) (μ := μ9) g dX11_move_55 fa_RX11_35 shX_out sX_0 rfl ?_
        refine r_iconst (pc := 58) g dX11_move_58 ci_1 ?_
        refine r_aload_n (pc := 59) 0 g dX11_move_59 rfl ?_
        refine r_getr (pc := 60) (μ := μ9) g dX11_move_60 fa_RX11_70 shX_out sX_0 rfl ?_
        refine r_getr (pc := 63) (μ := μ9) g dX11_move_63 fa_RX11_287 shX_out sX_50 rfl ?_
        refine r_callVi (pc := 66) (st := []) g hX dX11_move_66 (m_X3_add 51 1 μ9 _ h) kb_RX11_181 kv_X3_add shX_out sX_22 rfl rfl rfl rfl (fun u10 μ11 h => ?_)
        exact r_ireti (pc := 69) g hR dX11_move_69 h
      · have h := h.2 q
        refine r_bipush (pc := 34) g dX11_move_34 cb_m4 ?_
        exact r_ireti (pc := 36) g hR dX11_move_36 h
    · have h := h.2 q
      refine r_bipush (pc := 21) g dX11_move_21 cb_m3 ?_
      exact r_ireti (pc := 23) g hR dX11_move_23 h
  · have h := h.2 q
    refine r_iconst (pc := 11) g dX11_move_11 ci_m1 ?_
    exact r_ireti (pc := 12) g hR dX11_move_12 h
abbrev rm_X11_moves : Room := { frames := 5, cells := 0, slots := 0, locals := 115 }
def T_X11_moves (x1 : Int32) (μ : Mem) (post : Int32 → Mem → Prop) : Prop :=
  T_X3_has x1 μ (fun (u1 : Int32) (μ2 : Mem) => ((¬ u1 = 0 → T_X11_isLawful x1 μ2 (fun (u3 : Int32) (μ4 : Mem) => ((u3 = 0 → post (-3) μ4) ∧ (¬ u3 = 0 → vp_in x1 8 ∧ T_X2_improve (25 + x1.toNatClampNeg) μ4 (fun (u6 : Int32) (μ7 : Mem) => post u6 μ7))))) ∧ (u1 = 0 → post (-1) μ2)))
theorem m_X11_moves {w : Wd} {l : Launch} {D : va_G} {A : Nat → Prop} (x1 : Int32) (μ : Mem) (post : Int32 → Mem → Prop) (h : T_X11_moves x1 μ post) : MetX l D A w shX 58 yX11_moves cX11_moves 2 (some .int) rm_X11_moves [.ref (w.1 0), .int x1] μ (pI post) := by
  refine metX_of (by decide) rfl (lv := [(0, .ref (w.1 0)), (1, .int x1)]) rfl (fun X hX g hR => ?_)
  refine r_aload_n (pc := 0) 0 g dX11_moves_0 rfl ?_
  refine r_getr (pc := 1) (μ := μ) g dX11_moves_1 fa_RX11_35 shX_out sX_0 rfl ?_
  refine r_iload_n (pc := 4) 1 g dX11_moves_4 rfl ?_
  refine r_callVi (pc := 5) (st := []) g hX dX11_moves_5 (m_X3_has x1 μ _ h) kb_RX11_196 kv_X3_has shX_out sX_22 rfl rfl rfl rfl (fun u1 μ2 h => ?_)
  refine r_if_ne (pc := 8) 13 g dX11_moves_8 rfl (fun q => ?_) (fun q => ?_)
  · have h := h.1 q
    refine r_aload_n (pc := 13) 0 g dX11_moves_13 rfl ?_
    refine r_iload_n (pc := 14) 1 g dX11_moves_14 rfl ?_
    refine r_callVi (pc := 15) (st := []) g hX dX11_moves_15 (m_X11_isLawful x1 μ2 _ h) kb_RX11_280 kv_X11_isLawful shX_out sX_0 rfl rfl rfl rfl (fun u3 μ4 h => ?_)
    refine r_if_eq (pc := 18) 40 g dX11_moves_18 rfl (fun q => ?_) (fun q => ?_)
    · have h := h.1 q
      refine r_bipush (pc := 40) g dX11_moves_40 cb_m3 ?_
      exact r_ireti (pc := 42) g hR dX11_moves_42 h
    · have h := h.2 q
      refine r_aload_n (pc := 21) 0 g dX11_moves_21 rfl ?_
      refine r_getr (pc := 22) (μ := μ4) g dX11_moves_22 fa_RX11_70 shX_out sX_0 rfl ?_
      refine r_aload_n (pc := 25) 0 g dX11_moves_25 rfl ?_
      refine r_getr (pc := 26) (μ := μ4) g dX11_moves_26 fa_RX11_35 shX_out sX_0 rfl ?_
      refine r_getr (pc := 29) (μ := μ4) g dX11_moves_29 fa_RX11_197 shX_out sX_22 rfl ?_
      refine r_iload_n (pc := 32) 1 g dX11_moves_32 rfl ?_
      obtain ⟨b5, h⟩ := h
      refine r_aaload (pc := 33) (μ := μ4) g dX11_moves_33 (by decide) sX_23 b5 ?_
      refine r_callVi (pc := 34) (st := []) g hX dX11_moves_34 (m_X2_improve (25 + x1.toNatClampNeg) μ4 _ h) kb_RX11_283 kv_X2_improve shX_out sX_50 rfl rfl rfl rfl (fun u6 μ7 h => ?_)
      refine r_goto (pc := 37) 42 g dX11_moves_37 rfl ?_
      exact r_ireti (pc := 42) g hR dX11_moves_42 h
  · have h := h.2 q
    refine r_iconst (pc := 11) g dX11_moves_11 ci_m1 ?_
    exact r_ireti (pc := 12) g hR dX11_moves_12 h
abbrev rm_X11_cheapest : Room := { frames := 4, cells := 0, slots := 0, locals := 97 }
def T_X11_cheapest_23 (post : Int32 → Mem → Prop) (μ : Mem) : Prop :=
  post (-2) μ
theorem v_X11_cheapest_23 {X : Cx} {w : Wd} {l : Launch} {D : va_G} {A : Nat → Prop} (g : Gd X w RX11 cX11_cheapest 3 rm_X11_cheapest) (hX : atX X l D A) (post : Int32 → Mem → Prop) (hR : Rt X w shX 58 (some .int) (pI post)) (μ : Mem) (h : T_X11_cheapest_23 post μ) : V X 23 [] [] (wls w shX 58 μ) := by
  refine r_bipush (pc := 23) g dX11_cheapest_23 cb_m2 ?_
  exact r_ireti (pc := 25) g hR dX11_cheapest_25 h
def T_X11_cheapest (x1 : Int32) (x2 : Int32) (μ : Mem) (post : Int32 → Mem → Prop) : Prop :=
  T_X3_has x1 μ (fun (u1 : Int32) (μ2 : Mem) => ((¬ u1 = 0 → ((x2 < 0 → T_X11_cheapest_23 post μ2) ∧ (¬ x2 < 0 → ((x2 ≤ 99 → vp_in x1 8 ∧ T_X1_measure (25 + x1.toNatClampNeg) μ2 (fun (μ5 : Mem) => T_X10_greatestNeed μ5 (fun (u6 : Int32) (μ7 : Mem) => ((u6 ≤ x2 → vp_in x1 8 ∧ T_X4_leastPrice (25 + x1.toNatClampNeg) x2 μ7 (fun (u9 : Int32) (μ10 : Mem) => post u9 μ10)) ∧ (¬ u6 ≤ x2 → post (-9) μ7))))) ∧ (¬ x2 ≤ 99 → T_X11_cheapest_23 post μ2))))) ∧ (u1 = 0 → post (-1) μ2)))
theorem m_X11_cheapest {w : Wd} {l : Launch} {D : va_G} {A : Nat → Prop} (x1 : Int32) (x2 : Int32) (μ : Mem) (post : Int32 → Mem → Prop) (h : T_X11_cheapest x1 x2 μ post) : MetX l D A w shX 58 yX11_cheapest cX11_cheapest 3 (some .int) rm_X11_cheapest [.ref (w.1 0), .int x1, .int x2] μ (pI post) := by
  refine metX_of (by decide) rfl (lv := [(0, .ref (w.1 0)), (1, .int x1), (2, .int x2)]) rfl (fun X hX g hR => ?_)
  refine r_aload_n (pc := 0) 0 g dX11_cheapest_0 rfl ?_
  refine r_getr (pc := 1) (μ := μ) g dX11_cheapest_1 fa_RX11_35 shX_out sX_0 rfl ?_
  refine r_iload_n (pc := 4) 1 g dX11_cheapest_4 rfl ?_
  refine r_callVi (pc := 5) (st := []) g hX dX11_cheapest_5 (m_X3_has x1 μ _ h) kb_RX11_196 kv_X3_has shX_out sX_22 rfl rfl rfl rfl (fun u1 μ2 h => ?_)
  refine r_if_ne (pc := 8) 13 g dX11_cheapest_8 rfl (fun q => ?_) (fun q => ?_)
  · have h := h.1 q
    refine r_iload_n (pc := 13) 2 g dX11_cheapest_13 rfl ?_
    refine r_if_lt (pc := 14) 23 g dX11_cheapest_14 rfl (fun q => ?_) (fun q => ?_)
    · have h := h.1 q
      refine r_sub [] (lv' := []) rfl ?_
      exact v_X11_cheapest_23 g hX post hR μ2 h
    · have h := h.2 q
      refine r_iload_n (pc := 17) 2 g dX11_cheapest_17 rfl ?_
      refine r_bipush (pc := 18) g dX11_cheapest_18 cb_99 ?_
      refine r_icmp_le (pc := 20) 26 g dX11_cheapest_20 rfl (fun q => ?_) (fun q => ?_)
      · have h := h.1 q
        refine r_aload_n (pc := 26) 0 g dX11_cheapest_26 rfl ?_
        refine r_getr (pc := 27) (μ := μ2) g dX11_cheapest_27 fa_RX11_44 shX_out sX_0 rfl ?_
        refine r_aload_n (pc := 30) 0 g dX11_cheapest_30 rfl ?_
        refine r_getr (pc := 31) (μ := μ2) g dX11_cheapest_31 fa_RX11_35 shX_out sX_0 rfl ?_
        refine r_getr (pc := 34) (μ := μ2) g dX11_cheapest_34 fa_RX11_197 shX_out sX_22 rfl ?_
        refine r_iload_n (pc := 37) 1 g dX11_cheapest_37 rfl ?_
        obtain ⟨b3, h⟩ := h
        refine r_aaload (pc := 38) (μ := μ2) g dX11_cheapest_38 (by decide) sX_23 b3 ?_
        refine r_callVv (pc := 39) (st := []) g hX dX11_cheapest_39 (m_X1_measure (25 + x1.toNatClampNeg) μ2 _ h) kb_RX11_184 kv_X1_measure shX_out sX_33 rfl rfl rfl rfl (fun μ5 h => ?_)
        refine r_iload_n (pc := 42) 2 g dX11_cheapest_42 rfl ?_
        refine r_aload_n (pc := 43) 0 g dX11_cheapest_43 rfl ?_
        refine r_getr (pc := 44) (μ := μ5) g dX11_cheapest_44 fa_RX11_28 shX_out sX_0 rfl ?_
        refine r_callVi (pc := 47) (st := [.int x2]) g hX dX11_cheapest_47 (m_X10_greatestNeed μ5 _ h) kb_RX11_259 kv_X10_greatestNeed shX_out sX_13 rfl rfl rfl rfl (fun u6 μ7 h => ?_)
        refine r_icmp_ge (pc := 50) 58 g dX11_cheapest_50 rfl (fun q => ?_) (fun q => ?_)
        · have h := h.1 q
          refine r_aload_n (pc := 58) 0 g dX11_cheapest_58 rfl ?_
          refine r_getr (pc := 59) (μ := μ7) g dX11_cheapest_59 fa_RX11_77 shX_out sX_0 rfl ?_
          refine r_aload_n (pc := 62) 0 g dX11_cheapest_62 rfl ?_
          refine r_getr (pc := 63) (μ := μ7) g dX11_cheapest_63 fa_RX11_35 shX_out sX_0 rfl ?_
          refine r_getr (pc := 66) (μ := μ7) g dX11_cheapest_66 fa_RX11_197 shX_out sX_22 rfl ?_
          refine r_iload_n (pc := 69) 1 g dX11_cheapest_69 rfl ?_
          obtain ⟨b8, h⟩ := h
          refine r_aaload (pc := 70) (μ := μ7) g dX11_cheapest_70 (by decide) sX_23 b8 ?_
          refine r_iload_n (pc := 71) 2 g dX11_cheapest_71 rfl ?_
          refine r_callVi (pc := 72) (st := []) g hX dX11_cheapest_72 (m_X4_leastPrice (25 + x1.toNatClampNeg) x2 μ7 _ h) kb_RX11_290 kv_X4_leastPrice shX_out sX_53 rfl rfl rfl rfl (fun u9 μ10 h => ?_)
          exact r_ireti (pc := 75) g hR dX11_cheapest_75 h
        · have h := h.2 q
          refine r_bipush (pc := 53) g dX11_cheapest_53 cb_m9 ?_
          refine r_goto (pc := 55) 75 g dX11_cheapest_55 rfl ?_
          exact r_ireti (pc := 75) g hR dX11_cheapest_75 h
      · have h := h.2 q
        refine r_sub [] (lv' := []) rfl ?_
        exact v_X11_cheapest_23 g hX post hR μ2 h
  · have h := h.2 q
    refine r_iconst (pc := 11) g dX11_cheapest_11 ci_m1 ?_
    exact r_ireti (pc := 12) g hR dX11_cheapest_12 h
abbrev rm_X11_room : Room := { frames := 5, cells := 0, slots := 0, locals := 122 }
def T_X11_room_24 (post : Int32 → Mem → Prop) (μ : Mem) : Prop :=
  post (-2) μ
theorem v_X11_room_24 {X : Cx} {w : Wd} {l : Launch} {D : va_G} {A : Nat → Prop} (g : Gd X w RX11 cX11_room 3 rm_X11_room) (hX : atX X l D A) (post : Int32 → Mem → Prop) (hR : Rt X w shX 58 (some .int) (pI post)) (μ : Mem) (h : T_X11_room_24 post μ) : V X 24 [] [] (wls w shX 58 μ) := by
  refine r_bipush (pc := 24) g dX11_room_24 cb_m2 ?_
  exact r_ireti (pc := 26) g hR dX11_room_26 h
def T_X11_room (x1 : Int32) (x2 : Int32) (μ : Mem) (post : Int32 → Mem → Prop) : Prop :=
  T_X3_has x1 μ (fun (u1 : Int32) (μ2 : Mem) => ((¬ u1 = 0 → ((x2 < 0 → T_X11_room_24 post μ2) ∧ (¬ x2 < 0 → ((x2 ≤ 9999 → vp_in x1 8 ∧ T_X1_measure (25 + x1.toNatClampNeg) μ2 (fun (μ5 : Mem) => vp_in x1 8 ∧ T_X4_leastRoom (25 + x1.toNatClampNeg) x2 μ5 (fun (u7 : Int32) (μ8 : Mem) => post u7 μ8))) ∧ (¬ x2 ≤ 9999 → T_X11_room_24 post μ2))))) ∧ (u1 = 0 → post (-1) μ2)))
theorem m_X11_room {w : Wd} {l : Launch} {D : va_G} {A : Nat → Prop} (x1 : Int32) (x2 : Int32) (μ : Mem) (post : Int32 → Mem → Prop) (h : T_X11_room x1 x2 μ post) : MetX l D A w shX 58 yX11_room cX11_room 3 (some .int) rm_X11_room [.ref (w.1 0), .int x1, .int x2] μ (pI post) := by
  refine metX_of (by decide) rfl (lv := [(0, .ref (w.1 0)), (1, .int x1), (2, .int x2)]) rfl (fun X hX g hR => ?_)
  refine r_aload_n (pc := 0) 0 g dX11_room_0 rfl ?_
  refine r_getr (pc := 1) (μ := μ) g dX11_room_1 fa_RX11_35 shX_out sX_0 rfl ?_
  refine r_iload_n (pc := 4) 1 g dX11_room_4 rfl ?_
  refine r_callVi (pc := 5) (st := []) g hX dX11_room_5 (m_X3_has x1 μ _ h) kb_RX11_196 kv_X3_has shX_out sX_22 rfl rfl rfl rfl (fun u1 μ2 h => ?_)
  refine r_if_ne (pc := 8) 13 g dX11_room_8 rfl (fun q => ?_) (fun q => ?_)
  · have h := h.1 q
    refine r_iload_n (pc := 13) 2 g dX11_room_13 rfl ?_
    refine r_if_lt (pc := 14) 24 g dX11_room_14 rfl (fun q => ?_) (fun q => ?_)
    · have h := h.1 q
      refine r_sub [] (lv' := []) rfl ?_
      exact v_X11_room_24 g hX post hR μ2 h
    · have h := h.2 q
      refine r_iload_n (pc := 17) 2 g dX11_room_17 rfl ?_
      refine r_sipush (pc := 18) g dX11_room_18 cs_9999 ?_
      refine r_icmp_le (pc := 21) 27 g dX11_room_21 rfl (fun q => ?_) (fun q => ?_)
      · have h := h.1 q
        refine r_aload_n (pc := 27) 0 g dX11_room_27 rfl ?_
        refine r_getr (pc := 28) (μ := μ2) g dX11_room_28 fa_RX11_44 shX_out sX_0 rfl ?_
        refine r_aload_n (pc := 31) 0 g dX11_room_31 rfl ?_
        refine r_getr (pc := 32) (μ := μ2) g dX11_room_32 fa_RX11_35 shX_out sX_0 rfl ?_
        refine r_getr (pc := 35) (μ := μ2) g dX11_room_35 fa_RX11_197 shX_out sX_22 rfl ?_
        refine r_iload_n (pc := 38) 1 g dX11_room_38 rfl ?_
        obtain ⟨b3, h⟩ := h
        refine r_aaload (pc := 39) (μ := μ2) g dX11_room_39 (by decide) sX_23 b3 ?_
        refine r_callVv (pc := 40) (st := []) g hX dX11_room_40 (m_X1_measure (25 + x1.toNatClampNeg) μ2 _ h) kb_RX11_184 kv_X1_measure shX_out sX_33 rfl rfl rfl rfl (fun μ5 h => ?_)
        refine r_aload_n (pc := 43) 0 g dX11_room_43 rfl ?_
        refine r_getr (pc := 44) (μ := μ5) g dX11_room_44 fa_RX11_77 shX_out sX_0 rfl ?_
        refine r_aload_n (pc := 47) 0 g dX11_room_47 rfl ?_
        refine r_getr (pc := 48) (μ := μ5) g dX11_room_48 fa_RX11_35 shX_out sX_0 rfl ?_
        refine r_getr (pc := 51) (μ := μ5) g dX11_room_51 fa_RX11_197 shX_out sX_22 rfl ?_
        refine r_iload_n (pc := 54) 1 g dX11_room_54 rfl ?_
        obtain ⟨b6, h⟩ := h
        refine r_aaload (pc := 55) (μ := μ5) g dX11_room_55 (by decide) sX_23 b6 ?_
        refine r_iload_n (pc := 56) 2 g dX11_room_56 rfl ?_
        refine r_callVi (pc := 57) (st := []) g hX dX11_room_57 (m_X4_leastRoom (25 + x1.toNatClampNeg) x2 μ5 _ h) kb_RX11_294 kv_X4_leastRoom shX_out sX_53 rfl rfl rfl rfl (fun u7 μ8 h => ?_)
        exact r_ireti (pc := 60) g hR dX11_room_60 h
      · have h := h.2 q
        refine r_sub [] (lv' := []) rfl ?_
        exact v_X11_room_24 g hX post hR μ2 h
  · have h := h.2 q
    refine r_iconst (pc := 11) g dX11_room_11 ci_m1 ?_
    exact r_ireti (pc := 12) g hR dX11_room_12 h
abbrev rm_X11_two : Room := { frames := 6, cells := 0, slots := 0, locals := 135 }
def T_X11_two_22 (post : Int32 → Mem → Prop) (μ : Mem) : Prop :=
  post (-2) μ
theorem v_X11_two_22 {X : Cx} {w : Wd} {l : Launch} {D : va_G} {A : Nat → Prop} (g : Gd X w RX11 cX11_two 2 rm_X11_two) (hX : atX X l D A) (post : Int32 → Mem → Prop) (hR : Rt X w shX 58 (some .int) (pI post)) (μ : Mem) (h : T_X11_two_22 post μ) : V X 22 [] [] (wls w shX 58 μ) := by
  refine r_bipush (pc := 22) g dX11_two_22 cb_m2 ?_
  exact r_ireti (pc := 24) g hR dX11_two_24 h
def T_X11_two (x1 : Int32) (μ : Mem) (post : Int32 → Mem → Prop) : Prop :=
  ((¬ (μ 13 4) = 0 → ((x1 < 0 → T_X11_two_22 post μ) ∧ (¬ x1 < 0 → ((x1 ≤ 3 → T_X8_refresh μ (fun (μ2 : Mem) => ((x1 = 0 → post (if (μ2 56 1) < (μ2 56 2) then (μ2 56 2) else (μ2 56 1)) μ2) ∧ (x1 = 1 → post (μ2 56 0) μ2) ∧ (x1 = 2 → post (μ2 56 1) μ2) ∧ (¬ x1 = 0 → ¬ x1 = 1 → ¬ x1 = 2 → post (μ2 56 2) μ2)))) ∧ (¬ x1 ≤ 3 → T_X11_two_22 post μ))))) ∧ ((μ 13 4) = 0 → post (-3) μ))
theorem m_X11_two {w : Wd} {l : Launch} {D : va_G} {A : Nat → Prop} (x1 : Int32) (μ : Mem) (post : Int32 → Mem → Prop) (h : T_X11_two x1 μ post) : MetX l D A w shX 58 yX11_two cX11_two 2 (some .int) rm_X11_two [.ref (w.1 0), .int x1] μ (pI post) := by
  refine metX_of (by decide) rfl (lv := [(0, .ref (w.1 0)), (1, .int x1)]) rfl (fun X hX g hR => ?_)
  refine r_aload_n (pc := 0) 0 g dX11_two_0 rfl ?_
  refine r_getr (pc := 1) (μ := μ) g dX11_two_1 fa_RX11_28 shX_out sX_0 rfl ?_
  refine r_geti (pc := 4) (μ := μ) g dX11_two_4 fa_RX11_128 shX_out sX_13 rfl ?_
  refine r_if_ne (pc := 7) 13 g dX11_two_7 rfl (fun q => ?_) (fun q => ?_)
  · have h := h.1 q
    refine r_iload_n (pc := 13) 1 g dX11_two_13 rfl ?_
    refine r_if_lt (pc := 14) 22 g dX11_two_14 rfl (fun q => ?_) (fun q => ?_)
    · have h := h.1 q
      refine r_sub [] (lv' := []) rfl ?_
      exact v_X11_two_22 g hX post hR μ h
    · have h := h.2 q
      refine r_iload_n (pc := 17) 1 g dX11_two_17 rfl ?_
      refine r_iconst (pc := 18) g dX11_two_18 ci_3 ?_
      refine r_icmp_le (pc := 19) 25 g dX11_two_19 rfl (fun q => ?_) (fun q => ?_)
      · have h := h.1 q
        refine r_aload_n (pc := 25) 0 g dX11_two_25 rfl ?_
        refine r_getr (pc := 26) (μ := μ) g dX11_two_26 fa_RX11_86 shX_out sX_0 rfl ?_
        refine r_callVv (pc := 29) (st := []) g hX dX11_two_29 (m_X8_refresh μ _ h) kb_RX11_297 kv_X8_refresh shX_out sX_56 rfl rfl rfl rfl (fun μ2 h => ?_)
        refine r_iload_n (pc := 32) 1 g dX11_two_32 rfl ?_
        have hs3 := h
        by_cases c0 : x1 = 0
        · have h := hs3.1 c0
          refine r_tswK (pc := 33) 0 60 g dX11_two_33 c0 ⟨by decide, by decide, rfl, rfl⟩ ?_
          refine r_aload_n (pc := 60) 0 g dX11_two_60 rfl ?_
          refine r_getr (pc := 61) (μ := μ2) g dX11_two_61 fa_RX11_86 shX_out sX_0 rfl ?_
          refine r_geti (pc := 64) (μ := μ2) g dX11_two_64 fa_RX11_298 shX_out sX_56 rfl ?_
          refine r_aload_n (pc := 67) 0 g dX11_two_67 rfl ?_
          refine r_getr (pc := 68) (μ := μ2) g dX11_two_68 fa_RX11_86 shX_out sX_0 rfl ?_
          refine r_geti (pc := 71) (μ := μ2) g dX11_two_71 fa_RX11_301 shX_out sX_56 rfl ?_
          refine r_max (pc := 74) g dX11_two_74 kj_RX11_262 ⟨rfl, rfl⟩ ?_
          exact r_ireti (pc := 77) g hR dX11_two_77 h
        by_cases c1 : x1 = 1
        · have h := hs3.2.1 c1
          refine r_tswK (pc := 33) 1 78 g dX11_two_33 c1 ⟨by decide, by decide, rfl, rfl⟩ ?_
          refine r_aload_n (pc := 78) 0 g dX11_two_78 rfl ?_
          refine r_getr (pc := 79) (μ := μ2) g dX11_two_79 fa_RX11_86 shX_out sX_0 rfl ?_
          refine r_geti (pc := 82) (μ := μ2) g dX11_two_82 fa_RX11_304 shX_out sX_56 rfl ?_
          exact r_ireti (pc := 85) g hR dX11_two_85 h
        by_cases c2 : x1 = 2
        · have h := hs3.2.2.1 c2
          refine r_tswK (pc := 33) 2 86 g dX11_two_33 c2 ⟨by decide, by decide, rfl, rfl⟩ ?_
          refine r_aload_n (pc := 86) 0 g dX11_two_86 rfl ?_
          refine r_getr (pc := 87) (μ := μ2) g dX11_two_87 fa_RX11_86 shX_out sX_0 rfl ?_
          refine r_geti (pc := 90) (μ := μ2) g dX11_two_90 fa_RX11_298 shX_out sX_56 rfl ?_
          exact r_ireti (pc := 93) g hR dX11_two_93 h
        have h := hs3.2.2.2 c0 c1 c2
        refine r_tswD (pc := 33) 94 g dX11_two_33 (by have e0 := ne_toInt c0 (w := 0) (by decide); have e1 := ne_toInt c1 (w := 1) (by decide); have e2 := ne_toInt c2 (w := 2) (by decide); omega) rfl ?_
        refine r_aload_n (pc := 94) 0 g dX11_two_94 rfl ?_
        refine r_getr (pc := 95) (μ := μ2) g dX11_two_95 fa_RX11_86 shX_out sX_0 rfl ?_
        refine r_geti (pc := 98) (μ := μ2) g dX11_two_98 fa_RX11_301 shX_out sX_56 rfl ?_
        exact r_ireti (pc := 101) g hR dX11_two_101 h
      · have h := h.2 q
        refine r_sub [] (lv' := []) rfl ?_
        exact v_X11_two_22 g hX post hR μ h
  · have h := h.2 q
    refine r_bipush (pc := 10) g dX11_two_10 cb_m3 ?_
    exact r_ireti (pc := 12) g hR dX11_two_12 h
abbrev rm_X11_mostWithout : Room := { frames := 4, cells := 0, slots := 0, locals := 89 }
def T_X11_mostWithout (x1 : Int32) (x2 : Int32) (μ : Mem) (post : Int32 → Mem → Prop) : Prop :=
  T_X10_all μ (fun (u1 : Int32) (μ2 : Mem) => T_X6_leastMost 41 (u1 &&& (((1 : Int32) <<< (x1 &&& 31)) ^^^ (-1))) x2 μ2 (fun (u3 : Int32) (μ4 : Mem) => post u3 μ4))
theorem m_X11_mostWithout {w : Wd} {l : Launch} {D : va_G} {A : Nat → Prop} (x1 : Int32) (x2 : Int32) (μ : Mem) (post : Int32 → Mem → Prop) (h : T_X11_mostWithout x1 x2 μ post) : MetX l D A w shX 58 yX11_mostWithout cX11_mostWithout 3 (some .int) rm_X11_mostWithout [.ref (w.1 0), .int x1, .int x2] μ (pI post) := by
  refine metX_of (by decide) rfl (lv := [(0, .ref (w.1 0)), (1, .int x1), (2, .int x2)]) rfl (fun X hX g hR => ?_)
  refine r_aload_n (pc := 0) 0 g dX11_mostWithout_0 rfl ?_
  refine r_getr (pc := 1) (μ := μ) g dX11_mostWithout_1 fa_RX11_55 shX_out sX_0 rfl ?_
  refine r_aload_n (pc := 4) 0 g dX11_mostWithout_4 rfl ?_
  refine r_getr (pc := 5) (μ := μ) g dX11_mostWithout_5 fa_RX11_28 shX_out sX_0 rfl ?_
  refine r_callVi (pc := 8) (st := [.ref (w.1 41)]) g hX dX11_mostWithout_8 (m_X10_all μ _ h) kb_RX11_129 kv_X10_all shX_out sX_13 rfl rfl rfl rfl (fun u1 μ2 h => ?_)
  refine r_iconst (pc := 11) g dX11_mostWithout_11 ci_1 ?_
  refine r_iload_n (pc := 12) 1 g dX11_mostWithout_12 rfl ?_
  refine r_ishl (pc := 13) g dX11_mostWithout_13 ?_
  refine r_iconst (pc := 14) g dX11_mostWithout_14 ci_m1 ?_
  refine r_ixor (pc := 15) g dX11_mostWithout_15 ?_
  refine r_iand (pc := 16) g dX11_mostWithout_16 ?_
  refine r_iload_n (pc := 17) 2 g dX11_mostWithout_17 rfl ?_
  refine r_callVi (pc := 18) (st := []) g hX dX11_mostWithout_18 (m_X6_leastMost 41 (Or.inr rfl) (u1 &&& (((1 : Int32) <<< (x1 &&& 31)) ^^^ (-1))) x2 μ2 _ h) kb_RX11_311 kv_X6_leastMost shX_out (sr_0 (Or.inr rfl)) rfl rfl rfl rfl (fun u3 μ4 h => ?_)
  exact r_ireti (pc := 21) g hR dX11_mostWithout_21 h
abbrev rm_X11_without : Room := { frames := 5, cells := 0, slots := 0, locals := 111 }
def T_X11_without (x1 : Int32) (μ : Mem) (post : Int32 → Mem → Prop) : Prop :=
  T_X10_has x1 μ (fun (u1 : Int32) (μ2 : Mem) => ((u1 = 0 → post (-1) μ2) ∧ (¬ u1 = 0 → T_X11_mostWithout x1 1000000 μ2 (fun (u3 : Int32) (μ4 : Mem) => post u3 μ4))))
theorem m_X11_without {w : Wd} {l : Launch} {D : va_G} {A : Nat → Prop} (x1 : Int32) (μ : Mem) (post : Int32 → Mem → Prop) (h : T_X11_without x1 μ post) : MetX l D A w shX 58 yX11_without cX11_without 2 (some .int) rm_X11_without [.ref (w.1 0), .int x1] μ (pI post) := by
  refine metX_of (by decide) rfl (lv := [(0, .ref (w.1 0)), (1, .int x1)]) rfl (fun X hX g hR => ?_)
  refine r_aload_n (pc := 0) 0 g dX11_without_0 rfl ?_
  refine r_getr (pc := 1) (μ := μ) g dX11_without_1 fa_RX11_28 shX_out sX_0 rfl ?_
  refine r_iload_n (pc := 4) 1 g dX11_without_4 rfl ?_
  refine r_callVi (pc := 5) (st := []) g hX dX11_without_5 (m_X10_has x1 μ _ h) kb_RX11_137 kv_X10_has shX_out sX_13 rfl rfl rfl rfl (fun u1 μ2 h => ?_)
  refine r_if_eq (pc := 8) 22 g dX11_without_8 rfl (fun q => ?_) (fun q => ?_)
  · have h := h.1 q
    refine r_iconst (pc := 22) g dX11_without_22 ci_m1 ?_
    exact r_ireti (pc := 23) g hR dX11_without_23 h
  · have h := h.2 q
    refine r_aload_n (pc := 11) 0 g dX11_without_11 rfl ?_
    refine r_iload_n (pc := 12) 1 g dX11_without_12 rfl ?_
    refine r_ldc_w (pc := 13) g dX11_without_13 k_897 ?_
    refine r_callVi (pc := 16) (st := []) g hX dX11_without_16 (m_X11_mostWithout x1 1000000 μ2 _ h) kb_RX11_308 kv_X11_mostWithout shX_out sX_0 rfl rfl rfl rfl (fun u3 μ4 h => ?_)
    refine r_goto (pc := 19) 23 g dX11_without_19 rfl ?_
    exact r_ireti (pc := 23) g hR dX11_without_23 h
abbrev rm_X11_why : Room := { frames := 4, cells := 0, slots := 0, locals := 89 }
def T_X11_why (x1 : Int32) (x2 : Int32) (μ : Mem) (post : Int32 → Mem → Prop) : Prop :=
  T_X10_has x1 μ (fun (u1 : Int32) (μ2 : Mem) => ((u1 = 0 → post (-1) μ2) ∧ (¬ u1 = 0 → T_X10_has x2 μ2 (fun (u3 : Int32) (μ4 : Mem) => ((¬ u3 = 0 → T_X10_isBefore x1 x2 μ4 (fun (u5 : Int32) (μ6 : Mem) => ((u5 = 0 → post (-3) μ6) ∧ (¬ u5 = 0 → T_X6_leastMostUnbound 41 x1 x2 μ6 (fun (u7 : Int32) (μ8 : Mem) => post u7 μ8))))) ∧ (u3 = 0 → post (-1) μ4))))))
theorem m_X11_why {w : Wd} {l : Launch} {D : va_G} {A : Nat → Prop} (x1 : Int32) (x2 : Int32) (μ : Mem) (post : Int32 → Mem → Prop) (h : T_X11_why x1 x2 μ post) : MetX l D A w shX 58 yX11_why cX11_why 3 (some .int) rm_X11_why [.ref (w.1 0), .int x1, .int x2] μ (pI post) := by
  refine metX_of (by decide) rfl (lv := [(0, .ref (w.1 0)), (1, .int x1), (2, .int x2)]) rfl (fun X hX g hR => ?_)
  refine r_aload_n (pc := 0) 0 g dX11_why_0 rfl ?_
  refine r_getr (pc := 1) (μ := μ) g dX11_why_1 fa_RX11_28 shX_out sX_0 rfl ?_
  refine r_iload_n (pc := 4) 1 g dX11_why_4 rfl ?_
  refine r_callVi (pc := 5) (st := []) g hX dX11_why_5 (m_X10_has x1 μ _ h) kb_RX11_137 kv_X10_has shX_out sX_13 rfl rfl rfl rfl (fun u1 μ2 h => ?_)
  refine r_if_eq (pc := 8) 22 g dX11_why_8 rfl (fun q => ?_) (fun q => ?_)
  · have h := h.1 q
    refine r_iconst (pc := 22) g dX11_why_22 ci_m1 ?_
    exact r_ireti (pc := 23) g hR dX11_why_23 h
  · have h := h.2 q
    refine r_aload_n (pc := 11) 0 g dX11_why_11 rfl ?_
    refine r_getr (pc := 12) (μ := μ2) g dX11_why_12 fa_RX11_28 shX_out sX_0 rfl ?_
    refine r_iload_n (pc := 15) 2 g dX11_why_15 rfl ?_
    refine r_callVi (pc := 16) (st := []) g hX dX11_why_16 (m_X10_has x2 μ2 _ h) kb_RX11_137 kv_X10_has shX_out sX_13 rfl rfl rfl rfl (fun u3 μ4 h => ?_)
    refine r_if_ne (pc := 19) 24 g dX11_why_19 rfl (fun q => ?_) (fun q => ?_)
    · have h := h.1 q
      refine r_aload_n (pc := 24) 0 g dX11_why_24 rfl ?_
      refine r_getr (pc := 25) (μ := μ4) g dX11_why_25 fa_RX11_28 shX_out sX_0 rfl ?_
      refine r_iload_n (pc := 28) 1 g dX11_why_28 rfl ?_
      refine r_iload_n (pc := 29) 2 g dX11_why_29 rfl ?_
      refine r_callVi (pc := 30) (st := []) g hX dX11_why_30 (m_X10_isBefore x1 x2 μ4 _ h) kb_RX11_146 kv_X10_isBefore shX_out sX_13 rfl rfl rfl rfl (fun u5 μ6 h => ?_)
      refine r_if_eq (pc := 33) 48 g dX11_why_33 rfl (fun q => ?_) (fun q => ?_)
      · have h := h.1 q
        refine r_bipush (pc := 48) g dX11_why_48 cb_m3 ?_
        exact r_ireti (pc := 50) g hR dX11_why_50 h
      · have h := h.2 q
        refine r_aload_n (pc := 36) 0 g dX11_why_36 rfl ?_
        refine r_getr (pc := 37) (μ := μ6) g dX11_why_37 fa_RX11_55 shX_out sX_0 rfl ?_
        refine r_iload_n (pc := 40) 1 g dX11_why_40 rfl ?_
        refine r_iload_n (pc := 41) 2 g dX11_why_41 rfl ?_
        refine r_callVi (pc := 42) (st := []) g hX dX11_why_42 (m_X6_leastMostUnbound 41 (Or.inr rfl) x1 x2 μ6 _ h) kb_RX11_314 kv_X6_leastMostUnbound shX_out (sr_0 (Or.inr rfl)) rfl rfl rfl rfl (fun u7 μ8 h => ?_)
        refine r_goto (pc := 45) 50 g dX11_why_45 rfl ?_
        exact r_ireti (pc := 50) g hR dX11_why_50 h
    · have h := h.2 q
      refine r_iconst (pc := 22) g dX11_why_22 ci_m1 ?_
      exact r_ireti (pc := 23) g hR dX11_why_23 h
abbrev rm_X11_widest : Room := { frames := 5, cells := 0, slots := 0, locals := 111 }
def B_X11_widest_9 (post : Int32 → Mem → Prop) (P9 : Int32 → Int32 → Int32 → Mem → Prop) (x1 : Int32) (x2 : Int32) (x3 : Int32) (μ : Mem) : Prop :=
  (((μ 13 4) ≤ x3 → post x1 μ) ∧ (¬ (μ 13 4) ≤ x3 → T_X11_mostWithout x3 x2 μ (fun (u1 : Int32) (μ2 : Mem) => ((x2 ≤ u1 → P9 x1 x2 (x3 + 1) μ2) ∧ (¬ x2 ≤ u1 → P9 x3 u1 (x3 + 1) μ2)))))
def T_X11_widest_9 (post : Int32 → Mem → Prop) (x1 : Int32) (x2 : Int32) (x3 : Int32) (μ : Mem) : Prop :=
  ∀ P9 : Int32 → Int32 → Int32 → Mem → Prop, (∀ (x1 : Int32) (x2 : Int32) (x3 : Int32) (μ : Mem), B_X11_widest_9 post P9 x1 x2 x3 μ → P9 x1 x2 x3 μ) → P9 x1 x2 x3 μ
theorem bv_X11_widest_9 {X : Cx} {w : Wd} {l : Launch} {D : va_G} {A : Nat → Prop} (g : Gd X w RX11 cX11_widest 5 rm_X11_widest) (hX : atX X l D A) (post : Int32 → Mem → Prop) (hR : Rt X w shX 58 (some .int) (pI post)) (P9 : Int32 → Int32 → Int32 → Mem → Prop) (hP9 : ∀ (x1 : Int32) (x2 : Int32) (x3 : Int32) (μ : Mem), P9 x1 x2 x3 μ → V X 9 [(0, .ref (w.1 0)), (1, .int x1), (2, .int x2), (3, .int x3)] [] (wls w shX 58 μ)) (x1 : Int32) (x2 : Int32) (x3 : Int32) (μ : Mem) (h : B_X11_widest_9 post P9 x1 x2 x3 μ) : V X 9 [(0, .ref (w.1 0)), (1, .int x1), (2, .int x2), (3, .int x3)] [] (wls w shX 58 μ) := by
  refine r_iload_n (pc := 9) 3 g dX11_widest_9 rfl ?_
  refine r_aload_n (pc := 10) 0 g dX11_widest_10 rfl ?_
  refine r_getr (pc := 11) (μ := μ) g dX11_widest_11 fa_RX11_28 shX_out sX_0 rfl ?_
  refine r_geti (pc := 14) (μ := μ) g dX11_widest_14 fa_RX11_128 shX_out sX_13 rfl ?_
  refine r_icmp_ge (pc := 17) 45 g dX11_widest_17 rfl (fun q => ?_) (fun q => ?_)
  · have h := h.1 q
    refine r_iload_n (pc := 45) 1 g dX11_widest_45 rfl ?_
    exact r_ireti (pc := 46) g hR dX11_widest_46 h
  · have h := h.2 q
    refine r_aload_n (pc := 20) 0 g dX11_widest_20 rfl ?_
    refine r_iload_n (pc := 21) 3 g dX11_widest_21 rfl ?_
    refine r_iload_n (pc := 22) 2 g dX11_widest_22 rfl ?_
    refine r_callVi (pc := 23) (st := []) g hX dX11_widest_23 (m_X11_mostWithout x3 x2 μ _ h) kb_RX11_308 kv_X11_mostWithout shX_out sX_0 rfl rfl rfl rfl (fun u1 μ2 h => ?_)
    refine r_istore (pc := 26) (lv' := [(4, .int u1), (0, .ref (w.1 0)), (1, .int x1), (2, .int x2), (3, .int x3)]) g dX11_widest_26 rfl rfl ?_
    refine r_iload (pc := 28) 0 g dX11_widest_28 rfl ?_
    refine r_iload_n (pc := 30) 3 g dX11_widest_30 rfl ?_
    refine r_icmp_ge (pc := 31) 39 g dX11_widest_31 rfl (fun q => ?_) (fun q => ?_)
    · have h := h.1 q
      refine r_iinc (pc := 39) (lv' := [(3, .int (x3 + 1)), (4, .int u1), (0, .ref (w.1 0)), (1, .int x1), (2, .int x2)]) 4 g dX11_widest_39 rfl ci_1 rfl rfl ?_
      refine r_goto (pc := 42) 9 g dX11_widest_42 rfl ?_
      refine r_sub [2, 3, 4, 0] (lv' := [(0, .ref (w.1 0)), (1, .int x1), (2, .int x2), (3, .int (x3 + 1))]) rfl ?_
      exact hP9 x1 x2 (x3 + 1) μ2 h
    · have h := h.2 q
      refine r_iload (pc := 34) 0 g dX11_widest_34 rfl ?_
      refine r_istore_n (pc := 36) (lv' := [(2, .int u1), (4, .int u1), (0, .ref (w.1 0)), (1, .int x1), (3, .int x3)]) g dX11_widest_36 rfl rfl ?_
      refine r_iload_n (pc := 37) 4 g dX11_widest_37 rfl ?_
      refine r_istore_n (pc := 38) (lv' := [(1, .int x3), (2, .int u1), (4, .int u1), (0, .ref (w.1 0)), (3, .int x3)]) g dX11_widest_38 rfl rfl ?_
      refine r_iinc (pc := 39) (lv' := [(3, .int (x3 + 1)), (1, .int x3), (2, .int u1), (4, .int u1), (0, .ref (w.1 0))]) 4 g dX11_widest_39 rfl ci_1 rfl rfl ?_
      refine r_goto (pc := 42) 9 g dX11_widest_42 rfl ?_
      refine r_sub [4, 1, 2, 0] (lv' := [(0, .ref (w.1 0)), (1, .int x3), (2, .int u1), (3, .int (x3 + 1))]) rfl ?_
      exact hP9 x3 u1 (x3 + 1) μ2 h
theorem v_X11_widest_9 {X : Cx} {w : Wd} {l : Launch} {D : va_G} {A : Nat → Prop} (g : Gd X w RX11 cX11_widest 5 rm_X11_widest) (hX : atX X l D A) (post : Int32 → Mem → Prop) (hR : Rt X w shX 58 (some .int) (pI post)) (x1 : Int32) (x2 : Int32) (x3 : Int32) (μ : Mem) (h : T_X11_widest_9 post x1 x2 x3 μ) : V X 9 [(0, .ref (w.1 0)), (1, .int x1), (2, .int x2), (3, .int x3)] [] (wls w shX 58 μ) :=
  h (fun x1 x2 x3 μ => V X 9 [(0, .ref (w.1 0)), (1, .int x1), (2, .int x2), (3, .int x3)] [] (wls w shX 58 μ)) (fun x1 x2 x3 μ h => bv_X11_widest_9 g hX post hR (fun x1 x2 x3 μ => V X 9 [(0, .ref (w.1 0)), (1, .int x1), (2, .int x2), (3, .int x3)] [] (wls w shX 58 μ)) (fun _ _ _ _ h => h) x1 x2 x3 μ h)
def T_X11_widest (μ : Mem) (post : Int32 → Mem → Prop) : Prop :=
  T_X11_widest_9 post (-9) 1000000 0 μ
theorem m_X11_widest {w : Wd} {l : Launch} {D : va_G} {A : Nat → Prop} (μ : Mem) (post : Int32 → Mem → Prop) (h : T_X11_widest μ post) : MetX l D A w shX 58 yX11_widest cX11_widest 5 (some .int) rm_X11_widest [.ref (w.1 0)] μ (pI post) := by
  refine metX_of (by decide) rfl (lv := [(0, .ref (w.1 0))]) rfl (fun X hX g hR => ?_)
  refine r_bipush (pc := 0) g dX11_widest_0 cb_m9 ?_
  refine r_istore_n (pc := 2) (lv' := [(1, .int (-9)), (0, .ref (w.1 0))]) g dX11_widest_2 rfl rfl ?_
  refine r_ldc_w (pc := 3) g dX11_widest_3 k_897 ?_
  refine r_istore_n (pc := 6) (lv' := [(2, .int 1000000), (1, .int (-9)), (0, .ref (w.1 0))]) g dX11_widest_6 rfl rfl ?_
  refine r_iconst (pc := 7) g dX11_widest_7 ci_0 ?_
  refine r_istore_n (pc := 8) (lv' := [(3, .int 0), (2, .int 1000000), (1, .int (-9)), (0, .ref (w.1 0))]) g dX11_widest_8 rfl rfl ?_
  refine r_sub [3, 2, 1, 0] (lv' := [(0, .ref (w.1 0)), (1, .int (-9)), (2, .int 1000000), (3, .int 0)]) rfl ?_
  exact v_X11_widest_9 g hX post hR (-9) 1000000 0 μ h
abbrev rm_X11_sheet : Room := { frames := 1, cells := 0, slots := 0, locals := 24 }
def T_X11_sheet_27 (post : Int32 → Mem → Prop) (μ : Mem) : Prop :=
  post (-2) μ
theorem v_X11_sheet_27 {X : Cx} {w : Wd} {l : Launch} {D : va_G} {A : Nat → Prop} (g : Gd X w RX11 cX11_sheet 4 rm_X11_sheet) (hX : atX X l D A) (post : Int32 → Mem → Prop) (hR : Rt X w shX 58 (some .int) (pI post)) (μ : Mem) (h : T_X11_sheet_27 post μ) : V X 27 [] [] (wls w shX 58 μ) := by
  refine r_bipush (pc := 27) g dX11_sheet_27 cb_m2 ?_
  exact r_ireti (pc := 29) g hR dX11_sheet_29 h
def T_X11_sheet (x1 : Int32) (x2 : Int32) (x3 : Int32) (μ : Mem) (post : Int32 → Mem → Prop) : Prop :=
  T_X11_isSheet x1 (mset μ 0 13 0) (fun (u1 : Int32) (μ2 : Mem) => ((¬ u1 = 0 → T_X11_isLane x2 μ2 (fun (u3 : Int32) (μ4 : Mem) => ((u3 = 0 → T_X11_sheet_27 post μ4) ∧ (¬ u3 = 0 → ((x3 ≤ 60 → ((0 ≤ x3 → T_X7_renew x1 x2 x3 μ4 (fun (μ6 : Mem) => post 1 μ6)) ∧ (¬ 0 ≤ x3 → T_X11_faulted 4 μ4 (fun (u7 : Int32) (μ8 : Mem) => post u7 μ8)))) ∧ (¬ x3 ≤ 60 → T_X11_sheet_27 post μ4)))))) ∧ (u1 = 0 → post (-1) μ2)))
theorem m_X11_sheet {w : Wd} {l : Launch} {D : va_G} {A : Nat → Prop} (x1 : Int32) (x2 : Int32) (x3 : Int32) (μ : Mem) (post : Int32 → Mem → Prop) (h : T_X11_sheet x1 x2 x3 μ post) : MetX l D A w shX 58 yX11_sheet cX11_sheet 4 (some .int) rm_X11_sheet [.ref (w.1 0), .int x1, .int x2, .int x3] μ (pI post) := by
  refine metX_of (by decide) rfl (lv := [(0, .ref (w.1 0)), (1, .int x1), (2, .int x2), (3, .int x3)]) rfl (fun X hX g hR => ?_)
  refine r_aload_n (pc := 0) 0 g dX11_sheet_0 rfl ?_
  refine r_iconst (pc := 1) g dX11_sheet_1 ci_0 ?_
  refine r_puti (pc := 2) (μ := μ) g dX11_sheet_2 fp_RX11_94 shX_out sX_0 rfl ?_
  refine r_iload_n (pc := 5) 1 g dX11_sheet_5 rfl ?_
  refine r_callSi (pc := 6) (st := []) g hX dX11_sheet_6 (m_X11_isSheet x1 (mset μ 0 13 0) _ h) kb_RX11_98 k_466 rfl rfl rfl rfl (fun u1 μ2 h => ?_)
  refine r_if_ne (pc := 9) 14 g dX11_sheet_9 rfl (fun q => ?_) (fun q => ?_)
  · have h := h.1 q
    refine r_iload_n (pc := 14) 2 g dX11_sheet_14 rfl ?_
    refine r_callSi (pc := 15) (st := []) g hX dX11_sheet_15 (m_X11_isLane x2 μ2 _ h) kb_RX11_102 k_469 rfl rfl rfl rfl (fun u3 μ4 h => ?_)
    refine r_if_eq (pc := 18) 27 g dX11_sheet_18 rfl (fun q => ?_) (fun q => ?_)
    · have h := h.1 q
      refine r_sub [] (lv' := []) rfl ?_
      exact v_X11_sheet_27 g hX post hR μ4 h
    · have h := h.2 q
      refine r_iload_n (pc := 21) 3 g dX11_sheet_21 rfl ?_
      refine r_bipush (pc := 22) g dX11_sheet_22 cb_60 ?_
      refine r_icmp_le (pc := 24) 30 g dX11_sheet_24 rfl (fun q => ?_) (fun q => ?_)
      · have h := h.1 q
        refine r_iload_n (pc := 30) 3 g dX11_sheet_30 rfl ?_
        refine r_if_ge (pc := 31) 40 g dX11_sheet_31 rfl (fun q => ?_) (fun q => ?_)
        · have h := h.1 q
          refine r_aload_n (pc := 40) 0 g dX11_sheet_40 rfl ?_
          refine r_getr (pc := 41) (μ := μ4) g dX11_sheet_41 fa_RX11_14 shX_out sX_0 rfl ?_
          refine r_iload_n (pc := 44) 1 g dX11_sheet_44 rfl ?_
          refine r_iload_n (pc := 45) 2 g dX11_sheet_45 rfl ?_
          refine r_iload_n (pc := 46) 3 g dX11_sheet_46 rfl ?_
          refine r_callVv (pc := 47) (st := []) g hX dX11_sheet_47 (m_X7_renew x1 x2 x3 μ4 _ h) kb_RX11_317 kv_X7_renew shX_out sX_1 rfl rfl rfl rfl (fun μ6 h => ?_)
          refine r_iconst (pc := 50) g dX11_sheet_50 ci_1 ?_
          exact r_ireti (pc := 51) g hR dX11_sheet_51 h
        · have h := h.2 q
          refine r_aload_n (pc := 34) 0 g dX11_sheet_34 rfl ?_
          refine r_iconst (pc := 35) g dX11_sheet_35 ci_4 ?_
          refine r_callVi (pc := 36) (st := []) g hX dX11_sheet_36 (m_X11_faulted 4 μ4 _ h) kb_RX11_109 kv_X11_faulted shX_out sX_0 rfl rfl rfl rfl (fun u7 μ8 h => ?_)
          exact r_ireti (pc := 39) g hR dX11_sheet_39 h
      · have h := h.2 q
        refine r_sub [] (lv' := []) rfl ?_
        exact v_X11_sheet_27 g hX post hR μ4 h
  · have h := h.2 q
    refine r_iconst (pc := 12) g dX11_sheet_12 ci_m1 ?_
    exact r_ireti (pc := 13) g hR dX11_sheet_13 h
abbrev rm_X11_lose : Room := { frames := 1, cells := 0, slots := 0, locals := 22 }
def T_X11_lose (x1 : Int32) (μ : Mem) (post : Int32 → Mem → Prop) : Prop :=
  T_X11_isSheet x1 μ (fun (u1 : Int32) (μ2 : Mem) => ((¬ u1 = 0 → T_X7_drop x1 μ2 (fun (u3 : Int32) (μ4 : Mem) => ((u3 = 0 → post 0 μ4) ∧ (¬ u3 = 0 → post 1 μ4)))) ∧ (u1 = 0 → post (-1) μ2)))
theorem m_X11_lose {w : Wd} {l : Launch} {D : va_G} {A : Nat → Prop} (x1 : Int32) (μ : Mem) (post : Int32 → Mem → Prop) (h : T_X11_lose x1 μ post) : MetX l D A w shX 58 yX11_lose cX11_lose 2 (some .int) rm_X11_lose [.ref (w.1 0), .int x1] μ (pI post) := by
  refine metX_of (by decide) rfl (lv := [(0, .ref (w.1 0)), (1, .int x1)]) rfl (fun X hX g hR => ?_)
  refine r_iload_n (pc := 0) 1 g dX11_lose_0 rfl ?_
  refine r_callSi (pc := 1) (st := []) g hX dX11_lose_1 (m_X11_isSheet x1 μ _ h) kb_RX11_98 k_466 rfl rfl rfl rfl (fun u1 μ2 h => ?_)
  refine r_if_ne (pc := 4) 9 g dX11_lose_4 rfl (fun q => ?_) (fun q => ?_)
  · have h := h.1 q
    refine r_aload_n (pc := 9) 0 g dX11_lose_9 rfl ?_
    refine r_getr (pc := 10) (μ := μ2) g dX11_lose_10 fa_RX11_14 shX_out sX_0 rfl ?_
    refine r_iload_n (pc := 13) 1 g dX11_lose_13 rfl ?_
    refine r_callVi (pc := 14) (st := []) g hX dX11_lose_14 (m_X7_drop x1 μ2 _ h) kb_RX11_321 kv_X7_drop shX_out sX_1 rfl rfl rfl rfl (fun u3 μ4 h => ?_)
    refine r_if_eq (pc := 17) 24 g dX11_lose_17 rfl (fun q => ?_) (fun q => ?_)
    · have h := h.1 q
      refine r_iconst (pc := 24) g dX11_lose_24 ci_0 ?_
      exact r_ireti (pc := 25) g hR dX11_lose_25 h
    · have h := h.2 q
      refine r_iconst (pc := 20) g dX11_lose_20 ci_1 ?_
      refine r_goto (pc := 21) 25 g dX11_lose_21 rfl ?_
      exact r_ireti (pc := 25) g hR dX11_lose_25 h
  · have h := h.2 q
    refine r_iconst (pc := 7) g dX11_lose_7 ci_m1 ?_
    exact r_ireti (pc := 8) g hR dX11_lose_8 h
abbrev rm_X11_put : Room := { frames := 2, cells := 0, slots := 0, locals := 46 }
def T_X11_put (x1 : Int32) (x2 : Int32) (x3 : Int32) (μ : Mem) (post : Int32 → Mem → Prop) : Prop :=
  T_X11_isSheet x1 (mset μ 0 13 0) (fun (u1 : Int32) (μ2 : Mem) => ((¬ u1 = 0 → vp_in x1 4 ∧ T_X7_cellFault x1 (μ2 3 x1.toNatClampNeg) x2 μ2 (fun (u4 : Int32) (μ5 : Mem) => ((u4 = 0 → T_X7_write x1 x2 x3 μ5 (fun (μ7 : Mem) => post 1 μ7)) ∧ (¬ u4 = 0 → T_X11_faulted u4 μ5 (fun (u8 : Int32) (μ9 : Mem) => post u8 μ9))))) ∧ (u1 = 0 → post (-1) μ2)))
theorem m_X11_put {w : Wd} {l : Launch} {D : va_G} {A : Nat → Prop} (x1 : Int32) (x2 : Int32) (x3 : Int32) (μ : Mem) (post : Int32 → Mem → Prop) (h : T_X11_put x1 x2 x3 μ post) : MetX l D A w shX 58 yX11_put cX11_put 5 (some .int) rm_X11_put [.ref (w.1 0), .int x1, .int x2, .int x3] μ (pI post) := by
  refine metX_of (by decide) rfl (lv := [(0, .ref (w.1 0)), (1, .int x1), (2, .int x2), (3, .int x3)]) rfl (fun X hX g hR => ?_)
  refine r_aload_n (pc := 0) 0 g dX11_put_0 rfl ?_
  refine r_iconst (pc := 1) g dX11_put_1 ci_0 ?_
  refine r_puti (pc := 2) (μ := μ) g dX11_put_2 fp_RX11_94 shX_out sX_0 rfl ?_
  refine r_iload_n (pc := 5) 1 g dX11_put_5 rfl ?_
  refine r_callSi (pc := 6) (st := []) g hX dX11_put_6 (m_X11_isSheet x1 (mset μ 0 13 0) _ h) kb_RX11_98 k_466 rfl rfl rfl rfl (fun u1 μ2 h => ?_)
  refine r_if_ne (pc := 9) 14 g dX11_put_9 rfl (fun q => ?_) (fun q => ?_)
  · have h := h.1 q
    refine r_aload_n (pc := 14) 0 g dX11_put_14 rfl ?_
    refine r_getr (pc := 15) (μ := μ2) g dX11_put_15 fa_RX11_14 shX_out sX_0 rfl ?_
    refine r_iload_n (pc := 18) 1 g dX11_put_18 rfl ?_
    refine r_aload_n (pc := 19) 0 g dX11_put_19 rfl ?_
    refine r_getr (pc := 20) (μ := μ2) g dX11_put_20 fa_RX11_14 shX_out sX_0 rfl ?_
    refine r_getr (pc := 23) (μ := μ2) g dX11_put_23 fa_RX11_324 shX_out sX_1 rfl ?_
    refine r_iload_n (pc := 26) 1 g dX11_put_26 rfl ?_
    obtain ⟨b3, h⟩ := h
    refine r_iaload (pc := 27) (μ := μ2) g dX11_put_27 shX_out sX_3 b3 ?_
    refine r_iload_n (pc := 28) 2 g dX11_put_28 rfl ?_
    refine r_callVi (pc := 29) (st := []) g hX dX11_put_29 (m_X7_cellFault x1 (μ2 3 x1.toNatClampNeg) x2 μ2 _ h) kb_RX11_327 kv_X7_cellFault shX_out sX_1 rfl rfl rfl rfl (fun u4 μ5 h => ?_)
    refine r_istore (pc := 32) (lv' := [(4, .int u4), (0, .ref (w.1 0)), (1, .int x1), (2, .int x2), (3, .int x3)]) g dX11_put_32 rfl rfl ?_
    refine r_iload (pc := 34) 0 g dX11_put_34 rfl ?_
    refine r_if_eq (pc := 36) 46 g dX11_put_36 rfl (fun q => ?_) (fun q => ?_)
    · have h := h.1 q
      refine r_aload_n (pc := 46) 1 g dX11_put_46 rfl ?_
      refine r_getr (pc := 47) (μ := μ5) g dX11_put_47 fa_RX11_14 shX_out sX_0 rfl ?_
      refine r_iload_n (pc := 50) 2 g dX11_put_50 rfl ?_
      refine r_iload_n (pc := 51) 3 g dX11_put_51 rfl ?_
      refine r_iload_n (pc := 52) 4 g dX11_put_52 rfl ?_
      refine r_callVv (pc := 53) (st := []) g hX dX11_put_53 (m_X7_write x1 x2 x3 μ5 _ h) kb_RX11_330 kv_X7_write shX_out sX_1 rfl rfl rfl rfl (fun μ7 h => ?_)
      refine r_iconst (pc := 56) g dX11_put_56 ci_1 ?_
      exact r_ireti (pc := 57) g hR dX11_put_57 h
    · have h := h.2 q
      refine r_aload_n (pc := 39) 1 g dX11_put_39 rfl ?_
      refine r_iload (pc := 40) 0 g dX11_put_40 rfl ?_
      refine r_callVi (pc := 42) (st := []) g hX dX11_put_42 (m_X11_faulted u4 μ5 _ h) kb_RX11_109 kv_X11_faulted shX_out sX_0 rfl rfl rfl rfl (fun u8 μ9 h => ?_)
      exact r_ireti (pc := 45) g hR dX11_put_45 h
  · have h := h.2 q
    refine r_iconst (pc := 12) g dX11_put_12 ci_m1 ?_
    exact r_ireti (pc := 13) g hR dX11_put_13 h
