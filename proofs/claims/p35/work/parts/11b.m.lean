theorem dX12_longOf_0 : decode cX12_longOf 0 = .ok (.iconst 0, 1) := by decide +kernel
theorem dX12_longOf_1 : decode cX12_longOf 1 = .ok (.istore_n 2, 1) := by decide +kernel
theorem dX12_longOf_2 : decode cX12_longOf 2 = .ok (.iconst 0, 1) := by decide +kernel
theorem dX12_longOf_3 : decode cX12_longOf 3 = .ok (.istore_n 3, 1) := by decide +kernel
theorem dX12_longOf_4 : decode cX12_longOf 4 = .ok (.iload_n 3, 1) := by decide +kernel
theorem dX12_longOf_5 : decode cX12_longOf 5 = .ok (.aload_n 0, 1) := by decide +kernel
theorem dX12_longOf_6 : decode cX12_longOf 6 = .ok (.getfield 83, 3) := by decide +kernel
theorem dX12_longOf_9 : decode cX12_longOf 9 = .ok (.if_icmp .ge 22, 3) := by decide +kernel
theorem dX12_longOf_12 : decode cX12_longOf 12 = .ok (.iload_n 2, 1) := by decide +kernel
theorem dX12_longOf_13 : decode cX12_longOf 13 = .ok (.aload_n 0, 1) := by decide +kernel
theorem dX12_longOf_14 : decode cX12_longOf 14 = .ok (.aload_n 0, 1) := by decide +kernel
theorem dX12_longOf_15 : decode cX12_longOf 15 = .ok (.aload_n 1, 1) := by decide +kernel
theorem dX12_longOf_16 : decode cX12_longOf 16 = .ok (.iload_n 3, 1) := by decide +kernel
theorem dX12_longOf_17 : decode cX12_longOf 17 = .ok (.invokevirtual 143, 3) := by decide +kernel
theorem dX12_longOf_20 : decode cX12_longOf 20 = .ok (.invokevirtual 147, 3) := by decide +kernel
theorem dX12_longOf_23 : decode cX12_longOf 23 = .ok (.iadd, 1) := by decide +kernel
theorem dX12_longOf_24 : decode cX12_longOf 24 = .ok (.istore_n 2, 1) := by decide +kernel
theorem dX12_longOf_25 : decode cX12_longOf 25 = .ok (.iinc 3 1, 3) := by decide +kernel
theorem dX12_longOf_28 : decode cX12_longOf 28 = .ok (.goto (-24), 3) := by decide +kernel
theorem dX12_longOf_31 : decode cX12_longOf 31 = .ok (.iload_n 2, 1) := by decide +kernel
theorem dX12_longOf_32 : decode cX12_longOf 32 = .ok (.ireturn, 1) := by decide +kernel
theorem dX12_comes_0 : decode cX12_comes 0 = .ok (.aload_n 0, 1) := by decide +kernel
theorem dX12_comes_1 : decode cX12_comes 1 = .ok (.getfield 131, 3) := by decide +kernel
theorem dX12_comes_4 : decode cX12_comes 4 = .ok (.bipush 8, 2) := by decide +kernel
theorem dX12_comes_6 : decode cX12_comes 6 = .ok (.if_icmp .ne 6, 3) := by decide +kernel
theorem dX12_comes_9 : decode cX12_comes 9 = .ok (.bipush (-4), 2) := by decide +kernel
theorem dX12_comes_11 : decode cX12_comes 11 = .ok (.ireturn, 1) := by decide +kernel
theorem dX12_comes_12 : decode cX12_comes 12 = .ok (.aload_n 0, 1) := by decide +kernel
theorem dX12_comes_13 : decode cX12_comes 13 = .ok (.getfield 40, 3) := by decide +kernel
theorem dX12_comes_16 : decode cX12_comes 16 = .ok (.aload_n 0, 1) := by decide +kernel
theorem dX12_comes_17 : decode cX12_comes 17 = .ok (.getfield 131, 3) := by decide +kernel
theorem dX12_comes_20 : decode cX12_comes 20 = .ok (.iload_n 1, 1) := by decide +kernel
theorem dX12_comes_21 : decode cX12_comes 21 = .ok (.iastore, 1) := by decide +kernel
theorem dX12_comes_22 : decode cX12_comes 22 = .ok (.iconst 0, 1) := by decide +kernel
theorem dX12_comes_23 : decode cX12_comes 23 = .ok (.istore_n 2, 1) := by decide +kernel
theorem dX12_comes_24 : decode cX12_comes 24 = .ok (.iload_n 2, 1) := by decide +kernel
theorem dX12_comes_25 : decode cX12_comes 25 = .ok (.aload_n 0, 1) := by decide +kernel
theorem dX12_comes_26 : decode cX12_comes 26 = .ok (.getfield 83, 3) := by decide +kernel
theorem dX12_comes_29 : decode cX12_comes 29 = .ok (.if_icmp .ge 29, 3) := by decide +kernel
theorem dX12_comes_32 : decode cX12_comes 32 = .ok (.aload_n 0, 1) := by decide +kernel
theorem dX12_comes_33 : decode cX12_comes 33 = .ok (.getfield 43, 3) := by decide +kernel
theorem dX12_comes_36 : decode cX12_comes 36 = .ok (.bipush 9, 2) := by decide +kernel
theorem dX12_comes_38 : decode cX12_comes 38 = .ok (.aload_n 0, 1) := by decide +kernel
theorem dX12_comes_39 : decode cX12_comes 39 = .ok (.getfield 131, 3) := by decide +kernel
theorem dX12_comes_42 : decode cX12_comes 42 = .ok (.imul, 1) := by decide +kernel
theorem dX12_comes_43 : decode cX12_comes 43 = .ok (.iload_n 2, 1) := by decide +kernel
theorem dX12_comes_44 : decode cX12_comes 44 = .ok (.iadd, 1) := by decide +kernel
theorem dX12_comes_45 : decode cX12_comes 45 = .ok (.aload_n 0, 1) := by decide +kernel
theorem dX12_comes_46 : decode cX12_comes 46 = .ok (.getfield 46, 3) := by decide +kernel
theorem dX12_comes_49 : decode cX12_comes 49 = .ok (.iload_n 2, 1) := by decide +kernel
theorem dX12_comes_50 : decode cX12_comes 50 = .ok (.iaload, 1) := by decide +kernel
theorem dX12_comes_51 : decode cX12_comes 51 = .ok (.iastore, 1) := by decide +kernel
theorem dX12_comes_52 : decode cX12_comes 52 = .ok (.iinc 2 1, 3) := by decide +kernel
theorem dX12_comes_55 : decode cX12_comes 55 = .ok (.goto (-31), 3) := by decide +kernel
theorem dX12_comes_58 : decode cX12_comes 58 = .ok (.aload_n 0, 1) := by decide +kernel
theorem dX12_comes_59 : decode cX12_comes 59 = .ok (.dup, 1) := by decide +kernel
theorem dX12_comes_60 : decode cX12_comes 60 = .ok (.getfield 131, 3) := by decide +kernel
theorem dX12_comes_63 : decode cX12_comes 63 = .ok (.iconst 1, 1) := by decide +kernel
theorem dX12_comes_64 : decode cX12_comes 64 = .ok (.iadd, 1) := by decide +kernel
theorem dX12_comes_65 : decode cX12_comes 65 = .ok (.putfield 131, 3) := by decide +kernel
theorem dX12_comes_68 : decode cX12_comes 68 = .ok (.aload_n 0, 1) := by decide +kernel
theorem dX12_comes_69 : decode cX12_comes 69 = .ok (.getfield 131, 3) := by decide +kernel
theorem dX12_comes_72 : decode cX12_comes 72 = .ok (.iconst 1, 1) := by decide +kernel
theorem dX12_comes_73 : decode cX12_comes 73 = .ok (.isub, 1) := by decide +kernel
theorem dX12_comes_74 : decode cX12_comes 74 = .ok (.ireturn, 1) := by decide +kernel
theorem dX12_order_0 : decode cX12_order 0 = .ok (.aload_n 0, 1) := by decide +kernel
theorem dX12_order_1 : decode cX12_order 1 = .ok (.iconst 0, 1) := by decide +kernel
theorem dX12_order_2 : decode cX12_order 2 = .ok (.putfield 73, 3) := by decide +kernel
theorem dX12_order_5 : decode cX12_order 5 = .ok (.iload_n 2, 1) := by decide +kernel
theorem dX12_order_6 : decode cX12_order 6 = .ok (.invokestatic 113, 3) := by decide +kernel
theorem dX12_order_9 : decode cX12_order 9 = .ok (.ifCond .ne 5, 3) := by decide +kernel
theorem dX12_order_12 : decode cX12_order 12 = .ok (.iconst (-1), 1) := by decide +kernel
theorem dX12_order_13 : decode cX12_order 13 = .ok (.ireturn, 1) := by decide +kernel
theorem dX12_order_14 : decode cX12_order 14 = .ok (.iload_n 1, 1) := by decide +kernel
theorem dX12_order_15 : decode cX12_order 15 = .ok (.iconst 0, 1) := by decide +kernel
theorem dX12_order_16 : decode cX12_order 16 = .ok (.iconst 2, 1) := by decide +kernel
theorem dX12_order_17 : decode cX12_order 17 = .ok (.invokestatic 79, 3) := by decide +kernel
theorem dX12_order_20 : decode cX12_order 20 = .ok (.ifCond .eq 10, 3) := by decide +kernel
theorem dX12_order_23 : decode cX12_order 23 = .ok (.iload_n 3, 1) := by decide +kernel
theorem dX12_order_24 : decode cX12_order 24 = .ok (.invokestatic 117, 3) := by decide +kernel
theorem dX12_order_27 : decode cX12_order 27 = .ok (.ifCond .ne 6, 3) := by decide +kernel
theorem dX12_order_30 : decode cX12_order 30 = .ok (.bipush (-2), 2) := by decide +kernel
theorem dX12_order_32 : decode cX12_order 32 = .ok (.ireturn, 1) := by decide +kernel
theorem dX12_order_33 : decode cX12_order 33 = .ok (.aload_n 0, 1) := by decide +kernel
theorem dX12_order_34 : decode cX12_order 34 = .ok (.iload_n 2, 1) := by decide +kernel
theorem dX12_order_35 : decode cX12_order 35 = .ok (.iload_n 3, 1) := by decide +kernel
theorem dX12_order_36 : decode cX12_order 36 = .ok (.iload 4, 2) := by decide +kernel
theorem dX12_order_38 : decode cX12_order 38 = .ok (.iload 5, 2) := by decide +kernel
theorem dX12_order_40 : decode cX12_order 40 = .ok (.invokevirtual 120, 3) := by decide +kernel
theorem dX12_order_43 : decode cX12_order 43 = .ok (.istore 6, 2) := by decide +kernel
theorem dX12_order_45 : decode cX12_order 45 = .ok (.iload 6, 2) := by decide +kernel
theorem dX12_order_47 : decode cX12_order 47 = .ok (.ifCond .eq 10, 3) := by decide +kernel
theorem dX12_order_50 : decode cX12_order 50 = .ok (.aload_n 0, 1) := by decide +kernel
theorem dX12_order_51 : decode cX12_order 51 = .ok (.iload 6, 2) := by decide +kernel
theorem dX12_order_53 : decode cX12_order 53 = .ok (.invokevirtual 124, 3) := by decide +kernel
theorem dX12_order_56 : decode cX12_order 56 = .ok (.ireturn, 1) := by decide +kernel
theorem dX12_order_57 : decode cX12_order 57 = .ok (.iload 5, 2) := by decide +kernel
theorem dX12_order_59 : decode cX12_order 59 = .ok (.aload_n 0, 1) := by decide +kernel
theorem dX12_order_60 : decode cX12_order 60 = .ok (.getfield 83, 3) := by decide +kernel
theorem dX12_order_63 : decode cX12_order 63 = .ok (.if_icmp .ne 8, 3) := by decide +kernel
theorem dX12_order_66 : decode cX12_order 66 = .ok (.iload 5, 2) := by decide +kernel
theorem dX12_order_68 : decode cX12_order 68 = .ok (.ifCond .ne 6, 3) := by decide +kernel
theorem dX12_order_71 : decode cX12_order 71 = .ok (.bipush (-2), 2) := by decide +kernel
theorem dX12_order_73 : decode cX12_order 73 = .ok (.ireturn, 1) := by decide +kernel
theorem dX12_order_74 : decode cX12_order 74 = .ok (.bipush 60, 2) := by decide +kernel
theorem dX12_order_76 : decode cX12_order 76 = .ok (.iload_n 2, 1) := by decide +kernel
theorem dX12_order_77 : decode cX12_order 77 = .ok (.imul, 1) := by decide +kernel
theorem dX12_order_78 : decode cX12_order 78 = .ok (.iload 4, 2) := by decide +kernel
theorem dX12_order_80 : decode cX12_order 80 = .ok (.iadd, 1) := by decide +kernel
theorem dX12_order_81 : decode cX12_order 81 = .ok (.istore 7, 2) := by decide +kernel
theorem dX12_order_83 : decode cX12_order 83 = .ok (.iconst 0, 1) := by decide +kernel
theorem dX12_order_84 : decode cX12_order 84 = .ok (.istore 8, 2) := by decide +kernel
theorem dX12_order_86 : decode cX12_order 86 = .ok (.iconst 0, 1) := by decide +kernel
theorem dX12_order_87 : decode cX12_order 87 = .ok (.istore 9, 2) := by decide +kernel
theorem dX12_order_89 : decode cX12_order 89 = .ok (.iload 9, 2) := by decide +kernel
theorem dX12_order_91 : decode cX12_order 91 = .ok (.iload 5, 2) := by decide +kernel
theorem dX12_order_93 : decode cX12_order 93 = .ok (.if_icmp .ge 28, 3) := by decide +kernel
theorem dX12_order_96 : decode cX12_order 96 = .ok (.aload_n 0, 1) := by decide +kernel
theorem dX12_order_97 : decode cX12_order 97 = .ok (.aload_n 0, 1) := by decide +kernel
theorem dX12_order_98 : decode cX12_order 98 = .ok (.getfield 16, 3) := by decide +kernel
theorem dX12_order_101 : decode cX12_order 101 = .ok (.iload 7, 2) := by decide +kernel
theorem dX12_order_103 : decode cX12_order 103 = .ok (.iload 9, 2) := by decide +kernel
theorem dX12_order_105 : decode cX12_order 105 = .ok (.iadd, 1) := by decide +kernel
theorem dX12_order_106 : decode cX12_order 106 = .ok (.iaload, 1) := by decide +kernel
theorem dX12_order_107 : decode cX12_order 107 = .ok (.invokevirtual 137, 3) := by decide +kernel
theorem dX12_order_110 : decode cX12_order 110 = .ok (.ifCond .ne 5, 3) := by decide +kernel
theorem dX12_order_113 : decode cX12_order 113 = .ok (.iconst (-1), 1) := by decide +kernel
theorem dX12_order_114 : decode cX12_order 114 = .ok (.ireturn, 1) := by decide +kernel
theorem dX12_order_115 : decode cX12_order 115 = .ok (.iinc 9 1, 3) := by decide +kernel
theorem dX12_order_118 : decode cX12_order 118 = .ok (.goto (-29), 3) := by decide +kernel
theorem dX12_order_121 : decode cX12_order 121 = .ok (.iconst 0, 1) := by decide +kernel
theorem dX12_order_122 : decode cX12_order 122 = .ok (.istore 9, 2) := by decide +kernel
theorem dX12_order_124 : decode cX12_order 124 = .ok (.iload 9, 2) := by decide +kernel
theorem dX12_order_126 : decode cX12_order 126 = .ok (.iload 5, 2) := by decide +kernel
theorem dX12_order_128 : decode cX12_order 128 = .ok (.if_icmp .ge 40, 3) := by decide +kernel
theorem dX12_order_131 : decode cX12_order 131 = .ok (.aload_n 0, 1) := by decide +kernel
theorem dX12_order_132 : decode cX12_order 132 = .ok (.getfield 46, 3) := by decide +kernel
theorem dX12_order_135 : decode cX12_order 135 = .ok (.iload 9, 2) := by decide +kernel
theorem dX12_order_137 : decode cX12_order 137 = .ok (.aload_n 0, 1) := by decide +kernel
theorem dX12_order_138 : decode cX12_order 138 = .ok (.getfield 16, 3) := by decide +kernel
theorem dX12_order_141 : decode cX12_order 141 = .ok (.iload 7, 2) := by decide +kernel
theorem dX12_order_143 : decode cX12_order 143 = .ok (.iload 9, 2) := by decide +kernel
theorem dX12_order_145 : decode cX12_order 145 = .ok (.iadd, 1) := by decide +kernel
theorem dX12_order_146 : decode cX12_order 146 = .ok (.iaload, 1) := by decide +kernel
theorem dX12_order_147 : decode cX12_order 147 = .ok (.iastore, 1) := by decide +kernel
theorem dX12_order_148 : decode cX12_order 148 = .ok (.iload 8, 2) := by decide +kernel
theorem dX12_order_150 : decode cX12_order 150 = .ok (.iconst 1, 1) := by decide +kernel
theorem dX12_order_151 : decode cX12_order 151 = .ok (.aload_n 0, 1) := by decide +kernel
theorem dX12_order_152 : decode cX12_order 152 = .ok (.getfield 46, 3) := by decide +kernel
theorem dX12_order_155 : decode cX12_order 155 = .ok (.iload 9, 2) := by decide +kernel
theorem dX12_order_157 : decode cX12_order 157 = .ok (.iaload, 1) := by decide +kernel
theorem dX12_order_158 : decode cX12_order 158 = .ok (.ishl, 1) := by decide +kernel
theorem dX12_order_159 : decode cX12_order 159 = .ok (.ior, 1) := by decide +kernel
theorem dX12_order_160 : decode cX12_order 160 = .ok (.istore 8, 2) := by decide +kernel
theorem dX12_order_162 : decode cX12_order 162 = .ok (.iinc 9 1, 3) := by decide +kernel
theorem dX12_order_165 : decode cX12_order 165 = .ok (.goto (-41), 3) := by decide +kernel
theorem dX12_order_168 : decode cX12_order 168 = .ok (.iload 8, 2) := by decide +kernel
theorem dX12_order_170 : decode cX12_order 170 = .ok (.aload_n 0, 1) := by decide +kernel
theorem dX12_order_171 : decode cX12_order 171 = .ok (.invokevirtual 134, 3) := by decide +kernel
theorem dX12_order_174 : decode cX12_order 174 = .ok (.if_icmp .ne 18, 3) := by decide +kernel
theorem dX12_order_177 : decode cX12_order 177 = .ok (.iload_n 1, 1) := by decide +kernel
theorem dX12_order_178 : decode cX12_order 178 = .ok (.ifCond .le 17, 3) := by decide +kernel
theorem dX12_order_181 : decode cX12_order 181 = .ok (.aload_n 0, 1) := by decide +kernel
theorem dX12_order_182 : decode cX12_order 182 = .ok (.aload_n 0, 1) := by decide +kernel
theorem dX12_order_183 : decode cX12_order 183 = .ok (.getfield 46, 3) := by decide +kernel
theorem dX12_order_186 : decode cX12_order 186 = .ok (.invokevirtual 150, 3) := by decide +kernel
theorem dX12_order_189 : decode cX12_order 189 = .ok (.ifCond .ne 6, 3) := by decide +kernel
theorem dX12_order_192 : decode cX12_order 192 = .ok (.bipush (-3), 2) := by decide +kernel
theorem dX12_order_194 : decode cX12_order 194 = .ok (.ireturn, 1) := by decide +kernel
theorem dX12_order_195 : decode cX12_order 195 = .ok (.aload_n 0, 1) := by decide +kernel
theorem dX12_order_196 : decode cX12_order 196 = .ok (.iload_n 1, 1) := by decide +kernel
theorem dX12_order_197 : decode cX12_order 197 = .ok (.invokevirtual 154, 3) := by decide +kernel
theorem dX12_order_200 : decode cX12_order 200 = .ok (.ireturn, 1) := by decide +kernel
theorem dX12_ofOrder_0 : decode cX12_ofOrder 0 = .ok (.aload_n 0, 1) := by decide +kernel
theorem dX12_ofOrder_1 : decode cX12_ofOrder 1 = .ok (.iload_n 1, 1) := by decide +kernel
theorem dX12_ofOrder_2 : decode cX12_ofOrder 2 = .ok (.invokevirtual 157, 3) := by decide +kernel
theorem dX12_ofOrder_5 : decode cX12_ofOrder 5 = .ok (.ifCond .ne 5, 3) := by decide +kernel
theorem dX12_ofOrder_8 : decode cX12_ofOrder 8 = .ok (.iconst (-1), 1) := by decide +kernel
theorem dX12_ofOrder_9 : decode cX12_ofOrder 9 = .ok (.ireturn, 1) := by decide +kernel
theorem dX12_ofOrder_10 : decode cX12_ofOrder 10 = .ok (.aload_n 0, 1) := by decide +kernel
theorem dX12_ofOrder_11 : decode cX12_ofOrder 11 = .ok (.iload_n 1, 1) := by decide +kernel
theorem dX12_ofOrder_12 : decode cX12_ofOrder 12 = .ok (.invokevirtual 160, 3) := by decide +kernel
theorem dX12_ofOrder_15 : decode cX12_ofOrder 15 = .ok (.iload_n 2, 1) := by decide +kernel
theorem dX12_ofOrder_16 : decode cX12_ofOrder 16 = .ok (.tableswitch 74 0 3 #[32, 39, 48, 57], 32) := by decide +kernel
theorem dX12_ofOrder_48 : decode cX12_ofOrder 48 = .ok (.aload_n 0, 1) := by decide +kernel
theorem dX12_ofOrder_49 : decode cX12_ofOrder 49 = .ok (.getfield 40, 3) := by decide +kernel
theorem dX12_ofOrder_52 : decode cX12_ofOrder 52 = .ok (.iload_n 1, 1) := by decide +kernel
theorem dX12_ofOrder_53 : decode cX12_ofOrder 53 = .ok (.iaload, 1) := by decide +kernel
theorem dX12_ofOrder_54 : decode cX12_ofOrder 54 = .ok (.ireturn, 1) := by decide +kernel
theorem dX12_ofOrder_55 : decode cX12_ofOrder 55 = .ok (.aload_n 0, 1) := by decide +kernel
theorem dX12_ofOrder_56 : decode cX12_ofOrder 56 = .ok (.aload_n 0, 1) := by decide +kernel
theorem dX12_ofOrder_57 : decode cX12_ofOrder 57 = .ok (.getfield 46, 3) := by decide +kernel
theorem dX12_ofOrder_60 : decode cX12_ofOrder 60 = .ok (.invokevirtual 164, 3) := by decide +kernel
theorem dX12_ofOrder_63 : decode cX12_ofOrder 63 = .ok (.ireturn, 1) := by decide +kernel
theorem dX12_ofOrder_64 : decode cX12_ofOrder 64 = .ok (.aload_n 0, 1) := by decide +kernel
theorem dX12_ofOrder_65 : decode cX12_ofOrder 65 = .ok (.aload_n 0, 1) := by decide +kernel
theorem dX12_ofOrder_66 : decode cX12_ofOrder 66 = .ok (.getfield 46, 3) := by decide +kernel
theorem dX12_ofOrder_69 : decode cX12_ofOrder 69 = .ok (.invokevirtual 168, 3) := by decide +kernel
theorem dX12_ofOrder_72 : decode cX12_ofOrder 72 = .ok (.ireturn, 1) := by decide +kernel
theorem dX12_ofOrder_73 : decode cX12_ofOrder 73 = .ok (.aload_n 0, 1) := by decide +kernel
theorem dX12_ofOrder_74 : decode cX12_ofOrder 74 = .ok (.aload_n 0, 1) := by decide +kernel
theorem dX12_ofOrder_75 : decode cX12_ofOrder 75 = .ok (.getfield 46, 3) := by decide +kernel
theorem dX12_ofOrder_78 : decode cX12_ofOrder 78 = .ok (.invokevirtual 150, 3) := by decide +kernel
theorem dX12_ofOrder_81 : decode cX12_ofOrder 81 = .ok (.ifCond .eq 7, 3) := by decide +kernel
theorem dX12_ofOrder_84 : decode cX12_ofOrder 84 = .ok (.iconst 1, 1) := by decide +kernel
theorem dX12_ofOrder_85 : decode cX12_ofOrder 85 = .ok (.goto 4, 3) := by decide +kernel
theorem dX12_ofOrder_88 : decode cX12_ofOrder 88 = .ok (.iconst 0, 1) := by decide +kernel
theorem dX12_ofOrder_89 : decode cX12_ofOrder 89 = .ok (.ireturn, 1) := by decide +kernel
theorem dX12_ofOrder_90 : decode cX12_ofOrder 90 = .ok (.iload_n 2, 1) := by decide +kernel
theorem dX12_ofOrder_91 : decode cX12_ofOrder 91 = .ok (.bipush 10, 2) := by decide +kernel
theorem dX12_ofOrder_93 : decode cX12_ofOrder 93 = .ok (.irem, 1) := by decide +kernel
theorem dX12_ofOrder_94 : decode cX12_ofOrder 94 = .ok (.istore_n 3, 1) := by decide +kernel
theorem dX12_ofOrder_95 : decode cX12_ofOrder 95 = .ok (.iload_n 2, 1) := by decide +kernel
theorem dX12_ofOrder_96 : decode cX12_ofOrder 96 = .ok (.bipush 10, 2) := by decide +kernel
theorem dX12_ofOrder_98 : decode cX12_ofOrder 98 = .ok (.if_icmp .lt 17, 3) := by decide +kernel
theorem dX12_ofOrder_101 : decode cX12_ofOrder 101 = .ok (.iload_n 2, 1) := by decide +kernel
theorem dX12_ofOrder_102 : decode cX12_ofOrder 102 = .ok (.bipush 38, 2) := by decide +kernel
theorem dX12_ofOrder_104 : decode cX12_ofOrder 104 = .ok (.if_icmp .gt 11, 3) := by decide +kernel
theorem dX12_ofOrder_107 : decode cX12_ofOrder 107 = .ok (.iload_n 3, 1) := by decide +kernel
theorem dX12_ofOrder_108 : decode cX12_ofOrder 108 = .ok (.aload_n 0, 1) := by decide +kernel
theorem dX12_ofOrder_109 : decode cX12_ofOrder 109 = .ok (.getfield 83, 3) := by decide +kernel
theorem dX12_ofOrder_112 : decode cX12_ofOrder 112 = .ok (.if_icmp .lt 6, 3) := by decide +kernel
theorem dX12_ofOrder_115 : decode cX12_ofOrder 115 = .ok (.bipush (-2), 2) := by decide +kernel
theorem dX12_ofOrder_117 : decode cX12_ofOrder 117 = .ok (.ireturn, 1) := by decide +kernel
theorem dX12_ofOrder_118 : decode cX12_ofOrder 118 = .ok (.iload_n 2, 1) := by decide +kernel
theorem dX12_ofOrder_119 : decode cX12_ofOrder 119 = .ok (.bipush 20, 2) := by decide +kernel
theorem dX12_ofOrder_121 : decode cX12_ofOrder 121 = .ok (.if_icmp .ge 12, 3) := by decide +kernel
theorem dX12_ofOrder_124 : decode cX12_ofOrder 124 = .ok (.aload_n 0, 1) := by decide +kernel
theorem dX12_ofOrder_125 : decode cX12_ofOrder 125 = .ok (.getfield 46, 3) := by decide +kernel
theorem dX12_ofOrder_128 : decode cX12_ofOrder 128 = .ok (.iload_n 3, 1) := by decide +kernel
theorem dX12_ofOrder_129 : decode cX12_ofOrder 129 = .ok (.iaload, 1) := by decide +kernel
theorem dX12_ofOrder_130 : decode cX12_ofOrder 130 = .ok (.goto 34, 3) := by decide +kernel
theorem dX12_ofOrder_133 : decode cX12_ofOrder 133 = .ok (.iload_n 2, 1) := by decide +kernel
theorem dX12_ofOrder_134 : decode cX12_ofOrder 134 = .ok (.bipush 30, 2) := by decide +kernel
theorem dX12_ofOrder_136 : decode cX12_ofOrder 136 = .ok (.if_icmp .ge 15, 3) := by decide +kernel
theorem dX12_ofOrder_139 : decode cX12_ofOrder 139 = .ok (.aload_n 0, 1) := by decide +kernel
theorem dX12_ofOrder_140 : decode cX12_ofOrder 140 = .ok (.aload_n 0, 1) := by decide +kernel
theorem dX12_ofOrder_141 : decode cX12_ofOrder 141 = .ok (.getfield 46, 3) := by decide +kernel
theorem dX12_ofOrder_144 : decode cX12_ofOrder 144 = .ok (.iload_n 3, 1) := by decide +kernel
theorem dX12_ofOrder_145 : decode cX12_ofOrder 145 = .ok (.invokevirtual 143, 3) := by decide +kernel
theorem dX12_ofOrder_148 : decode cX12_ofOrder 148 = .ok (.goto 16, 3) := by decide +kernel
theorem dX12_ofOrder_151 : decode cX12_ofOrder 151 = .ok (.aload_n 0, 1) := by decide +kernel
theorem dX12_ofOrder_152 : decode cX12_ofOrder 152 = .ok (.aload_n 0, 1) := by decide +kernel
theorem dX12_ofOrder_153 : decode cX12_ofOrder 153 = .ok (.aload_n 0, 1) := by decide +kernel
theorem dX12_ofOrder_154 : decode cX12_ofOrder 154 = .ok (.getfield 46, 3) := by decide +kernel
theorem dX12_ofOrder_157 : decode cX12_ofOrder 157 = .ok (.iload_n 3, 1) := by decide +kernel
theorem dX12_ofOrder_158 : decode cX12_ofOrder 158 = .ok (.invokevirtual 143, 3) := by decide +kernel
theorem dX12_ofOrder_161 : decode cX12_ofOrder 161 = .ok (.invokevirtual 147, 3) := by decide +kernel
theorem dX12_ofOrder_164 : decode cX12_ofOrder 164 = .ok (.ireturn, 1) := by decide +kernel
theorem dX12_layUnions_0 : decode cX12_layUnions 0 = .ok (.iconst 0, 1) := by decide +kernel
theorem dX12_layUnions_1 : decode cX12_layUnions 1 = .ok (.istore_n 1, 1) := by decide +kernel
theorem dX12_layUnions_2 : decode cX12_layUnions 2 = .ok (.iload_n 1, 1) := by decide +kernel
theorem dX12_layUnions_3 : decode cX12_layUnions 3 = .ok (.aload_n 0, 1) := by decide +kernel
theorem dX12_layUnions_4 : decode cX12_layUnions 4 = .ok (.invokevirtual 134, 3) := by decide +kernel
theorem dX12_layUnions_7 : decode cX12_layUnions 7 = .ok (.if_icmp .gt 20, 3) := by decide +kernel
theorem dX12_layUnions_10 : decode cX12_layUnions 10 = .ok (.aload_n 0, 1) := by decide +kernel
theorem dX12_layUnions_11 : decode cX12_layUnions 11 = .ok (.getfield 49, 3) := by decide +kernel
theorem dX12_layUnions_14 : decode cX12_layUnions 14 = .ok (.iload_n 1, 1) := by decide +kernel
theorem dX12_layUnions_15 : decode cX12_layUnions 15 = .ok (.aload_n 0, 1) := by decide +kernel
theorem dX12_layUnions_16 : decode cX12_layUnions 16 = .ok (.iload_n 1, 1) := by decide +kernel
theorem dX12_layUnions_17 : decode cX12_layUnions 17 = .ok (.invokevirtual 171, 3) := by decide +kernel
theorem dX12_layUnions_20 : decode cX12_layUnions 20 = .ok (.iastore, 1) := by decide +kernel
theorem dX12_layUnions_21 : decode cX12_layUnions 21 = .ok (.iinc 1 1, 3) := by decide +kernel
theorem dX12_layUnions_24 : decode cX12_layUnions 24 = .ok (.goto (-22), 3) := by decide +kernel
theorem dX12_layUnions_27 : decode cX12_layUnions 27 = .ok (.iconst 0, 1) := by decide +kernel
theorem dX12_layUnions_28 : decode cX12_layUnions 28 = .ok (.istore_n 1, 1) := by decide +kernel
theorem dX12_layUnions_29 : decode cX12_layUnions 29 = .ok (.iload_n 1, 1) := by decide +kernel
theorem dX12_layUnions_30 : decode cX12_layUnions 30 = .ok (.sipush 1024, 3) := by decide +kernel
theorem dX12_layUnions_33 : decode cX12_layUnions 33 = .ok (.if_icmp .ge 20, 3) := by decide +kernel
theorem dX12_layUnions_36 : decode cX12_layUnions 36 = .ok (.aload_n 0, 1) := by decide +kernel
theorem dX12_layUnions_37 : decode cX12_layUnions 37 = .ok (.getfield 58, 3) := by decide +kernel
theorem dX12_layUnions_40 : decode cX12_layUnions 40 = .ok (.iload_n 1, 1) := by decide +kernel
theorem dX12_layUnions_41 : decode cX12_layUnions 41 = .ok (.aload_n 0, 1) := by decide +kernel
theorem dX12_layUnions_42 : decode cX12_layUnions 42 = .ok (.iload_n 1, 1) := by decide +kernel
theorem dX12_layUnions_43 : decode cX12_layUnions 43 = .ok (.invokevirtual 147, 3) := by decide +kernel
theorem dX12_layUnions_46 : decode cX12_layUnions 46 = .ok (.iastore, 1) := by decide +kernel
theorem dX12_layUnions_47 : decode cX12_layUnions 47 = .ok (.iinc 1 1, 3) := by decide +kernel
theorem dX12_layUnions_50 : decode cX12_layUnions 50 = .ok (.goto (-21), 3) := by decide +kernel
theorem dX12_layUnions_53 : decode cX12_layUnions 53 = .ok (.return_, 1) := by decide +kernel
theorem dX12_wideBy_0 : decode cX12_wideBy 0 = .ok (.iload_n 1, 1) := by decide +kernel
theorem dX12_wideBy_1 : decode cX12_wideBy 1 = .ok (.iload_n 2, 1) := by decide +kernel
theorem dX12_wideBy_2 : decode cX12_wideBy 2 = .ok (.iconst (-1), 1) := by decide +kernel
theorem dX12_wideBy_3 : decode cX12_wideBy 3 = .ok (.ixor, 1) := by decide +kernel
theorem dX12_wideBy_4 : decode cX12_wideBy 4 = .ok (.iand, 1) := by decide +kernel
theorem dX12_wideBy_5 : decode cX12_wideBy 5 = .ok (.iconst 1, 1) := by decide +kernel
theorem dX12_wideBy_6 : decode cX12_wideBy 6 = .ok (.iload_n 3, 1) := by decide +kernel
theorem dX12_wideBy_7 : decode cX12_wideBy 7 = .ok (.ishl, 1) := by decide +kernel
theorem dX12_wideBy_8 : decode cX12_wideBy 8 = .ok (.iconst (-1), 1) := by decide +kernel
theorem dX12_wideBy_9 : decode cX12_wideBy 9 = .ok (.ixor, 1) := by decide +kernel
theorem dX12_wideBy_10 : decode cX12_wideBy 10 = .ok (.iand, 1) := by decide +kernel
theorem dX12_wideBy_11 : decode cX12_wideBy 11 = .ok (.istore 4, 2) := by decide +kernel
theorem dX12_wideBy_13 : decode cX12_wideBy 13 = .ok (.aload_n 0, 1) := by decide +kernel
theorem dX12_wideBy_14 : decode cX12_wideBy 14 = .ok (.getfield 58, 3) := by decide +kernel
theorem dX12_wideBy_17 : decode cX12_wideBy 17 = .ok (.aload_n 0, 1) := by decide +kernel
theorem dX12_wideBy_18 : decode cX12_wideBy 18 = .ok (.getfield 19, 3) := by decide +kernel
theorem dX12_wideBy_21 : decode cX12_wideBy 21 = .ok (.iload_n 3, 1) := by decide +kernel
theorem dX12_wideBy_22 : decode cX12_wideBy 22 = .ok (.iaload, 1) := by decide +kernel
theorem dX12_wideBy_23 : decode cX12_wideBy 23 = .ok (.aload_n 0, 1) := by decide +kernel
theorem dX12_wideBy_24 : decode cX12_wideBy 24 = .ok (.getfield 49, 3) := by decide +kernel
theorem dX12_wideBy_27 : decode cX12_wideBy 27 = .ok (.iload_n 2, 1) := by decide +kernel
theorem dX12_wideBy_28 : decode cX12_wideBy 28 = .ok (.iaload, 1) := by decide +kernel
theorem dX12_wideBy_29 : decode cX12_wideBy 29 = .ok (.aload_n 0, 1) := by decide +kernel
theorem dX12_wideBy_30 : decode cX12_wideBy 30 = .ok (.getfield 49, 3) := by decide +kernel
theorem dX12_wideBy_33 : decode cX12_wideBy 33 = .ok (.iload 4, 2) := by decide +kernel
theorem dX12_wideBy_35 : decode cX12_wideBy 35 = .ok (.iaload, 1) := by decide +kernel
theorem dX12_wideBy_36 : decode cX12_wideBy 36 = .ok (.iand, 1) := by decide +kernel
theorem dX12_wideBy_37 : decode cX12_wideBy 37 = .ok (.ior, 1) := by decide +kernel
theorem dX12_wideBy_38 : decode cX12_wideBy 38 = .ok (.iaload, 1) := by decide +kernel
theorem dX12_wideBy_39 : decode cX12_wideBy 39 = .ok (.ireturn, 1) := by decide +kernel
theorem dX12_mayCome_0 : decode cX12_mayCome 0 = .ok (.iload_n 1, 1) := by decide +kernel
theorem dX12_mayCome_1 : decode cX12_mayCome 1 = .ok (.iload_n 2, 1) := by decide +kernel
theorem dX12_mayCome_2 : decode cX12_mayCome 2 = .ok (.iconst (-1), 1) := by decide +kernel
theorem dX12_mayCome_3 : decode cX12_mayCome 3 = .ok (.ixor, 1) := by decide +kernel
theorem dX12_mayCome_4 : decode cX12_mayCome 4 = .ok (.iand, 1) := by decide +kernel
theorem dX12_mayCome_5 : decode cX12_mayCome 5 = .ok (.iload_n 3, 1) := by decide +kernel
theorem dX12_mayCome_6 : decode cX12_mayCome 6 = .ok (.invokestatic 96, 3) := by decide +kernel
theorem dX12_mayCome_9 : decode cX12_mayCome 9 = .ok (.ifCond .eq 22, 3) := by decide +kernel
theorem dX12_mayCome_12 : decode cX12_mayCome 12 = .ok (.aload_n 0, 1) := by decide +kernel
theorem dX12_mayCome_13 : decode cX12_mayCome 13 = .ok (.getfield 22, 3) := by decide +kernel
theorem dX12_mayCome_16 : decode cX12_mayCome 16 = .ok (.iload_n 3, 1) := by decide +kernel
theorem dX12_mayCome_17 : decode cX12_mayCome 17 = .ok (.iaload, 1) := by decide +kernel
theorem dX12_mayCome_18 : decode cX12_mayCome 18 = .ok (.iload_n 1, 1) := by decide +kernel
theorem dX12_mayCome_19 : decode cX12_mayCome 19 = .ok (.iand, 1) := by decide +kernel
theorem dX12_mayCome_20 : decode cX12_mayCome 20 = .ok (.iload_n 2, 1) := by decide +kernel
theorem dX12_mayCome_21 : decode cX12_mayCome 21 = .ok (.iconst (-1), 1) := by decide +kernel
theorem dX12_mayCome_22 : decode cX12_mayCome 22 = .ok (.ixor, 1) := by decide +kernel
theorem dX12_mayCome_23 : decode cX12_mayCome 23 = .ok (.iand, 1) := by decide +kernel
theorem dX12_mayCome_24 : decode cX12_mayCome 24 = .ok (.ifCond .ne 7, 3) := by decide +kernel
theorem dX12_mayCome_27 : decode cX12_mayCome 27 = .ok (.iconst 1, 1) := by decide +kernel
theorem dX12_mayCome_28 : decode cX12_mayCome 28 = .ok (.goto 4, 3) := by decide +kernel
theorem dX12_mayCome_31 : decode cX12_mayCome 31 = .ok (.iconst 0, 1) := by decide +kernel
theorem dX12_mayCome_32 : decode cX12_mayCome 32 = .ok (.ireturn, 1) := by decide +kernel
theorem dX12_layMost_0 : decode cX12_layMost 0 = .ok (.iload_n 1, 1) := by decide +kernel
theorem dX12_layMost_1 : decode cX12_layMost 1 = .ok (.istore_n 2, 1) := by decide +kernel
theorem dX12_layMost_2 : decode cX12_layMost 2 = .ok (.iload_n 2, 1) := by decide +kernel
theorem dX12_layMost_3 : decode cX12_layMost 3 = .ok (.ifCond .lt 128, 3) := by decide +kernel
theorem dX12_layMost_6 : decode cX12_layMost 6 = .ok (.iload_n 2, 1) := by decide +kernel
theorem dX12_layMost_7 : decode cX12_layMost 7 = .ok (.iload_n 1, 1) := by decide +kernel
theorem dX12_layMost_8 : decode cX12_layMost 8 = .ok (.iconst (-1), 1) := by decide +kernel
theorem dX12_layMost_9 : decode cX12_layMost 9 = .ok (.ixor, 1) := by decide +kernel
theorem dX12_layMost_10 : decode cX12_layMost 10 = .ok (.iand, 1) := by decide +kernel
theorem dX12_layMost_11 : decode cX12_layMost 11 = .ok (.ifCond .eq 6, 3) := by decide +kernel
theorem dX12_layMost_14 : decode cX12_layMost 14 = .ok (.goto 111, 3) := by decide +kernel
theorem dX12_layMost_17 : decode cX12_layMost 17 = .ok (.iload_n 2, 1) := by decide +kernel
theorem dX12_layMost_18 : decode cX12_layMost 18 = .ok (.iload_n 1, 1) := by decide +kernel
theorem dX12_layMost_19 : decode cX12_layMost 19 = .ok (.if_icmp .ne 7, 3) := by decide +kernel
theorem dX12_layMost_22 : decode cX12_layMost 22 = .ok (.iconst 0, 1) := by decide +kernel
theorem dX12_layMost_23 : decode cX12_layMost 23 = .ok (.goto 5, 3) := by decide +kernel
theorem dX12_layMost_26 : decode cX12_layMost 26 = .ok (.ldc 174, 2) := by decide +kernel
theorem dX12_layMost_28 : decode cX12_layMost 28 = .ok (.istore_n 3, 1) := by decide +kernel
theorem dX12_layMost_29 : decode cX12_layMost 29 = .ok (.iconst 0, 1) := by decide +kernel
theorem dX12_layMost_30 : decode cX12_layMost 30 = .ok (.istore 4, 2) := by decide +kernel
theorem dX12_layMost_32 : decode cX12_layMost 32 = .ok (.iload 4, 2) := by decide +kernel
theorem dX12_layMost_34 : decode cX12_layMost 34 = .ok (.aload_n 0, 1) := by decide +kernel
theorem dX12_layMost_35 : decode cX12_layMost 35 = .ok (.getfield 83, 3) := by decide +kernel
theorem dX12_layMost_38 : decode cX12_layMost 38 = .ok (.if_icmp .ge 80, 3) := by decide +kernel
theorem dX12_layMost_41 : decode cX12_layMost 41 = .ok (.iload_n 2, 1) := by decide +kernel
theorem dX12_layMost_42 : decode cX12_layMost 42 = .ok (.iload_n 1, 1) := by decide +kernel
theorem dX12_layMost_43 : decode cX12_layMost 43 = .ok (.if_icmp .eq 75, 3) := by decide +kernel
theorem dX12_layMost_46 : decode cX12_layMost 46 = .ok (.aload_n 0, 1) := by decide +kernel
theorem dX12_layMost_47 : decode cX12_layMost 47 = .ok (.iload_n 1, 1) := by decide +kernel
theorem dX12_layMost_48 : decode cX12_layMost 48 = .ok (.iload_n 2, 1) := by decide +kernel
theorem dX12_layMost_49 : decode cX12_layMost 49 = .ok (.iload 4, 2) := by decide +kernel
theorem dX12_layMost_51 : decode cX12_layMost 51 = .ok (.invokevirtual 175, 3) := by decide +kernel
theorem dX12_layMost_54 : decode cX12_layMost 54 = .ok (.ifCond .ne 6, 3) := by decide +kernel
theorem dX12_layMost_57 : decode cX12_layMost 57 = .ok (.goto 55, 3) := by decide +kernel
theorem dX12_layMost_60 : decode cX12_layMost 60 = .ok (.aload_n 0, 1) := by decide +kernel
theorem dX12_layMost_61 : decode cX12_layMost 61 = .ok (.iload_n 1, 1) := by decide +kernel
theorem dX12_layMost_62 : decode cX12_layMost 62 = .ok (.iload_n 2, 1) := by decide +kernel
theorem dX12_layMost_63 : decode cX12_layMost 63 = .ok (.iload 4, 2) := by decide +kernel
theorem dX12_layMost_65 : decode cX12_layMost 65 = .ok (.invokevirtual 178, 3) := by decide +kernel
theorem dX12_layMost_68 : decode cX12_layMost 68 = .ok (.istore 5, 2) := by decide +kernel
theorem dX12_layMost_70 : decode cX12_layMost 70 = .ok (.aload_n 0, 1) := by decide +kernel
theorem dX12_layMost_71 : decode cX12_layMost 71 = .ok (.getfield 52, 3) := by decide +kernel
theorem dX12_layMost_74 : decode cX12_layMost 74 = .ok (.iload_n 2, 1) := by decide +kernel
theorem dX12_layMost_75 : decode cX12_layMost 75 = .ok (.iconst 1, 1) := by decide +kernel
theorem dX12_layMost_76 : decode cX12_layMost 76 = .ok (.iload 4, 2) := by decide +kernel
theorem dX12_layMost_78 : decode cX12_layMost 78 = .ok (.ishl, 1) := by decide +kernel
theorem dX12_layMost_79 : decode cX12_layMost 79 = .ok (.ior, 1) := by decide +kernel
theorem dX12_layMost_80 : decode cX12_layMost 80 = .ok (.iaload, 1) := by decide +kernel
theorem dX12_layMost_81 : decode cX12_layMost 81 = .ok (.istore 6, 2) := by decide +kernel
theorem dX12_layMost_83 : decode cX12_layMost 83 = .ok (.iload 5, 2) := by decide +kernel
theorem dX12_layMost_85 : decode cX12_layMost 85 = .ok (.iload 6, 2) := by decide +kernel
theorem dX12_layMost_87 : decode cX12_layMost 87 = .ok (.if_icmp .le 8, 3) := by decide +kernel
theorem dX12_layMost_90 : decode cX12_layMost 90 = .ok (.iload 5, 2) := by decide +kernel
theorem dX12_layMost_92 : decode cX12_layMost 92 = .ok (.goto 5, 3) := by decide +kernel
theorem dX12_layMost_95 : decode cX12_layMost 95 = .ok (.iload 6, 2) := by decide +kernel
theorem dX12_layMost_97 : decode cX12_layMost 97 = .ok (.istore 7, 2) := by decide +kernel
theorem dX12_layMost_99 : decode cX12_layMost 99 = .ok (.iload 7, 2) := by decide +kernel
theorem dX12_layMost_101 : decode cX12_layMost 101 = .ok (.iload_n 3, 1) := by decide +kernel
theorem dX12_layMost_102 : decode cX12_layMost 102 = .ok (.if_icmp .ge 8, 3) := by decide +kernel
theorem dX12_layMost_105 : decode cX12_layMost 105 = .ok (.iload 7, 2) := by decide +kernel
theorem dX12_layMost_107 : decode cX12_layMost 107 = .ok (.goto 4, 3) := by decide +kernel
theorem dX12_layMost_110 : decode cX12_layMost 110 = .ok (.iload_n 3, 1) := by decide +kernel
theorem dX12_layMost_111 : decode cX12_layMost 111 = .ok (.istore_n 3, 1) := by decide +kernel
theorem dX12_layMost_112 : decode cX12_layMost 112 = .ok (.iinc 4 1, 3) := by decide +kernel
theorem dX12_layMost_115 : decode cX12_layMost 115 = .ok (.goto (-83), 3) := by decide +kernel
theorem dX12_layMost_118 : decode cX12_layMost 118 = .ok (.aload_n 0, 1) := by decide +kernel
theorem dX12_layMost_119 : decode cX12_layMost 119 = .ok (.getfield 52, 3) := by decide +kernel
theorem dX12_layMost_122 : decode cX12_layMost 122 = .ok (.iload_n 2, 1) := by decide +kernel
theorem dX12_layMost_123 : decode cX12_layMost 123 = .ok (.iload_n 3, 1) := by decide +kernel
theorem dX12_layMost_124 : decode cX12_layMost 124 = .ok (.iastore, 1) := by decide +kernel
theorem dX12_layMost_125 : decode cX12_layMost 125 = .ok (.iinc 2 (-1), 3) := by decide +kernel
theorem dX12_layMost_128 : decode cX12_layMost 128 = .ok (.goto (-126), 3) := by decide +kernel
theorem dX12_layMost_131 : decode cX12_layMost 131 = .ok (.return_, 1) := by decide +kernel
theorem dX12_layLong_0 : decode cX12_layLong 0 = .ok (.aload_n 0, 1) := by decide +kernel
theorem dX12_layLong_1 : decode cX12_layLong 1 = .ok (.invokevirtual 134, 3) := by decide +kernel
theorem dX12_layLong_4 : decode cX12_layLong 4 = .ok (.istore_n 2, 1) := by decide +kernel
theorem dX12_layLong_5 : decode cX12_layLong 5 = .ok (.iload_n 2, 1) := by decide +kernel
theorem dX12_layLong_6 : decode cX12_layLong 6 = .ok (.istore_n 3, 1) := by decide +kernel
theorem dX12_layLong_7 : decode cX12_layLong 7 = .ok (.iload_n 3, 1) := by decide +kernel
theorem dX12_layLong_8 : decode cX12_layLong 8 = .ok (.ifCond .lt 120, 3) := by decide +kernel
theorem dX12_layLong_11 : decode cX12_layLong 11 = .ok (.iload_n 3, 1) := by decide +kernel
theorem dX12_layLong_12 : decode cX12_layLong 12 = .ok (.iload_n 2, 1) := by decide +kernel
theorem dX12_layLong_13 : decode cX12_layLong 13 = .ok (.if_icmp .ne 7, 3) := by decide +kernel
theorem dX12_layLong_16 : decode cX12_layLong 16 = .ok (.iconst 0, 1) := by decide +kernel
theorem dX12_layLong_17 : decode cX12_layLong 17 = .ok (.goto 5, 3) := by decide +kernel
theorem dX12_layLong_20 : decode cX12_layLong 20 = .ok (.ldc 174, 2) := by decide +kernel
theorem dX12_layLong_22 : decode cX12_layLong 22 = .ok (.istore 4, 2) := by decide +kernel
theorem dX12_layLong_24 : decode cX12_layLong 24 = .ok (.iconst 0, 1) := by decide +kernel
theorem dX12_layLong_25 : decode cX12_layLong 25 = .ok (.istore 5, 2) := by decide +kernel
theorem dX12_layLong_27 : decode cX12_layLong 27 = .ok (.iload 5, 2) := by decide +kernel
theorem dX12_layLong_29 : decode cX12_layLong 29 = .ok (.aload_n 0, 1) := by decide +kernel
theorem dX12_layLong_30 : decode cX12_layLong 30 = .ok (.getfield 83, 3) := by decide +kernel
theorem dX12_layLong_33 : decode cX12_layLong 33 = .ok (.if_icmp .ge 81, 3) := by decide +kernel
theorem dX12_layLong_36 : decode cX12_layLong 36 = .ok (.iload_n 3, 1) := by decide +kernel
theorem dX12_layLong_37 : decode cX12_layLong 37 = .ok (.iload_n 2, 1) := by decide +kernel
theorem dX12_layLong_38 : decode cX12_layLong 38 = .ok (.if_icmp .eq 76, 3) := by decide +kernel
theorem dX12_layLong_41 : decode cX12_layLong 41 = .ok (.aload_n 0, 1) := by decide +kernel
theorem dX12_layLong_42 : decode cX12_layLong 42 = .ok (.iload_n 2, 1) := by decide +kernel
theorem dX12_layLong_43 : decode cX12_layLong 43 = .ok (.iload_n 3, 1) := by decide +kernel
theorem dX12_layLong_44 : decode cX12_layLong 44 = .ok (.iload 5, 2) := by decide +kernel
theorem dX12_layLong_46 : decode cX12_layLong 46 = .ok (.invokevirtual 175, 3) := by decide +kernel
theorem dX12_layLong_49 : decode cX12_layLong 49 = .ok (.ifCond .ne 6, 3) := by decide +kernel
theorem dX12_layLong_52 : decode cX12_layLong 52 = .ok (.goto 56, 3) := by decide +kernel
theorem dX12_layLong_55 : decode cX12_layLong 55 = .ok (.aload_n 0, 1) := by decide +kernel
theorem dX12_layLong_56 : decode cX12_layLong 56 = .ok (.iload_n 2, 1) := by decide +kernel
theorem dX12_layLong_57 : decode cX12_layLong 57 = .ok (.iload_n 3, 1) := by decide +kernel
theorem dX12_layLong_58 : decode cX12_layLong 58 = .ok (.iload 5, 2) := by decide +kernel
theorem dX12_layLong_60 : decode cX12_layLong 60 = .ok (.invokevirtual 178, 3) := by decide +kernel
theorem dX12_layLong_63 : decode cX12_layLong 63 = .ok (.istore 6, 2) := by decide +kernel
theorem dX12_layLong_65 : decode cX12_layLong 65 = .ok (.iload 6, 2) := by decide +kernel
theorem dX12_layLong_67 : decode cX12_layLong 67 = .ok (.iload_n 1, 1) := by decide +kernel
theorem dX12_layLong_68 : decode cX12_layLong 68 = .ok (.if_icmp .le 8, 3) := by decide +kernel
theorem dX12_layLong_71 : decode cX12_layLong 71 = .ok (.ldc 174, 2) := by decide +kernel
theorem dX12_layLong_73 : decode cX12_layLong 73 = .ok (.goto 17, 3) := by decide +kernel
theorem dX12_layLong_76 : decode cX12_layLong 76 = .ok (.iload 6, 2) := by decide +kernel
theorem dX12_layLong_78 : decode cX12_layLong 78 = .ok (.aload_n 0, 1) := by decide +kernel
theorem dX12_layLong_79 : decode cX12_layLong 79 = .ok (.getfield 55, 3) := by decide +kernel
theorem dX12_layLong_82 : decode cX12_layLong 82 = .ok (.iload_n 3, 1) := by decide +kernel
theorem dX12_layLong_83 : decode cX12_layLong 83 = .ok (.iconst 1, 1) := by decide +kernel
theorem dX12_layLong_84 : decode cX12_layLong 84 = .ok (.iload 5, 2) := by decide +kernel
theorem dX12_layLong_86 : decode cX12_layLong 86 = .ok (.ishl, 1) := by decide +kernel
theorem dX12_layLong_87 : decode cX12_layLong 87 = .ok (.ior, 1) := by decide +kernel
theorem dX12_layLong_88 : decode cX12_layLong 88 = .ok (.iaload, 1) := by decide +kernel
theorem dX12_layLong_89 : decode cX12_layLong 89 = .ok (.iadd, 1) := by decide +kernel
theorem dX12_layLong_90 : decode cX12_layLong 90 = .ok (.istore 7, 2) := by decide +kernel
theorem dX12_layLong_92 : decode cX12_layLong 92 = .ok (.iload 7, 2) := by decide +kernel
theorem dX12_layLong_94 : decode cX12_layLong 94 = .ok (.iload 4, 2) := by decide +kernel
theorem dX12_layLong_96 : decode cX12_layLong 96 = .ok (.if_icmp .ge 8, 3) := by decide +kernel
theorem dX12_layLong_99 : decode cX12_layLong 99 = .ok (.iload 7, 2) := by decide +kernel
theorem dX12_layLong_101 : decode cX12_layLong 101 = .ok (.goto 5, 3) := by decide +kernel
theorem dX12_layLong_104 : decode cX12_layLong 104 = .ok (.iload 4, 2) := by decide +kernel
theorem dX12_layLong_106 : decode cX12_layLong 106 = .ok (.istore 4, 2) := by decide +kernel
theorem dX12_layLong_108 : decode cX12_layLong 108 = .ok (.iinc 5 1, 3) := by decide +kernel
theorem dX12_layLong_111 : decode cX12_layLong 111 = .ok (.goto (-84), 3) := by decide +kernel
theorem dX12_layLong_114 : decode cX12_layLong 114 = .ok (.aload_n 0, 1) := by decide +kernel
theorem dX12_layLong_115 : decode cX12_layLong 115 = .ok (.getfield 55, 3) := by decide +kernel
theorem dX12_layLong_118 : decode cX12_layLong 118 = .ok (.iload_n 3, 1) := by decide +kernel
theorem dX12_layLong_119 : decode cX12_layLong 119 = .ok (.iload 4, 2) := by decide +kernel
theorem dX12_layLong_121 : decode cX12_layLong 121 = .ok (.iastore, 1) := by decide +kernel
theorem dX12_layLong_122 : decode cX12_layLong 122 = .ok (.iinc 3 (-1), 3) := by decide +kernel
theorem dX12_layLong_125 : decode cX12_layLong 125 = .ok (.goto (-118), 3) := by decide +kernel
theorem dX12_layLong_128 : decode cX12_layLong 128 = .ok (.return_, 1) := by decide +kernel
theorem dX12_nextFrom_0 : decode cX12_nextFrom 0 = .ok (.iconst 0, 1) := by decide +kernel
theorem dX12_nextFrom_1 : decode cX12_nextFrom 1 = .ok (.istore_n 3, 1) := by decide +kernel
theorem dX12_nextFrom_2 : decode cX12_nextFrom 2 = .ok (.iload_n 3, 1) := by decide +kernel
theorem dX12_nextFrom_3 : decode cX12_nextFrom 3 = .ok (.aload_n 0, 1) := by decide +kernel
theorem dX12_nextFrom_4 : decode cX12_nextFrom 4 = .ok (.getfield 83, 3) := by decide +kernel
theorem dX12_nextFrom_7 : decode cX12_nextFrom 7 = .ok (.if_icmp .ge 64, 3) := by decide +kernel
theorem dX12_nextFrom_10 : decode cX12_nextFrom 10 = .ok (.aload_n 0, 1) := by decide +kernel
theorem dX12_nextFrom_11 : decode cX12_nextFrom 11 = .ok (.aload_n 0, 1) := by decide +kernel
theorem dX12_nextFrom_12 : decode cX12_nextFrom 12 = .ok (.invokevirtual 134, 3) := by decide +kernel
theorem dX12_nextFrom_15 : decode cX12_nextFrom 15 = .ok (.iload_n 1, 1) := by decide +kernel
theorem dX12_nextFrom_16 : decode cX12_nextFrom 16 = .ok (.iload_n 3, 1) := by decide +kernel
theorem dX12_nextFrom_17 : decode cX12_nextFrom 17 = .ok (.invokevirtual 175, 3) := by decide +kernel
theorem dX12_nextFrom_20 : decode cX12_nextFrom 20 = .ok (.ifCond .eq 45, 3) := by decide +kernel
theorem dX12_nextFrom_23 : decode cX12_nextFrom 23 = .ok (.aload_n 0, 1) := by decide +kernel
theorem dX12_nextFrom_24 : decode cX12_nextFrom 24 = .ok (.aload_n 0, 1) := by decide +kernel
theorem dX12_nextFrom_25 : decode cX12_nextFrom 25 = .ok (.invokevirtual 134, 3) := by decide +kernel
theorem dX12_nextFrom_28 : decode cX12_nextFrom 28 = .ok (.iload_n 1, 1) := by decide +kernel
theorem dX12_nextFrom_29 : decode cX12_nextFrom 29 = .ok (.iload_n 3, 1) := by decide +kernel
theorem dX12_nextFrom_30 : decode cX12_nextFrom 30 = .ok (.invokevirtual 178, 3) := by decide +kernel
theorem dX12_nextFrom_33 : decode cX12_nextFrom 33 = .ok (.istore 4, 2) := by decide +kernel
theorem dX12_nextFrom_35 : decode cX12_nextFrom 35 = .ok (.iload 4, 2) := by decide +kernel
theorem dX12_nextFrom_37 : decode cX12_nextFrom 37 = .ok (.iload_n 2, 1) := by decide +kernel
theorem dX12_nextFrom_38 : decode cX12_nextFrom 38 = .ok (.if_icmp .gt 27, 3) := by decide +kernel
theorem dX12_nextFrom_41 : decode cX12_nextFrom 41 = .ok (.iload 4, 2) := by decide +kernel
theorem dX12_nextFrom_43 : decode cX12_nextFrom 43 = .ok (.aload_n 0, 1) := by decide +kernel
theorem dX12_nextFrom_44 : decode cX12_nextFrom 44 = .ok (.getfield 55, 3) := by decide +kernel
theorem dX12_nextFrom_47 : decode cX12_nextFrom 47 = .ok (.iload_n 1, 1) := by decide +kernel
theorem dX12_nextFrom_48 : decode cX12_nextFrom 48 = .ok (.iconst 1, 1) := by decide +kernel
theorem dX12_nextFrom_49 : decode cX12_nextFrom 49 = .ok (.iload_n 3, 1) := by decide +kernel
theorem dX12_nextFrom_50 : decode cX12_nextFrom 50 = .ok (.ishl, 1) := by decide +kernel
theorem dX12_nextFrom_51 : decode cX12_nextFrom 51 = .ok (.ior, 1) := by decide +kernel
theorem dX12_nextFrom_52 : decode cX12_nextFrom 52 = .ok (.iaload, 1) := by decide +kernel
theorem dX12_nextFrom_53 : decode cX12_nextFrom 53 = .ok (.iadd, 1) := by decide +kernel
theorem dX12_nextFrom_54 : decode cX12_nextFrom 54 = .ok (.aload_n 0, 1) := by decide +kernel
theorem dX12_nextFrom_55 : decode cX12_nextFrom 55 = .ok (.getfield 55, 3) := by decide +kernel
theorem dX12_nextFrom_58 : decode cX12_nextFrom 58 = .ok (.iload_n 1, 1) := by decide +kernel
theorem dX12_nextFrom_59 : decode cX12_nextFrom 59 = .ok (.iaload, 1) := by decide +kernel
theorem dX12_nextFrom_60 : decode cX12_nextFrom 60 = .ok (.if_icmp .ne 5, 3) := by decide +kernel
theorem dX12_nextFrom_63 : decode cX12_nextFrom 63 = .ok (.iload_n 3, 1) := by decide +kernel
theorem dX12_nextFrom_64 : decode cX12_nextFrom 64 = .ok (.ireturn, 1) := by decide +kernel
theorem dX12_nextFrom_65 : decode cX12_nextFrom 65 = .ok (.iinc 3 1, 3) := by decide +kernel
theorem dX12_nextFrom_68 : decode cX12_nextFrom 68 = .ok (.goto (-66), 3) := by decide +kernel
theorem dX12_nextFrom_71 : decode cX12_nextFrom 71 = .ok (.bipush (-9), 2) := by decide +kernel
theorem dX12_nextFrom_73 : decode cX12_nextFrom 73 = .ok (.ireturn, 1) := by decide +kernel
theorem dX12_leastBy_0 : decode cX12_leastBy 0 = .ok (.aload_n 0, 1) := by decide +kernel
theorem dX12_leastBy_1 : decode cX12_leastBy 1 = .ok (.iload_n 1, 1) := by decide +kernel
theorem dX12_leastBy_2 : decode cX12_leastBy 2 = .ok (.invokevirtual 182, 3) := by decide +kernel
theorem dX12_leastBy_5 : decode cX12_leastBy 5 = .ok (.aload_n 0, 1) := by decide +kernel
theorem dX12_leastBy_6 : decode cX12_leastBy 6 = .ok (.getfield 52, 3) := by decide +kernel
theorem dX12_leastBy_9 : decode cX12_leastBy 9 = .ok (.iconst 0, 1) := by decide +kernel
theorem dX12_leastBy_10 : decode cX12_leastBy 10 = .ok (.iaload, 1) := by decide +kernel
theorem dX12_leastBy_11 : decode cX12_leastBy 11 = .ok (.ireturn, 1) := by decide +kernel
theorem dX12_leastOf_0 : decode cX12_leastOf 0 = .ok (.aload_n 0, 1) := by decide +kernel
theorem dX12_leastOf_1 : decode cX12_leastOf 1 = .ok (.invokevirtual 185, 3) := by decide +kernel
theorem dX12_leastOf_4 : decode cX12_leastOf 4 = .ok (.aload_n 0, 1) := by decide +kernel
theorem dX12_leastOf_5 : decode cX12_leastOf 5 = .ok (.iload_n 1, 1) := by decide +kernel
theorem dX12_leastOf_6 : decode cX12_leastOf 6 = .ok (.invokevirtual 188, 3) := by decide +kernel
theorem dX12_leastOf_9 : decode cX12_leastOf 9 = .ok (.ireturn, 1) := by decide +kernel
theorem dX12_best_0 : decode cX12_best 0 = .ok (.aload_n 0, 1) := by decide +kernel
theorem dX12_best_1 : decode cX12_best 1 = .ok (.getfield 83, 3) := by decide +kernel
theorem dX12_best_4 : decode cX12_best 4 = .ok (.ifCond .ne 6, 3) := by decide +kernel
theorem dX12_best_7 : decode cX12_best 7 = .ok (.bipush (-3), 2) := by decide +kernel
theorem dX12_best_9 : decode cX12_best 9 = .ok (.ireturn, 1) := by decide +kernel
theorem dX12_best_10 : decode cX12_best 10 = .ok (.iload_n 1, 1) := by decide +kernel
theorem dX12_best_11 : decode cX12_best 11 = .ok (.ifCond .eq 27, 3) := by decide +kernel
theorem dX12_best_14 : decode cX12_best 14 = .ok (.iload_n 1, 1) := by decide +kernel
theorem dX12_best_15 : decode cX12_best 15 = .ok (.iconst 1, 1) := by decide +kernel
theorem dX12_best_16 : decode cX12_best 16 = .ok (.if_icmp .eq 22, 3) := by decide +kernel
theorem dX12_best_19 : decode cX12_best 19 = .ok (.iload_n 1, 1) := by decide +kernel
theorem dX12_best_20 : decode cX12_best 20 = .ok (.bipush 10, 2) := by decide +kernel
theorem dX12_best_22 : decode cX12_best 22 = .ok (.bipush 9, 2) := by decide +kernel
theorem dX12_best_24 : decode cX12_best 24 = .ok (.aload_n 0, 1) := by decide +kernel
theorem dX12_best_25 : decode cX12_best 25 = .ok (.getfield 83, 3) := by decide +kernel
theorem dX12_best_28 : decode cX12_best 28 = .ok (.iadd, 1) := by decide +kernel
theorem dX12_best_29 : decode cX12_best 29 = .ok (.invokestatic 79, 3) := by decide +kernel
theorem dX12_best_32 : decode cX12_best 32 = .ok (.ifCond .ne 6, 3) := by decide +kernel
theorem dX12_best_35 : decode cX12_best 35 = .ok (.bipush (-2), 2) := by decide +kernel
theorem dX12_best_37 : decode cX12_best 37 = .ok (.ireturn, 1) := by decide +kernel
theorem dX12_best_38 : decode cX12_best 38 = .ok (.aload_n 0, 1) := by decide +kernel
theorem dX12_best_39 : decode cX12_best 39 = .ok (.aload_n 0, 1) := by decide +kernel
theorem dX12_best_40 : decode cX12_best 40 = .ok (.invokevirtual 134, 3) := by decide +kernel
theorem dX12_best_43 : decode cX12_best 43 = .ok (.invokevirtual 191, 3) := by decide +kernel
theorem dX12_best_46 : decode cX12_best 46 = .ok (.istore_n 2, 1) := by decide +kernel
theorem dX12_best_47 : decode cX12_best 47 = .ok (.iload_n 1, 1) := by decide +kernel
theorem dX12_best_48 : decode cX12_best 48 = .ok (.ifCond .ne 5, 3) := by decide +kernel
theorem dX12_best_51 : decode cX12_best 51 = .ok (.iload_n 2, 1) := by decide +kernel
theorem dX12_best_52 : decode cX12_best 52 = .ok (.ireturn, 1) := by decide +kernel
theorem dX12_best_53 : decode cX12_best 53 = .ok (.aload_n 0, 1) := by decide +kernel
theorem dX12_best_54 : decode cX12_best 54 = .ok (.iload_n 2, 1) := by decide +kernel
theorem dX12_best_55 : decode cX12_best 55 = .ok (.invokevirtual 194, 3) := by decide +kernel
theorem dX12_best_58 : decode cX12_best 58 = .ok (.iload_n 1, 1) := by decide +kernel
theorem dX12_best_59 : decode cX12_best 59 = .ok (.iconst 1, 1) := by decide +kernel
theorem dX12_best_60 : decode cX12_best 60 = .ok (.if_icmp .ne 10, 3) := by decide +kernel
theorem dX12_best_63 : decode cX12_best 63 = .ok (.aload_n 0, 1) := by decide +kernel
theorem dX12_best_64 : decode cX12_best 64 = .ok (.getfield 55, 3) := by decide +kernel
theorem dX12_best_67 : decode cX12_best 67 = .ok (.iconst 0, 1) := by decide +kernel
theorem dX12_best_68 : decode cX12_best 68 = .ok (.iaload, 1) := by decide +kernel
theorem dX12_best_69 : decode cX12_best 69 = .ok (.ireturn, 1) := by decide +kernel
theorem dX12_best_70 : decode cX12_best 70 = .ok (.iconst 0, 1) := by decide +kernel
theorem dX12_best_71 : decode cX12_best 71 = .ok (.istore_n 3, 1) := by decide +kernel
theorem dX12_best_72 : decode cX12_best 72 = .ok (.aload_n 0, 1) := by decide +kernel
theorem dX12_best_73 : decode cX12_best 73 = .ok (.iconst 0, 1) := by decide +kernel
theorem dX12_best_74 : decode cX12_best 74 = .ok (.iload_n 2, 1) := by decide +kernel
theorem dX12_best_75 : decode cX12_best 75 = .ok (.invokevirtual 197, 3) := by decide +kernel
theorem dX12_best_78 : decode cX12_best 78 = .ok (.istore 4, 2) := by decide +kernel
theorem dX12_best_80 : decode cX12_best 80 = .ok (.iconst 0, 1) := by decide +kernel
theorem dX12_best_81 : decode cX12_best 81 = .ok (.istore 5, 2) := by decide +kernel
theorem dX12_best_83 : decode cX12_best 83 = .ok (.iload 5, 2) := by decide +kernel
theorem dX12_best_85 : decode cX12_best 85 = .ok (.iload_n 1, 1) := by decide +kernel
theorem dX12_best_86 : decode cX12_best 86 = .ok (.bipush 10, 2) := by decide +kernel
theorem dX12_best_88 : decode cX12_best 88 = .ok (.isub, 1) := by decide +kernel
theorem dX12_best_89 : decode cX12_best 89 = .ok (.if_icmp .ge 24, 3) := by decide +kernel
theorem dX12_best_92 : decode cX12_best 92 = .ok (.iload_n 3, 1) := by decide +kernel
theorem dX12_best_93 : decode cX12_best 93 = .ok (.iconst 1, 1) := by decide +kernel
theorem dX12_best_94 : decode cX12_best 94 = .ok (.iload 4, 2) := by decide +kernel
theorem dX12_best_96 : decode cX12_best 96 = .ok (.ishl, 1) := by decide +kernel
theorem dX12_best_97 : decode cX12_best 97 = .ok (.ior, 1) := by decide +kernel
theorem dX12_best_98 : decode cX12_best 98 = .ok (.istore_n 3, 1) := by decide +kernel
theorem dX12_best_99 : decode cX12_best 99 = .ok (.aload_n 0, 1) := by decide +kernel
theorem dX12_best_100 : decode cX12_best 100 = .ok (.iload_n 3, 1) := by decide +kernel
theorem dX12_best_101 : decode cX12_best 101 = .ok (.iload_n 2, 1) := by decide +kernel
theorem dX12_best_102 : decode cX12_best 102 = .ok (.invokevirtual 197, 3) := by decide +kernel
theorem dX12_best_105 : decode cX12_best 105 = .ok (.istore 4, 2) := by decide +kernel
theorem dX12_best_107 : decode cX12_best 107 = .ok (.iinc 5 1, 3) := by decide +kernel
theorem dX12_best_110 : decode cX12_best 110 = .ok (.goto (-27), 3) := by decide +kernel
theorem dX12_best_113 : decode cX12_best 113 = .ok (.iload 4, 2) := by decide +kernel
theorem dX12_best_115 : decode cX12_best 115 = .ok (.ireturn, 1) := by decide +kernel
theorem dX12_from_0 : decode cX12_from 0 = .ok (.aload_n 0, 1) := by decide +kernel
theorem dX12_from_1 : decode cX12_from 1 = .ok (.iload_n 1, 1) := by decide +kernel
theorem dX12_from_2 : decode cX12_from 2 = .ok (.invokevirtual 157, 3) := by decide +kernel
theorem dX12_from_5 : decode cX12_from 5 = .ok (.ifCond .ne 5, 3) := by decide +kernel
theorem dX12_from_8 : decode cX12_from 8 = .ok (.iconst (-1), 1) := by decide +kernel
theorem dX12_from_9 : decode cX12_from 9 = .ok (.ireturn, 1) := by decide +kernel
theorem dX12_from_10 : decode cX12_from 10 = .ok (.iload_n 2, 1) := by decide +kernel
theorem dX12_from_11 : decode cX12_from 11 = .ok (.iconst 0, 1) := by decide +kernel
theorem dX12_from_12 : decode cX12_from 12 = .ok (.aload_n 0, 1) := by decide +kernel
theorem dX12_from_13 : decode cX12_from 13 = .ok (.getfield 83, 3) := by decide +kernel
theorem dX12_from_16 : decode cX12_from 16 = .ok (.invokestatic 79, 3) := by decide +kernel
theorem dX12_from_19 : decode cX12_from 19 = .ok (.ifCond .eq 12, 3) := by decide +kernel
theorem dX12_from_22 : decode cX12_from 22 = .ok (.iload_n 3, 1) := by decide +kernel
theorem dX12_from_23 : decode cX12_from 23 = .ok (.iconst 0, 1) := by decide +kernel
theorem dX12_from_24 : decode cX12_from 24 = .ok (.iconst 2, 1) := by decide +kernel
theorem dX12_from_25 : decode cX12_from 25 = .ok (.invokestatic 79, 3) := by decide +kernel
theorem dX12_from_28 : decode cX12_from 28 = .ok (.ifCond .ne 6, 3) := by decide +kernel
theorem dX12_from_31 : decode cX12_from 31 = .ok (.bipush (-2), 2) := by decide +kernel
theorem dX12_from_33 : decode cX12_from 33 = .ok (.ireturn, 1) := by decide +kernel
theorem dX12_from_34 : decode cX12_from 34 = .ok (.aload_n 0, 1) := by decide +kernel
theorem dX12_from_35 : decode cX12_from 35 = .ok (.iload_n 1, 1) := by decide +kernel
theorem dX12_from_36 : decode cX12_from 36 = .ok (.invokevirtual 160, 3) := by decide +kernel
theorem dX12_from_39 : decode cX12_from 39 = .ok (.iconst 0, 1) := by decide +kernel
theorem dX12_from_40 : decode cX12_from 40 = .ok (.istore 4, 2) := by decide +kernel
theorem dX12_from_42 : decode cX12_from 42 = .ok (.iconst 0, 1) := by decide +kernel
theorem dX12_from_43 : decode cX12_from 43 = .ok (.istore 5, 2) := by decide +kernel
theorem dX12_from_45 : decode cX12_from 45 = .ok (.iload 5, 2) := by decide +kernel
theorem dX12_from_47 : decode cX12_from 47 = .ok (.iload_n 2, 1) := by decide +kernel
theorem dX12_from_48 : decode cX12_from 48 = .ok (.if_icmp .ge 23, 3) := by decide +kernel
theorem dX12_from_51 : decode cX12_from 51 = .ok (.iload 4, 2) := by decide +kernel
theorem dX12_from_53 : decode cX12_from 53 = .ok (.iconst 1, 1) := by decide +kernel
theorem dX12_from_54 : decode cX12_from 54 = .ok (.aload_n 0, 1) := by decide +kernel
theorem dX12_from_55 : decode cX12_from 55 = .ok (.getfield 46, 3) := by decide +kernel
theorem dX12_from_58 : decode cX12_from 58 = .ok (.iload 5, 2) := by decide +kernel
theorem dX12_from_60 : decode cX12_from 60 = .ok (.iaload, 1) := by decide +kernel
theorem dX12_from_61 : decode cX12_from 61 = .ok (.ishl, 1) := by decide +kernel
theorem dX12_from_62 : decode cX12_from 62 = .ok (.ior, 1) := by decide +kernel
theorem dX12_from_63 : decode cX12_from 63 = .ok (.istore 4, 2) := by decide +kernel
theorem dX12_from_65 : decode cX12_from 65 = .ok (.iinc 5 1, 3) := by decide +kernel
theorem dX12_from_68 : decode cX12_from 68 = .ok (.goto (-23), 3) := by decide +kernel
theorem dX12_from_71 : decode cX12_from 71 = .ok (.iconst 0, 1) := by decide +kernel
theorem dX12_from_72 : decode cX12_from 72 = .ok (.istore 5, 2) := by decide +kernel
theorem dX12_from_74 : decode cX12_from 74 = .ok (.iload 5, 2) := by decide +kernel
theorem dX12_from_76 : decode cX12_from 76 = .ok (.iload_n 2, 1) := by decide +kernel
theorem dX12_from_77 : decode cX12_from 77 = .ok (.if_icmp .ge 32, 3) := by decide +kernel
theorem dX12_from_80 : decode cX12_from 80 = .ok (.aload_n 0, 1) := by decide +kernel
theorem dX12_from_81 : decode cX12_from 81 = .ok (.getfield 22, 3) := by decide +kernel
theorem dX12_from_84 : decode cX12_from 84 = .ok (.aload_n 0, 1) := by decide +kernel
theorem dX12_from_85 : decode cX12_from 85 = .ok (.getfield 46, 3) := by decide +kernel
theorem dX12_from_88 : decode cX12_from 88 = .ok (.iload 5, 2) := by decide +kernel
theorem dX12_from_90 : decode cX12_from 90 = .ok (.iaload, 1) := by decide +kernel
theorem dX12_from_91 : decode cX12_from 91 = .ok (.iaload, 1) := by decide +kernel
theorem dX12_from_92 : decode cX12_from 92 = .ok (.iload 4, 2) := by decide +kernel
theorem dX12_from_94 : decode cX12_from 94 = .ok (.iconst (-1), 1) := by decide +kernel
theorem dX12_from_95 : decode cX12_from 95 = .ok (.ixor, 1) := by decide +kernel
theorem dX12_from_96 : decode cX12_from 96 = .ok (.iand, 1) := by decide +kernel
theorem dX12_from_97 : decode cX12_from 97 = .ok (.ifCond .eq 6, 3) := by decide +kernel
theorem dX12_from_100 : decode cX12_from 100 = .ok (.bipush (-3), 2) := by decide +kernel
theorem dX12_from_102 : decode cX12_from 102 = .ok (.ireturn, 1) := by decide +kernel
theorem dX12_from_103 : decode cX12_from 103 = .ok (.iinc 5 1, 3) := by decide +kernel
theorem dX12_from_106 : decode cX12_from 106 = .ok (.goto (-32), 3) := by decide +kernel
theorem dX12_from_109 : decode cX12_from 109 = .ok (.aload_n 0, 1) := by decide +kernel
theorem dX12_from_110 : decode cX12_from 110 = .ok (.aload_n 0, 1) := by decide +kernel
theorem dX12_from_111 : decode cX12_from 111 = .ok (.invokevirtual 134, 3) := by decide +kernel
theorem dX12_from_114 : decode cX12_from 114 = .ok (.invokevirtual 191, 3) := by decide +kernel
theorem dX12_from_117 : decode cX12_from 117 = .ok (.pop, 1) := by decide +kernel
theorem dX12_from_118 : decode cX12_from 118 = .ok (.aload_n 0, 1) := by decide +kernel
theorem dX12_from_119 : decode cX12_from 119 = .ok (.getfield 52, 3) := by decide +kernel
theorem dX12_from_122 : decode cX12_from 122 = .ok (.iload 4, 2) := by decide +kernel
theorem dX12_from_124 : decode cX12_from 124 = .ok (.iaload, 1) := by decide +kernel
theorem dX12_from_125 : decode cX12_from 125 = .ok (.istore 5, 2) := by decide +kernel
theorem dX12_from_127 : decode cX12_from 127 = .ok (.aload_n 0, 1) := by decide +kernel
theorem dX12_from_128 : decode cX12_from 128 = .ok (.iload 5, 2) := by decide +kernel
theorem dX12_from_130 : decode cX12_from 130 = .ok (.invokevirtual 194, 3) := by decide +kernel
theorem dX12_from_133 : decode cX12_from 133 = .ok (.iload_n 3, 1) := by decide +kernel
theorem dX12_from_134 : decode cX12_from 134 = .ok (.ifCond .ne 8, 3) := by decide +kernel
theorem dX12_from_137 : decode cX12_from 137 = .ok (.iload 5, 2) := by decide +kernel
theorem dX12_from_139 : decode cX12_from 139 = .ok (.goto 26, 3) := by decide +kernel
theorem dX12_from_142 : decode cX12_from 142 = .ok (.iload_n 3, 1) := by decide +kernel
theorem dX12_from_143 : decode cX12_from 143 = .ok (.iconst 1, 1) := by decide +kernel
theorem dX12_from_144 : decode cX12_from 144 = .ok (.if_icmp .ne 13, 3) := by decide +kernel
theorem dX12_from_147 : decode cX12_from 147 = .ok (.aload_n 0, 1) := by decide +kernel
theorem dX12_from_148 : decode cX12_from 148 = .ok (.getfield 55, 3) := by decide +kernel
theorem dX12_from_151 : decode cX12_from 151 = .ok (.iload 4, 2) := by decide +kernel
theorem dX12_from_153 : decode cX12_from 153 = .ok (.iaload, 1) := by decide +kernel
theorem dX12_from_154 : decode cX12_from 154 = .ok (.goto 11, 3) := by decide +kernel
theorem dX12_from_157 : decode cX12_from 157 = .ok (.aload_n 0, 1) := by decide +kernel
theorem dX12_from_158 : decode cX12_from 158 = .ok (.iload 4, 2) := by decide +kernel
theorem dX12_from_160 : decode cX12_from 160 = .ok (.iload 5, 2) := by decide +kernel
theorem dX12_from_162 : decode cX12_from 162 = .ok (.invokevirtual 197, 3) := by decide +kernel
theorem dX12_from_165 : decode cX12_from 165 = .ok (.ireturn, 1) := by decide +kernel
theorem dX12_isBetter_0 : decode cX12_isBetter 0 = .ok (.aload_n 0, 1) := by decide +kernel
theorem dX12_isBetter_1 : decode cX12_isBetter 1 = .ok (.aload_n 1, 1) := by decide +kernel
theorem dX12_isBetter_2 : decode cX12_isBetter 2 = .ok (.invokevirtual 164, 3) := by decide +kernel
theorem dX12_isBetter_5 : decode cX12_isBetter 5 = .ok (.istore_n 3, 1) := by decide +kernel
theorem dX12_isBetter_6 : decode cX12_isBetter 6 = .ok (.aload_n 0, 1) := by decide +kernel
theorem dX12_isBetter_7 : decode cX12_isBetter 7 = .ok (.aload_n 2, 1) := by decide +kernel
theorem dX12_isBetter_8 : decode cX12_isBetter 8 = .ok (.invokevirtual 164, 3) := by decide +kernel
theorem dX12_isBetter_11 : decode cX12_isBetter 11 = .ok (.istore 4, 2) := by decide +kernel
theorem dX12_isBetter_13 : decode cX12_isBetter 13 = .ok (.iload_n 3, 1) := by decide +kernel
theorem dX12_isBetter_14 : decode cX12_isBetter 14 = .ok (.iload 4, 2) := by decide +kernel
theorem dX12_isBetter_16 : decode cX12_isBetter 16 = .ok (.if_icmp .eq 15, 3) := by decide +kernel
theorem dX12_isBetter_19 : decode cX12_isBetter 19 = .ok (.iload_n 3, 1) := by decide +kernel
theorem dX12_isBetter_20 : decode cX12_isBetter 20 = .ok (.iload 4, 2) := by decide +kernel
theorem dX12_isBetter_22 : decode cX12_isBetter 22 = .ok (.if_icmp .ge 7, 3) := by decide +kernel
theorem dX12_isBetter_25 : decode cX12_isBetter 25 = .ok (.iconst 1, 1) := by decide +kernel
theorem dX12_isBetter_26 : decode cX12_isBetter 26 = .ok (.goto 4, 3) := by decide +kernel
theorem dX12_isBetter_29 : decode cX12_isBetter 29 = .ok (.iconst 0, 1) := by decide +kernel
theorem dX12_isBetter_30 : decode cX12_isBetter 30 = .ok (.ireturn, 1) := by decide +kernel
theorem dX12_isBetter_31 : decode cX12_isBetter 31 = .ok (.aload_n 0, 1) := by decide +kernel
theorem dX12_isBetter_32 : decode cX12_isBetter 32 = .ok (.aload_n 1, 1) := by decide +kernel
theorem dX12_isBetter_33 : decode cX12_isBetter 33 = .ok (.invokevirtual 168, 3) := by decide +kernel
theorem dX12_isBetter_36 : decode cX12_isBetter 36 = .ok (.istore_n 3, 1) := by decide +kernel
theorem dX12_isBetter_37 : decode cX12_isBetter 37 = .ok (.aload_n 0, 1) := by decide +kernel
theorem dX12_isBetter_38 : decode cX12_isBetter 38 = .ok (.aload_n 2, 1) := by decide +kernel
theorem dX12_isBetter_39 : decode cX12_isBetter 39 = .ok (.invokevirtual 168, 3) := by decide +kernel
theorem dX12_isBetter_42 : decode cX12_isBetter 42 = .ok (.istore 4, 2) := by decide +kernel
theorem dX12_isBetter_44 : decode cX12_isBetter 44 = .ok (.iload_n 3, 1) := by decide +kernel
theorem dX12_isBetter_45 : decode cX12_isBetter 45 = .ok (.iload 4, 2) := by decide +kernel
theorem dX12_isBetter_47 : decode cX12_isBetter 47 = .ok (.if_icmp .eq 15, 3) := by decide +kernel
theorem dX12_isBetter_50 : decode cX12_isBetter 50 = .ok (.iload_n 3, 1) := by decide +kernel
theorem dX12_isBetter_51 : decode cX12_isBetter 51 = .ok (.iload 4, 2) := by decide +kernel
theorem dX12_isBetter_53 : decode cX12_isBetter 53 = .ok (.if_icmp .ge 7, 3) := by decide +kernel
theorem dX12_isBetter_56 : decode cX12_isBetter 56 = .ok (.iconst 1, 1) := by decide +kernel
theorem dX12_isBetter_57 : decode cX12_isBetter 57 = .ok (.goto 4, 3) := by decide +kernel
theorem dX12_isBetter_60 : decode cX12_isBetter 60 = .ok (.iconst 0, 1) := by decide +kernel
theorem dX12_isBetter_61 : decode cX12_isBetter 61 = .ok (.ireturn, 1) := by decide +kernel
theorem dX12_isBetter_62 : decode cX12_isBetter 62 = .ok (.iconst 0, 1) := by decide +kernel
theorem dX12_isBetter_63 : decode cX12_isBetter 63 = .ok (.istore 5, 2) := by decide +kernel
theorem dX12_isBetter_65 : decode cX12_isBetter 65 = .ok (.iload 5, 2) := by decide +kernel
theorem dX12_isBetter_67 : decode cX12_isBetter 67 = .ok (.aload_n 0, 1) := by decide +kernel
theorem dX12_isBetter_68 : decode cX12_isBetter 68 = .ok (.getfield 83, 3) := by decide +kernel
theorem dX12_isBetter_71 : decode cX12_isBetter 71 = .ok (.if_icmp .ge 37, 3) := by decide +kernel
theorem dX12_isBetter_74 : decode cX12_isBetter 74 = .ok (.aload_n 1, 1) := by decide +kernel
theorem dX12_isBetter_75 : decode cX12_isBetter 75 = .ok (.iload 5, 2) := by decide +kernel
theorem dX12_isBetter_77 : decode cX12_isBetter 77 = .ok (.iaload, 1) := by decide +kernel
theorem dX12_isBetter_78 : decode cX12_isBetter 78 = .ok (.aload_n 2, 1) := by decide +kernel
theorem dX12_isBetter_79 : decode cX12_isBetter 79 = .ok (.iload 5, 2) := by decide +kernel
theorem dX12_isBetter_81 : decode cX12_isBetter 81 = .ok (.iaload, 1) := by decide +kernel
theorem dX12_isBetter_82 : decode cX12_isBetter 82 = .ok (.if_icmp .eq 20, 3) := by decide +kernel
theorem dX12_isBetter_85 : decode cX12_isBetter 85 = .ok (.aload_n 1, 1) := by decide +kernel
theorem dX12_isBetter_86 : decode cX12_isBetter 86 = .ok (.iload 5, 2) := by decide +kernel
theorem dX12_isBetter_88 : decode cX12_isBetter 88 = .ok (.iaload, 1) := by decide +kernel
theorem dX12_isBetter_89 : decode cX12_isBetter 89 = .ok (.aload_n 2, 1) := by decide +kernel
theorem dX12_isBetter_90 : decode cX12_isBetter 90 = .ok (.iload 5, 2) := by decide +kernel
theorem dX12_isBetter_92 : decode cX12_isBetter 92 = .ok (.iaload, 1) := by decide +kernel
theorem dX12_isBetter_93 : decode cX12_isBetter 93 = .ok (.if_icmp .ge 7, 3) := by decide +kernel
theorem dX12_isBetter_96 : decode cX12_isBetter 96 = .ok (.iconst 1, 1) := by decide +kernel
theorem dX12_isBetter_97 : decode cX12_isBetter 97 = .ok (.goto 4, 3) := by decide +kernel
theorem dX12_isBetter_100 : decode cX12_isBetter 100 = .ok (.iconst 0, 1) := by decide +kernel
theorem dX12_isBetter_101 : decode cX12_isBetter 101 = .ok (.ireturn, 1) := by decide +kernel
theorem dX12_isBetter_102 : decode cX12_isBetter 102 = .ok (.iinc 5 1, 3) := by decide +kernel
theorem dX12_isBetter_105 : decode cX12_isBetter 105 = .ok (.goto (-40), 3) := by decide +kernel
theorem dX12_isBetter_108 : decode cX12_isBetter 108 = .ok (.iconst 0, 1) := by decide +kernel
theorem dX12_isBetter_109 : decode cX12_isBetter 109 = .ok (.ireturn, 1) := by decide +kernel
theorem dX12_better_0 : decode cX12_better 0 = .ok (.aload_n 0, 1) := by decide +kernel
theorem dX12_better_1 : decode cX12_better 1 = .ok (.iload_n 1, 1) := by decide +kernel
theorem dX12_better_2 : decode cX12_better 2 = .ok (.invokevirtual 157, 3) := by decide +kernel
theorem dX12_better_5 : decode cX12_better 5 = .ok (.ifCond .eq 11, 3) := by decide +kernel
theorem dX12_better_8 : decode cX12_better 8 = .ok (.aload_n 0, 1) := by decide +kernel
theorem dX12_better_9 : decode cX12_better 9 = .ok (.iload_n 2, 1) := by decide +kernel
theorem dX12_better_10 : decode cX12_better 10 = .ok (.invokevirtual 157, 3) := by decide +kernel
theorem dX12_better_13 : decode cX12_better 13 = .ok (.ifCond .ne 5, 3) := by decide +kernel
theorem dX12_better_16 : decode cX12_better 16 = .ok (.iconst (-1), 1) := by decide +kernel
theorem dX12_better_17 : decode cX12_better 17 = .ok (.ireturn, 1) := by decide +kernel
theorem dX12_better_18 : decode cX12_better 18 = .ok (.aload_n 0, 1) := by decide +kernel
theorem dX12_better_19 : decode cX12_better 19 = .ok (.iload_n 1, 1) := by decide +kernel
theorem dX12_better_20 : decode cX12_better 20 = .ok (.invokevirtual 160, 3) := by decide +kernel
theorem dX12_better_23 : decode cX12_better 23 = .ok (.iconst 0, 1) := by decide +kernel
theorem dX12_better_24 : decode cX12_better 24 = .ok (.istore_n 3, 1) := by decide +kernel
theorem dX12_better_25 : decode cX12_better 25 = .ok (.iload_n 3, 1) := by decide +kernel
theorem dX12_better_26 : decode cX12_better 26 = .ok (.aload_n 0, 1) := by decide +kernel
theorem dX12_better_27 : decode cX12_better 27 = .ok (.getfield 83, 3) := by decide +kernel
theorem dX12_better_30 : decode cX12_better 30 = .ok (.if_icmp .ge 26, 3) := by decide +kernel
theorem dX12_better_33 : decode cX12_better 33 = .ok (.aload_n 0, 1) := by decide +kernel
theorem dX12_better_34 : decode cX12_better 34 = .ok (.getfield 61, 3) := by decide +kernel
theorem dX12_better_37 : decode cX12_better 37 = .ok (.iload_n 3, 1) := by decide +kernel
theorem dX12_better_38 : decode cX12_better 38 = .ok (.aload_n 0, 1) := by decide +kernel
theorem dX12_better_39 : decode cX12_better 39 = .ok (.getfield 43, 3) := by decide +kernel
theorem dX12_better_42 : decode cX12_better 42 = .ok (.bipush 9, 2) := by decide +kernel
theorem dX12_better_44 : decode cX12_better 44 = .ok (.iload_n 2, 1) := by decide +kernel
theorem dX12_better_45 : decode cX12_better 45 = .ok (.imul, 1) := by decide +kernel
theorem dX12_better_46 : decode cX12_better 46 = .ok (.iload_n 3, 1) := by decide +kernel
theorem dX12_better_47 : decode cX12_better 47 = .ok (.iadd, 1) := by decide +kernel
theorem dX12_better_48 : decode cX12_better 48 = .ok (.iaload, 1) := by decide +kernel
theorem dX12_better_49 : decode cX12_better 49 = .ok (.iastore, 1) := by decide +kernel
theorem dX12_better_50 : decode cX12_better 50 = .ok (.iinc 3 1, 3) := by decide +kernel
theorem dX12_better_53 : decode cX12_better 53 = .ok (.goto (-28), 3) := by decide +kernel
theorem dX12_better_56 : decode cX12_better 56 = .ok (.aload_n 0, 1) := by decide +kernel
theorem dX12_better_57 : decode cX12_better 57 = .ok (.aload_n 0, 1) := by decide +kernel
theorem dX12_better_58 : decode cX12_better 58 = .ok (.getfield 46, 3) := by decide +kernel
theorem dX12_better_61 : decode cX12_better 61 = .ok (.aload_n 0, 1) := by decide +kernel
theorem dX12_better_62 : decode cX12_better 62 = .ok (.getfield 61, 3) := by decide +kernel
theorem dX12_better_65 : decode cX12_better 65 = .ok (.invokevirtual 201, 3) := by decide +kernel
theorem dX12_better_68 : decode cX12_better 68 = .ok (.ifCond .eq 7, 3) := by decide +kernel
theorem dX12_better_71 : decode cX12_better 71 = .ok (.iconst 1, 1) := by decide +kernel
theorem dX12_better_72 : decode cX12_better 72 = .ok (.goto 4, 3) := by decide +kernel
theorem dX12_better_75 : decode cX12_better 75 = .ok (.iconst 0, 1) := by decide +kernel
theorem dX12_better_76 : decode cX12_better 76 = .ok (.ireturn, 1) := by decide +kernel
theorem dX12_isClosed_0 : decode cX12_isClosed 0 = .ok (.iconst 0, 1) := by decide +kernel
theorem dX12_isClosed_1 : decode cX12_isClosed 1 = .ok (.istore_n 2, 1) := by decide +kernel
theorem dX12_isClosed_2 : decode cX12_isClosed 2 = .ok (.iload_n 2, 1) := by decide +kernel
theorem dX12_isClosed_3 : decode cX12_isClosed 3 = .ok (.aload_n 0, 1) := by decide +kernel
theorem dX12_isClosed_4 : decode cX12_isClosed 4 = .ok (.getfield 83, 3) := by decide +kernel
theorem dX12_isClosed_7 : decode cX12_isClosed 7 = .ok (.if_icmp .ge 32, 3) := by decide +kernel
theorem dX12_isClosed_10 : decode cX12_isClosed 10 = .ok (.iload_n 1, 1) := by decide +kernel
theorem dX12_isClosed_11 : decode cX12_isClosed 11 = .ok (.iload_n 2, 1) := by decide +kernel
theorem dX12_isClosed_12 : decode cX12_isClosed 12 = .ok (.invokestatic 96, 3) := by decide +kernel
theorem dX12_isClosed_15 : decode cX12_isClosed 15 = .ok (.ifCond .eq 18, 3) := by decide +kernel
theorem dX12_isClosed_18 : decode cX12_isClosed 18 = .ok (.aload_n 0, 1) := by decide +kernel
theorem dX12_isClosed_19 : decode cX12_isClosed 19 = .ok (.getfield 22, 3) := by decide +kernel
theorem dX12_isClosed_22 : decode cX12_isClosed 22 = .ok (.iload_n 2, 1) := by decide +kernel
theorem dX12_isClosed_23 : decode cX12_isClosed 23 = .ok (.iaload, 1) := by decide +kernel
theorem dX12_isClosed_24 : decode cX12_isClosed 24 = .ok (.iload_n 1, 1) := by decide +kernel
theorem dX12_isClosed_25 : decode cX12_isClosed 25 = .ok (.iconst (-1), 1) := by decide +kernel
theorem dX12_isClosed_26 : decode cX12_isClosed 26 = .ok (.ixor, 1) := by decide +kernel
theorem dX12_isClosed_27 : decode cX12_isClosed 27 = .ok (.iand, 1) := by decide +kernel
theorem dX12_isClosed_28 : decode cX12_isClosed 28 = .ok (.ifCond .eq 5, 3) := by decide +kernel
theorem dX12_isClosed_31 : decode cX12_isClosed 31 = .ok (.iconst 0, 1) := by decide +kernel
theorem dX12_isClosed_32 : decode cX12_isClosed 32 = .ok (.ireturn, 1) := by decide +kernel
theorem dX12_isClosed_33 : decode cX12_isClosed 33 = .ok (.iinc 2 1, 3) := by decide +kernel
theorem dX12_isClosed_36 : decode cX12_isClosed 36 = .ok (.goto (-34), 3) := by decide +kernel
theorem dX12_isClosed_39 : decode cX12_isClosed 39 = .ok (.iconst 1, 1) := by decide +kernel
theorem dX12_isClosed_40 : decode cX12_isClosed 40 = .ok (.ireturn, 1) := by decide +kernel
theorem dX12_crossOf_0 : decode cX12_crossOf 0 = .ok (.ldc 174, 2) := by decide +kernel
theorem dX12_crossOf_2 : decode cX12_crossOf 2 = .ok (.istore_n 2, 1) := by decide +kernel
theorem dX12_crossOf_3 : decode cX12_crossOf 3 = .ok (.iconst 0, 1) := by decide +kernel
theorem dX12_crossOf_4 : decode cX12_crossOf 4 = .ok (.istore_n 3, 1) := by decide +kernel
theorem dX12_crossOf_5 : decode cX12_crossOf 5 = .ok (.iload_n 3, 1) := by decide +kernel
theorem dX12_crossOf_6 : decode cX12_crossOf 6 = .ok (.aload_n 0, 1) := by decide +kernel
theorem dX12_crossOf_7 : decode cX12_crossOf 7 = .ok (.invokevirtual 134, 3) := by decide +kernel
theorem dX12_crossOf_10 : decode cX12_crossOf 10 = .ok (.if_icmp .gt 62, 3) := by decide +kernel
theorem dX12_crossOf_13 : decode cX12_crossOf 13 = .ok (.iload_n 3, 1) := by decide +kernel
theorem dX12_crossOf_14 : decode cX12_crossOf 14 = .ok (.invokestatic 205, 3) := by decide +kernel
theorem dX12_crossOf_17 : decode cX12_crossOf 17 = .ok (.iload_n 1, 1) := by decide +kernel
theorem dX12_crossOf_18 : decode cX12_crossOf 18 = .ok (.if_icmp .ne 48, 3) := by decide +kernel
theorem dX12_crossOf_21 : decode cX12_crossOf 21 = .ok (.aload_n 0, 1) := by decide +kernel
theorem dX12_crossOf_22 : decode cX12_crossOf 22 = .ok (.iload_n 3, 1) := by decide +kernel
theorem dX12_crossOf_23 : decode cX12_crossOf 23 = .ok (.invokevirtual 208, 3) := by decide +kernel
theorem dX12_crossOf_26 : decode cX12_crossOf 26 = .ok (.ifCond .eq 40, 3) := by decide +kernel
theorem dX12_crossOf_29 : decode cX12_crossOf 29 = .ok (.aload_n 0, 1) := by decide +kernel
theorem dX12_crossOf_30 : decode cX12_crossOf 30 = .ok (.aload_n 0, 1) := by decide +kernel
theorem dX12_crossOf_31 : decode cX12_crossOf 31 = .ok (.iload_n 3, 1) := by decide +kernel
theorem dX12_crossOf_32 : decode cX12_crossOf 32 = .ok (.invokevirtual 171, 3) := by decide +kernel
theorem dX12_crossOf_35 : decode cX12_crossOf 35 = .ok (.aload_n 0, 1) := by decide +kernel
theorem dX12_crossOf_36 : decode cX12_crossOf 36 = .ok (.aload_n 0, 1) := by decide +kernel
theorem dX12_crossOf_37 : decode cX12_crossOf 37 = .ok (.invokevirtual 134, 3) := by decide +kernel
theorem dX12_crossOf_40 : decode cX12_crossOf 40 = .ok (.iload_n 3, 1) := by decide +kernel
theorem dX12_crossOf_41 : decode cX12_crossOf 41 = .ok (.iconst (-1), 1) := by decide +kernel
theorem dX12_crossOf_42 : decode cX12_crossOf 42 = .ok (.ixor, 1) := by decide +kernel
theorem dX12_crossOf_43 : decode cX12_crossOf 43 = .ok (.iand, 1) := by decide +kernel
theorem dX12_crossOf_44 : decode cX12_crossOf 44 = .ok (.invokevirtual 171, 3) := by decide +kernel
theorem dX12_crossOf_47 : decode cX12_crossOf 47 = .ok (.iand, 1) := by decide +kernel
theorem dX12_crossOf_48 : decode cX12_crossOf 48 = .ok (.invokevirtual 147, 3) := by decide +kernel
theorem dX12_crossOf_51 : decode cX12_crossOf 51 = .ok (.istore 4, 2) := by decide +kernel
theorem dX12_crossOf_53 : decode cX12_crossOf 53 = .ok (.iload 4, 2) := by decide +kernel
theorem dX12_crossOf_55 : decode cX12_crossOf 55 = .ok (.iload_n 2, 1) := by decide +kernel
theorem dX12_crossOf_56 : decode cX12_crossOf 56 = .ok (.if_icmp .ge 8, 3) := by decide +kernel
theorem dX12_crossOf_59 : decode cX12_crossOf 59 = .ok (.iload 4, 2) := by decide +kernel
theorem dX12_crossOf_61 : decode cX12_crossOf 61 = .ok (.goto 4, 3) := by decide +kernel
theorem dX12_crossOf_64 : decode cX12_crossOf 64 = .ok (.iload_n 2, 1) := by decide +kernel
theorem dX12_crossOf_65 : decode cX12_crossOf 65 = .ok (.istore_n 2, 1) := by decide +kernel
theorem dX12_crossOf_66 : decode cX12_crossOf 66 = .ok (.iinc 3 1, 3) := by decide +kernel
theorem dX12_crossOf_69 : decode cX12_crossOf 69 = .ok (.goto (-64), 3) := by decide +kernel
theorem dX12_crossOf_72 : decode cX12_crossOf 72 = .ok (.iload_n 2, 1) := by decide +kernel
theorem dX12_crossOf_73 : decode cX12_crossOf 73 = .ok (.ireturn, 1) := by decide +kernel
theorem dX12_cross_0 : decode cX12_cross 0 = .ok (.iload_n 1, 1) := by decide +kernel
theorem dX12_cross_1 : decode cX12_cross 1 = .ok (.iconst 0, 1) := by decide +kernel
theorem dX12_cross_2 : decode cX12_cross 2 = .ok (.aload_n 0, 1) := by decide +kernel
theorem dX12_cross_3 : decode cX12_cross 3 = .ok (.getfield 83, 3) := by decide +kernel
theorem dX12_cross_6 : decode cX12_cross 6 = .ok (.invokestatic 79, 3) := by decide +kernel
theorem dX12_cross_9 : decode cX12_cross 9 = .ok (.ifCond .eq 11, 3) := by decide +kernel
theorem dX12_cross_12 : decode cX12_cross 12 = .ok (.aload_n 0, 1) := by decide +kernel
theorem dX12_cross_13 : decode cX12_cross 13 = .ok (.iload_n 1, 1) := by decide +kernel
theorem dX12_cross_14 : decode cX12_cross 14 = .ok (.invokevirtual 211, 3) := by decide +kernel
theorem dX12_cross_17 : decode cX12_cross 17 = .ok (.goto 5, 3) := by decide +kernel
theorem dX12_cross_20 : decode cX12_cross 20 = .ok (.bipush (-2), 2) := by decide +kernel
theorem dX12_cross_22 : decode cX12_cross 22 = .ok (.ireturn, 1) := by decide +kernel
abbrev rm_X12_longOf : Room := { frames := 2, cells := 0, slots := 0, locals := 44 }
def B_X12_longOf_4 (r1 : Nat) (post : Int32 → Mem → Prop) (P4 : Int32 → Int32 → Mem → Prop) (x2 : Int32) (x3 : Int32) (μ : Mem) : Prop :=
  (((μ 0 5) ≤ x3 → post x2 μ) ∧ (¬ (μ 0 5) ≤ x3 → T_X12_openAt r1 x3 μ (fun (u1 : Int32) (μ2 : Mem) => T_X12_sizeOf u1 μ2 (fun (u3 : Int32) (μ4 : Mem) => P4 (x2 + u3) (x3 + 1) μ4))))
def T_X12_longOf_4 (r1 : Nat) (post : Int32 → Mem → Prop) (x2 : Int32) (x3 : Int32) (μ : Mem) : Prop :=
  ∀ P4 : Int32 → Int32 → Mem → Prop, (∀ (x2 : Int32) (x3 : Int32) (μ : Mem), B_X12_longOf_4 r1 post P4 x2 x3 μ → P4 x2 x3 μ) → P4 x2 x3 μ
theorem bv_X12_longOf_4 {X : Cx} {w : Wd} {l : Launch} {D : va_G} {A : Nat → Prop} (r1 : Nat) (g : Gd X w RX12 cX12_longOf 4 rm_X12_longOf) (hX : atX X l D A) (post : Int32 → Mem → Prop) (hR : Rt X w shM 22 (some .int) (pI post)) (P4 : Int32 → Int32 → Mem → Prop) (hP4 : ∀ (x2 : Int32) (x3 : Int32) (μ : Mem), P4 x2 x3 μ → V X 4 [(0, .ref (w.1 0)), (1, .ref (w.1 r1)), (2, .int x2), (3, .int x3)] [] (wls w shM 22 μ)) (x2 : Int32) (x3 : Int32) (μ : Mem) (h : B_X12_longOf_4 r1 post P4 x2 x3 μ) : V X 4 [(0, .ref (w.1 0)), (1, .ref (w.1 r1)), (2, .int x2), (3, .int x3)] [] (wls w shM 22 μ) := by
  refine r_iload_n (pc := 4) 3 g dX12_longOf_4 rfl ?_
  refine r_aload_n (pc := 5) 0 g dX12_longOf_5 rfl ?_
  refine r_geti (pc := 6) (μ := μ) g dX12_longOf_6 fa_RX12_83 shM_out sM_0 rfl ?_
  refine r_icmp_ge (pc := 9) 31 g dX12_longOf_9 rfl (fun q => ?_) (fun q => ?_)
  · have h := h.1 q
    refine r_iload_n (pc := 31) 2 g dX12_longOf_31 rfl ?_
    exact r_ireti (pc := 32) g hR dX12_longOf_32 h
  · have h := h.2 q
    refine r_iload_n (pc := 12) 2 g dX12_longOf_12 rfl ?_
    refine r_aload_n (pc := 13) 0 g dX12_longOf_13 rfl ?_
    refine r_aload_n (pc := 14) 0 g dX12_longOf_14 rfl ?_
    refine r_aload_n (pc := 15) 1 g dX12_longOf_15 rfl ?_
    refine r_iload_n (pc := 16) 3 g dX12_longOf_16 rfl ?_
    refine r_callVi (pc := 17) (st := [.ref (w.1 0), .int x2]) g hX dX12_longOf_17 (m_X12_openAt r1 x3 μ _ h) kb_RX12_143 kv_X12_openAt shM_out sM_0 rfl rfl rfl rfl (fun u1 μ2 h => ?_)
    refine r_callVi (pc := 20) (st := [.int x2]) g hX dX12_longOf_20 (m_X12_sizeOf u1 μ2 _ h) kb_RX12_147 kv_X12_sizeOf shM_out sM_0 rfl rfl rfl rfl (fun u3 μ4 h => ?_)
    refine r_iadd (pc := 23) g dX12_longOf_23 ?_
    refine r_istore_n (pc := 24) (lv' := [(2, .int (x2 + u3)), (0, .ref (w.1 0)), (1, .ref (w.1 r1)), (3, .int x3)]) g dX12_longOf_24 rfl rfl ?_
    refine r_iinc (pc := 25) (lv' := [(3, .int (x3 + 1)), (2, .int (x2 + u3)), (0, .ref (w.1 0)), (1, .ref (w.1 r1))]) 3 g dX12_longOf_25 rfl ci_1 rfl rfl ?_
    refine r_goto (pc := 28) 4 g dX12_longOf_28 rfl ?_
    refine r_sub [2, 3, 1, 0] (lv' := [(0, .ref (w.1 0)), (1, .ref (w.1 r1)), (2, .int (x2 + u3)), (3, .int (x3 + 1))]) rfl ?_
    exact hP4 (x2 + u3) (x3 + 1) μ4 h
theorem v_X12_longOf_4 {X : Cx} {w : Wd} {l : Launch} {D : va_G} {A : Nat → Prop} (r1 : Nat) (g : Gd X w RX12 cX12_longOf 4 rm_X12_longOf) (hX : atX X l D A) (post : Int32 → Mem → Prop) (hR : Rt X w shM 22 (some .int) (pI post)) (x2 : Int32) (x3 : Int32) (μ : Mem) (h : T_X12_longOf_4 r1 post x2 x3 μ) : V X 4 [(0, .ref (w.1 0)), (1, .ref (w.1 r1)), (2, .int x2), (3, .int x3)] [] (wls w shM 22 μ) :=
  h (fun x2 x3 μ => V X 4 [(0, .ref (w.1 0)), (1, .ref (w.1 r1)), (2, .int x2), (3, .int x3)] [] (wls w shM 22 μ)) (fun x2 x3 μ h => bv_X12_longOf_4 r1 g hX post hR (fun x2 x3 μ => V X 4 [(0, .ref (w.1 0)), (1, .ref (w.1 r1)), (2, .int x2), (3, .int x3)] [] (wls w shM 22 μ)) (fun _ _ _ h => h) x2 x3 μ h)
def T_X12_longOf (r1 : Nat) (μ : Mem) (post : Int32 → Mem → Prop) : Prop :=
  T_X12_longOf_4 r1 post 0 0 μ
theorem m_X12_longOf {w : Wd} {l : Launch} {D : va_G} {A : Nat → Prop} (r1 : Nat) (μ : Mem) (post : Int32 → Mem → Prop) (h : T_X12_longOf r1 μ post) : MetX l D A w shM 22 yX12_longOf cX12_longOf 4 (some .int) rm_X12_longOf [.ref (w.1 0), .ref (w.1 r1)] μ (pI post) := by
  refine metX_of (by decide) rfl (lv := [(0, .ref (w.1 0)), (1, .ref (w.1 r1))]) rfl (fun X hX g hR => ?_)
  refine r_iconst (pc := 0) g dX12_longOf_0 ci_0 ?_
  refine r_istore_n (pc := 1) (lv' := [(2, .int 0), (0, .ref (w.1 0)), (1, .ref (w.1 r1))]) g dX12_longOf_1 rfl rfl ?_
  refine r_iconst (pc := 2) g dX12_longOf_2 ci_0 ?_
  refine r_istore_n (pc := 3) (lv' := [(3, .int 0), (2, .int 0), (0, .ref (w.1 0)), (1, .ref (w.1 r1))]) g dX12_longOf_3 rfl rfl ?_
  refine r_sub [2, 3, 1, 0] (lv' := [(0, .ref (w.1 0)), (1, .ref (w.1 r1)), (2, .int 0), (3, .int 0)]) rfl ?_
  exact v_X12_longOf_4 r1 g hX post hR 0 0 μ h
abbrev rm_X12_comes : Room := { frames := 0, cells := 0, slots := 0, locals := 0 }
def B_X12_comes_24 (post : Int32 → Mem → Prop) (P24 : Int32 → Mem → Prop) (x2 : Int32) (μ : Mem) : Prop :=
  (((μ 0 5) ≤ x2 → post (((mset μ 0 17 ((μ 0 17) + 1)) 0 17) - 1) (mset μ 0 17 ((μ 0 17) + 1))) ∧ (¬ (μ 0 5) ≤ x2 → vp_in x2 9 ∧ vp_in ((9 * (μ 0 17)) + x2) 72 ∧ P24 (x2 + 1) (mset μ 12 ((9 * (μ 0 17)) + x2).toNatClampNeg (μ 13 x2.toNatClampNeg))))
def T_X12_comes_24 (post : Int32 → Mem → Prop) (x2 : Int32) (μ : Mem) : Prop :=
  ∀ P24 : Int32 → Mem → Prop, (∀ (x2 : Int32) (μ : Mem), B_X12_comes_24 post P24 x2 μ → P24 x2 μ) → P24 x2 μ
theorem bv_X12_comes_24 {X : Cx} {w : Wd} {l : Launch} {D : va_G} {A : Nat → Prop} (g : Gd X w RX12 cX12_comes 3 rm_X12_comes) (hX : atX X l D A) (post : Int32 → Mem → Prop) (hR : Rt X w shM 22 (some .int) (pI post)) (P24 : Int32 → Mem → Prop) (hP24 : ∀ (x2 : Int32) (μ : Mem), P24 x2 μ → V X 24 [(0, .ref (w.1 0)), (2, .int x2)] [] (wls w shM 22 μ)) (x2 : Int32) (μ : Mem) (h : B_X12_comes_24 post P24 x2 μ) : V X 24 [(0, .ref (w.1 0)), (2, .int x2)] [] (wls w shM 22 μ) := by
  refine r_iload_n (pc := 24) 1 g dX12_comes_24 rfl ?_
  refine r_aload_n (pc := 25) 0 g dX12_comes_25 rfl ?_
  refine r_geti (pc := 26) (μ := μ) g dX12_comes_26 fa_RX12_83 shM_out sM_0 rfl ?_
  refine r_icmp_ge (pc := 29) 58 g dX12_comes_29 rfl (fun q => ?_) (fun q => ?_)
  · have h := h.1 q
    refine r_aload_n (pc := 58) 0 g dX12_comes_58 rfl ?_
    refine r_dup (pc := 59) g dX12_comes_59 rfl ?_
    refine r_geti (pc := 60) (μ := μ) g dX12_comes_60 fa_RX12_131 shM_out sM_0 rfl ?_
    refine r_iconst (pc := 63) g dX12_comes_63 ci_1 ?_
    refine r_iadd (pc := 64) g dX12_comes_64 ?_
    refine r_puti (pc := 65) (μ := μ) g dX12_comes_65 fp_RX12_131 shM_out sM_0 rfl ?_
    refine r_aload_n (pc := 68) 0 g dX12_comes_68 rfl ?_
    refine r_geti (pc := 69) (μ := mset μ 0 17 ((μ 0 17) + 1)) g dX12_comes_69 fa_RX12_131 shM_out sM_0 rfl ?_
    refine r_iconst (pc := 72) g dX12_comes_72 ci_1 ?_
    refine r_isub (pc := 73) g dX12_comes_73 ?_
    exact r_ireti (pc := 74) g hR dX12_comes_74 h
  · have h := h.2 q
    refine r_aload_n (pc := 32) 0 g dX12_comes_32 rfl ?_
    refine r_getr (pc := 33) (μ := μ) g dX12_comes_33 fa_RX12_43 shM_out sM_0 rfl ?_
    refine r_bipush (pc := 36) g dX12_comes_36 cb_9 ?_
    refine r_aload_n (pc := 38) 0 g dX12_comes_38 rfl ?_
    refine r_geti (pc := 39) (μ := μ) g dX12_comes_39 fa_RX12_131 shM_out sM_0 rfl ?_
    refine r_imul (pc := 42) g dX12_comes_42 ?_
    refine r_iload_n (pc := 43) 1 g dX12_comes_43 rfl ?_
    refine r_iadd (pc := 44) g dX12_comes_44 ?_
    refine r_aload_n (pc := 45) 0 g dX12_comes_45 rfl ?_
    refine r_getr (pc := 46) (μ := μ) g dX12_comes_46 fa_RX12_46 shM_out sM_0 rfl ?_
    refine r_iload_n (pc := 49) 1 g dX12_comes_49 rfl ?_
    obtain ⟨b1, h⟩ := h
    refine r_iaload (pc := 50) (μ := μ) g dX12_comes_50 shM_out sM_13 b1 ?_
    obtain ⟨b2, h⟩ := h
    refine r_iastore (pc := 51) (μ := μ) g dX12_comes_51 shM_out sM_12 b2 ?_
    refine r_iinc (pc := 52) (lv' := [(2, .int (x2 + 1)), (0, .ref (w.1 0))]) 1 g dX12_comes_52 rfl ci_1 rfl rfl ?_
    refine r_goto (pc := 55) 24 g dX12_comes_55 rfl ?_
    refine r_sub [1, 0] (lv' := [(0, .ref (w.1 0)), (2, .int (x2 + 1))]) rfl ?_
    exact hP24 (x2 + 1) (mset μ 12 ((9 * (μ 0 17)) + x2).toNatClampNeg (μ 13 x2.toNatClampNeg)) h
theorem v_X12_comes_24 {X : Cx} {w : Wd} {l : Launch} {D : va_G} {A : Nat → Prop} (g : Gd X w RX12 cX12_comes 3 rm_X12_comes) (hX : atX X l D A) (post : Int32 → Mem → Prop) (hR : Rt X w shM 22 (some .int) (pI post)) (x2 : Int32) (μ : Mem) (h : T_X12_comes_24 post x2 μ) : V X 24 [(0, .ref (w.1 0)), (2, .int x2)] [] (wls w shM 22 μ) :=
  h (fun x2 μ => V X 24 [(0, .ref (w.1 0)), (2, .int x2)] [] (wls w shM 22 μ)) (fun x2 μ h => bv_X12_comes_24 g hX post hR (fun x2 μ => V X 24 [(0, .ref (w.1 0)), (2, .int x2)] [] (wls w shM 22 μ)) (fun _ _ h => h) x2 μ h)
def T_X12_comes (x1 : Int32) (μ : Mem) (post : Int32 → Mem → Prop) : Prop :=
  ((¬ (μ 0 17) = 8 → vp_in (μ 0 17) 8 ∧ T_X12_comes_24 post 0 (mset μ 11 (μ 0 17).toNatClampNeg x1)) ∧ ((μ 0 17) = 8 → post (-4) μ))
theorem m_X12_comes {w : Wd} {l : Launch} {D : va_G} {A : Nat → Prop} (x1 : Int32) (μ : Mem) (post : Int32 → Mem → Prop) (h : T_X12_comes x1 μ post) : MetX l D A w shM 22 yX12_comes cX12_comes 3 (some .int) rm_X12_comes [.ref (w.1 0), .int x1] μ (pI post) := by
  refine metX_of (by decide) rfl (lv := [(0, .ref (w.1 0)), (1, .int x1)]) rfl (fun X hX g hR => ?_)
  refine r_aload_n (pc := 0) 0 g dX12_comes_0 rfl ?_
  refine r_geti (pc := 1) (μ := μ) g dX12_comes_1 fa_RX12_131 shM_out sM_0 rfl ?_
  refine r_bipush (pc := 4) g dX12_comes_4 cb_8 ?_
  refine r_icmp_ne (pc := 6) 12 g dX12_comes_6 rfl (fun q => ?_) (fun q => ?_)
  · have h := h.1 q
    refine r_aload_n (pc := 12) 0 g dX12_comes_12 rfl ?_
    refine r_getr (pc := 13) (μ := μ) g dX12_comes_13 fa_RX12_40 shM_out sM_0 rfl ?_
    refine r_aload_n (pc := 16) 0 g dX12_comes_16 rfl ?_
    refine r_geti (pc := 17) (μ := μ) g dX12_comes_17 fa_RX12_131 shM_out sM_0 rfl ?_
    refine r_iload_n (pc := 20) 1 g dX12_comes_20 rfl ?_
    obtain ⟨b1, h⟩ := h
    refine r_iastore (pc := 21) (μ := μ) g dX12_comes_21 shM_out sM_11 b1 ?_
    refine r_iconst (pc := 22) g dX12_comes_22 ci_0 ?_
    refine r_istore_n (pc := 23) (lv' := [(2, .int 0), (0, .ref (w.1 0)), (1, .int x1)]) g dX12_comes_23 rfl rfl ?_
    refine r_sub [1, 0] (lv' := [(0, .ref (w.1 0)), (2, .int 0)]) rfl ?_
    exact v_X12_comes_24 g hX post hR 0 (mset μ 11 (μ 0 17).toNatClampNeg x1) h
  · have h := h.2 q
    refine r_bipush (pc := 9) g dX12_comes_9 cb_m4 ?_
    exact r_ireti (pc := 11) g hR dX12_comes_11 h
abbrev rm_X12_order : Room := { frames := 2, cells := 0, slots := 0, locals := 42 }
def T_X12_order_30 (post : Int32 → Mem → Prop) (μ : Mem) : Prop :=
  post (-2) μ
theorem v_X12_order_30 {X : Cx} {w : Wd} {l : Launch} {D : va_G} {A : Nat → Prop} (g : Gd X w RX12 cX12_order 10 rm_X12_order) (hX : atX X l D A) (post : Int32 → Mem → Prop) (hR : Rt X w shM 22 (some .int) (pI post)) (μ : Mem) (h : T_X12_order_30 post μ) : V X 30 [] [] (wls w shM 22 μ) := by
  refine r_bipush (pc := 30) g dX12_order_30 cb_m2 ?_
  exact r_ireti (pc := 32) g hR dX12_order_32 h
def T_X12_order_71 (post : Int32 → Mem → Prop) (μ : Mem) : Prop :=
  post (-2) μ
theorem v_X12_order_71 {X : Cx} {w : Wd} {l : Launch} {D : va_G} {A : Nat → Prop} (g : Gd X w RX12 cX12_order 10 rm_X12_order) (hX : atX X l D A) (post : Int32 → Mem → Prop) (hR : Rt X w shM 22 (some .int) (pI post)) (μ : Mem) (h : T_X12_order_71 post μ) : V X 71 [] [] (wls w shM 22 μ) := by
  refine r_bipush (pc := 71) g dX12_order_71 cb_m2 ?_
  exact r_ireti (pc := 73) g hR dX12_order_73 h
def T_X12_order_192 (post : Int32 → Mem → Prop) (μ : Mem) : Prop :=
  post (-3) μ
theorem v_X12_order_192 {X : Cx} {w : Wd} {l : Launch} {D : va_G} {A : Nat → Prop} (g : Gd X w RX12 cX12_order 10 rm_X12_order) (hX : atX X l D A) (post : Int32 → Mem → Prop) (hR : Rt X w shM 22 (some .int) (pI post)) (μ : Mem) (h : T_X12_order_192 post μ) : V X 192 [] [] (wls w shM 22 μ) := by
  refine r_bipush (pc := 192) g dX12_order_192 cb_m3 ?_
  exact r_ireti (pc := 194) g hR dX12_order_194 h
def T_X12_order_195 (post : Int32 → Mem → Prop) (x1 : Int32) (μ : Mem) : Prop :=
  T_X12_comes x1 μ (fun (u1 : Int32) (μ2 : Mem) => post u1 μ2)
theorem v_X12_order_195 {X : Cx} {w : Wd} {l : Launch} {D : va_G} {A : Nat → Prop} (g : Gd X w RX12 cX12_order 10 rm_X12_order) (hX : atX X l D A) (post : Int32 → Mem → Prop) (hR : Rt X w shM 22 (some .int) (pI post)) (x1 : Int32) (μ : Mem) (h : T_X12_order_195 post x1 μ) : V X 195 [(0, .ref (w.1 0)), (1, .int x1)] [] (wls w shM 22 μ) := by
  refine r_aload_n (pc := 195) 0 g dX12_order_195 rfl ?_
  refine r_iload_n (pc := 196) 1 g dX12_order_196 rfl ?_
  refine r_callVi (pc := 197) (st := []) g hX dX12_order_197 (m_X12_comes x1 μ _ h) kb_RX12_154 kv_X12_comes shM_out sM_0 rfl rfl rfl rfl (fun u1 μ2 h => ?_)
  exact r_ireti (pc := 200) g hR dX12_order_200 h
def B_X12_order_124 (post : Int32 → Mem → Prop) (P124 : Int32 → Int32 → Int32 → Int32 → Int32 → Mem → Prop) (x1 : Int32) (x5 : Int32) (x7 : Int32) (x8 : Int32) (x9 : Int32) (μ : Mem) : Prop :=
  ((x5 ≤ x9 → T_X12_all μ (fun (u1 : Int32) (μ2 : Mem) => ((¬ x8 = u1 → T_X12_order_192 post μ2) ∧ (x8 = u1 → ((x1 ≤ 0 → T_X12_order_195 post x1 μ2) ∧ (¬ x1 ≤ 0 → T_X12_isLawful 13 μ2 (fun (u3 : Int32) (μ4 : Mem) => ((¬ u3 = 0 → T_X12_order_195 post x1 μ4) ∧ (u3 = 0 → T_X12_order_192 post μ4))))))))) ∧ (¬ x5 ≤ x9 → vp_in (x7 + x9) 240 ∧ vp_in x9 9 ∧ vp_in x9 9 ∧ P124 x1 x5 x7 (x8 ||| ((1 : Int32) <<< (((mset μ 13 x9.toNatClampNeg (μ 3 (x7 + x9).toNatClampNeg)) 13 x9.toNatClampNeg) &&& 31))) (x9 + 1) (mset μ 13 x9.toNatClampNeg (μ 3 (x7 + x9).toNatClampNeg))))
def T_X12_order_124 (post : Int32 → Mem → Prop) (x1 : Int32) (x5 : Int32) (x7 : Int32) (x8 : Int32) (x9 : Int32) (μ : Mem) : Prop :=
  ∀ P124 : Int32 → Int32 → Int32 → Int32 → Int32 → Mem → Prop, (∀ (x1 : Int32) (x5 : Int32) (x7 : Int32) (x8 : Int32) (x9 : Int32) (μ : Mem), B_X12_order_124 post P124 x1 x5 x7 x8 x9 μ → P124 x1 x5 x7 x8 x9 μ) → P124 x1 x5 x7 x8 x9 μ
theorem bv_X12_order_124 {X : Cx} {w : Wd} {l : Launch} {D : va_G} {A : Nat → Prop} (g : Gd X w RX12 cX12_order 10 rm_X12_order) (hX : atX X l D A) (post : Int32 → Mem → Prop) (hR : Rt X w shM 22 (some .int) (pI post)) (P124 : Int32 → Int32 → Int32 → Int32 → Int32 → Mem → Prop) (hP124 : ∀ (x1 : Int32) (x5 : Int32) (x7 : Int32) (x8 : Int32) (x9 : Int32) (μ : Mem), P124 x1 x5 x7 x8 x9 μ → V X 124 [(0, .ref (w.1 0)), (1, .int x1), (5, .int x5), (7, .int x7), (8, .int x8), (9, .int x9)] [] (wls w shM 22 μ)) (x1 : Int32) (x5 : Int32) (x7 : Int32) (x8 : Int32) (x9 : Int32) (μ : Mem) (h : B_X12_order_124 post P124 x1 x5 x7 x8 x9 μ) : V X 124 [(0, .ref (w.1 0)), (1, .int x1), (5, .int x5), (7, .int x7), (8, .int x8), (9, .int x9)] [] (wls w shM 22 μ) := by
  refine r_iload (pc := 124) 5 g dX12_order_124 rfl ?_
  refine r_iload (pc := 126) 2 g dX12_order_126 rfl ?_
  refine r_icmp_ge (pc := 128) 168 g dX12_order_128 rfl (fun q => ?_) (fun q => ?_)
  · have h := h.1 q
    refine r_iload (pc := 168) 4 g dX12_order_168 rfl ?_
    refine r_aload_n (pc := 170) 0 g dX12_order_170 rfl ?_
    refine r_callVi (pc := 171) (st := [.int x8]) g hX dX12_order_171 (m_X12_all μ _ h) kb_RX12_134 kv_X12_all shM_out sM_0 rfl rfl rfl rfl (fun u1 μ2 h => ?_)
    refine r_icmp_ne (pc := 174) 192 g dX12_order_174 rfl (fun q => ?_) (fun q => ?_)
    · have h := h.1 q
      refine r_sub [] (lv' := []) rfl ?_
      exact v_X12_order_192 g hX post hR μ2 h
    · have h := h.2 q
      refine r_iload_n (pc := 177) 1 g dX12_order_177 rfl ?_
      refine r_if_le (pc := 178) 195 g dX12_order_178 rfl (fun q => ?_) (fun q => ?_)
      · have h := h.1 q
        refine r_sub [0, 1] (lv' := [(0, .ref (w.1 0)), (1, .int x1)]) rfl ?_
        exact v_X12_order_195 g hX post hR x1 μ2 h
      · have h := h.2 q
        refine r_aload_n (pc := 181) 0 g dX12_order_181 rfl ?_
        refine r_aload_n (pc := 182) 0 g dX12_order_182 rfl ?_
        refine r_getr (pc := 183) (μ := μ2) g dX12_order_183 fa_RX12_46 shM_out sM_0 rfl ?_
        refine r_callVi (pc := 186) (st := []) g hX dX12_order_186 (m_X12_isLawful 13 μ2 _ h) kb_RX12_150 kv_X12_isLawful shM_out sM_0 rfl rfl rfl rfl (fun u3 μ4 h => ?_)
        refine r_if_ne (pc := 189) 195 g dX12_order_189 rfl (fun q => ?_) (fun q => ?_)
        · have h := h.1 q
          refine r_sub [0, 1] (lv' := [(0, .ref (w.1 0)), (1, .int x1)]) rfl ?_
          exact v_X12_order_195 g hX post hR x1 μ4 h
        · have h := h.2 q
          refine r_sub [] (lv' := []) rfl ?_
          exact v_X12_order_192 g hX post hR μ4 h
  · have h := h.2 q
    refine r_aload_n (pc := 131) 0 g dX12_order_131 rfl ?_
    refine r_getr (pc := 132) (μ := μ) g dX12_order_132 fa_RX12_46 shM_out sM_0 rfl ?_
    refine r_iload (pc := 135) 5 g dX12_order_135 rfl ?_
    refine r_aload_n (pc := 137) 0 g dX12_order_137 rfl ?_
    refine r_getr (pc := 138) (μ := μ) g dX12_order_138 fa_RX12_16 shM_out sM_0 rfl ?_
    refine r_iload (pc := 141) 3 g dX12_order_141 rfl ?_
    refine r_iload (pc := 143) 5 g dX12_order_143 rfl ?_
    refine r_iadd (pc := 145) g dX12_order_145 ?_
    obtain ⟨b5, h⟩ := h
    refine r_iaload (pc := 146) (μ := μ) g dX12_order_146 shM_out sM_3 b5 ?_
    obtain ⟨b6, h⟩ := h
    refine r_iastore (pc := 147) (μ := μ) g dX12_order_147 shM_out sM_13 b6 ?_
    refine r_iload (pc := 148) 4 g dX12_order_148 rfl ?_
    refine r_iconst (pc := 150) g dX12_order_150 ci_1 ?_
    refine r_aload_n (pc := 151) 0 g dX12_order_151 rfl ?_
    refine r_getr (pc := 152) (μ := mset μ 13 x9.toNatClampNeg (μ 3 (x7 + x9).toNatClampNeg)) g dX12_order_152 fa_RX12_46 shM_out sM_0 rfl ?_
    refine r_iload (pc := 155) 5 g dX12_order_155 rfl ?_
    obtain ⟨b7, h⟩ := h
    refine r_iaload (pc := 157) (μ := mset μ 13 x9.toNatClampNeg (μ 3 (x7 + x9).toNatClampNeg)) g dX12_order_157 shM_out sM_13 b7 ?_
    refine r_ishl (pc := 158) g dX12_order_158 ?_
    refine r_ior (pc := 159) g dX12_order_159 ?_
    refine r_istore (pc := 160) (lv' := [(8, .int (x8 ||| ((1 : Int32) <<< (((mset μ 13 x9.toNatClampNeg (μ 3 (x7 + x9).toNatClampNeg)) 13 x9.toNatClampNeg) &&& 31)))), (0, .ref (w.1 0)), (1, .int x1), (5, .int x5), (7, .int x7), (9, .int x9)]) g dX12_order_160 rfl rfl ?_
    refine r_iinc (pc := 162) (lv' := [(9, .int (x9 + 1)), (8, .int (x8 ||| ((1 : Int32) <<< (((mset μ 13 x9.toNatClampNeg (μ 3 (x7 + x9).toNatClampNeg)) 13 x9.toNatClampNeg) &&& 31)))), (0, .ref (w.1 0)), (1, .int x1), (5, .int x5), (7, .int x7)]) 5 g dX12_order_162 rfl ci_1 rfl rfl ?_
    refine r_goto (pc := 165) 124 g dX12_order_165 rfl ?_
    refine r_sub [2, 3, 4, 5, 1, 0] (lv' := [(0, .ref (w.1 0)), (1, .int x1), (5, .int x5), (7, .int x7), (8, .int (x8 ||| ((1 : Int32) <<< (((mset μ 13 x9.toNatClampNeg (μ 3 (x7 + x9).toNatClampNeg)) 13 x9.toNatClampNeg) &&& 31)))), (9, .int (x9 + 1))]) rfl ?_
    exact hP124 x1 x5 x7 (x8 ||| ((1 : Int32) <<< (((mset μ 13 x9.toNatClampNeg (μ 3 (x7 + x9).toNatClampNeg)) 13 x9.toNatClampNeg) &&& 31))) (x9 + 1) (mset μ 13 x9.toNatClampNeg (μ 3 (x7 + x9).toNatClampNeg)) h
theorem v_X12_order_124 {X : Cx} {w : Wd} {l : Launch} {D : va_G} {A : Nat → Prop} (g : Gd X w RX12 cX12_order 10 rm_X12_order) (hX : atX X l D A) (post : Int32 → Mem → Prop) (hR : Rt X w shM 22 (some .int) (pI post)) (x1 : Int32) (x5 : Int32) (x7 : Int32) (x8 : Int32) (x9 : Int32) (μ : Mem) (h : T_X12_order_124 post x1 x5 x7 x8 x9 μ) : V X 124 [(0, .ref (w.1 0)), (1, .int x1), (5, .int x5), (7, .int x7), (8, .int x8), (9, .int x9)] [] (wls w shM 22 μ) :=
  h (fun x1 x5 x7 x8 x9 μ => V X 124 [(0, .ref (w.1 0)), (1, .int x1), (5, .int x5), (7, .int x7), (8, .int x8), (9, .int x9)] [] (wls w shM 22 μ)) (fun x1 x5 x7 x8 x9 μ h => bv_X12_order_124 g hX post hR (fun x1 x5 x7 x8 x9 μ => V X 124 [(0, .ref (w.1 0)), (1, .int x1), (5, .int x5), (7, .int x7), (8, .int x8), (9, .int x9)] [] (wls w shM 22 μ)) (fun _ _ _ _ _ _ h => h) x1 x5 x7 x8 x9 μ h)
def B_X12_order_89 (post : Int32 → Mem → Prop) (P89 : Int32 → Int32 → Int32 → Int32 → Int32 → Mem → Prop) (x1 : Int32) (x5 : Int32) (x7 : Int32) (x8 : Int32) (x9 : Int32) (μ : Mem) : Prop :=
  ((x5 ≤ x9 → T_X12_order_124 post x1 x5 x7 x8 0 μ) ∧ (¬ x5 ≤ x9 → vp_in (x7 + x9) 240 ∧ T_X12_isWork (μ 3 (x7 + x9).toNatClampNeg) μ (fun (u2 : Int32) (μ3 : Mem) => ((¬ u2 = 0 → P89 x1 x5 x7 x8 (x9 + 1) μ3) ∧ (u2 = 0 → post (-1) μ3)))))
def T_X12_order_89 (post : Int32 → Mem → Prop) (x1 : Int32) (x5 : Int32) (x7 : Int32) (x8 : Int32) (x9 : Int32) (μ : Mem) : Prop :=
  ∀ P89 : Int32 → Int32 → Int32 → Int32 → Int32 → Mem → Prop, (∀ (x1 : Int32) (x5 : Int32) (x7 : Int32) (x8 : Int32) (x9 : Int32) (μ : Mem), B_X12_order_89 post P89 x1 x5 x7 x8 x9 μ → P89 x1 x5 x7 x8 x9 μ) → P89 x1 x5 x7 x8 x9 μ
theorem bv_X12_order_89 {X : Cx} {w : Wd} {l : Launch} {D : va_G} {A : Nat → Prop} (g : Gd X w RX12 cX12_order 10 rm_X12_order) (hX : atX X l D A) (post : Int32 → Mem → Prop) (hR : Rt X w shM 22 (some .int) (pI post)) (P89 : Int32 → Int32 → Int32 → Int32 → Int32 → Mem → Prop) (hP89 : ∀ (x1 : Int32) (x5 : Int32) (x7 : Int32) (x8 : Int32) (x9 : Int32) (μ : Mem), P89 x1 x5 x7 x8 x9 μ → V X 89 [(0, .ref (w.1 0)), (1, .int x1), (5, .int x5), (7, .int x7), (8, .int x8), (9, .int x9)] [] (wls w shM 22 μ)) (x1 : Int32) (x5 : Int32) (x7 : Int32) (x8 : Int32) (x9 : Int32) (μ : Mem) (h : B_X12_order_89 post P89 x1 x5 x7 x8 x9 μ) : V X 89 [(0, .ref (w.1 0)), (1, .int x1), (5, .int x5), (7, .int x7), (8, .int x8), (9, .int x9)] [] (wls w shM 22 μ) := by
  refine r_iload (pc := 89) 5 g dX12_order_89 rfl ?_
  refine r_iload (pc := 91) 2 g dX12_order_91 rfl ?_
  refine r_icmp_ge (pc := 93) 121 g dX12_order_93 rfl (fun q => ?_) (fun q => ?_)
  · have h := h.1 q
    refine r_iconst (pc := 121) g dX12_order_121 ci_0 ?_
    refine r_istore (pc := 122) (lv' := [(9, .int 0), (0, .ref (w.1 0)), (1, .int x1), (5, .int x5), (7, .int x7), (8, .int x8)]) g dX12_order_122 rfl rfl ?_
    refine r_sub [1, 2, 3, 4, 5, 0] (lv' := [(0, .ref (w.1 0)), (1, .int x1), (5, .int x5), (7, .int x7), (8, .int x8), (9, .int 0)]) rfl ?_
    exact v_X12_order_124 g hX post hR x1 x5 x7 x8 0 μ h
  · have h := h.2 q
    refine r_aload_n (pc := 96) 0 g dX12_order_96 rfl ?_
    refine r_aload_n (pc := 97) 0 g dX12_order_97 rfl ?_
    refine r_getr (pc := 98) (μ := μ) g dX12_order_98 fa_RX12_16 shM_out sM_0 rfl ?_
    refine r_iload (pc := 101) 3 g dX12_order_101 rfl ?_
    refine r_iload (pc := 103) 5 g dX12_order_103 rfl ?_
    refine r_iadd (pc := 105) g dX12_order_105 ?_
    obtain ⟨b1, h⟩ := h
    refine r_iaload (pc := 106) (μ := μ) g dX12_order_106 shM_out sM_3 b1 ?_
    refine r_callVi (pc := 107) (st := []) g hX dX12_order_107 (m_X12_isWork (μ 3 (x7 + x9).toNatClampNeg) μ _ h) kb_RX12_137 kv_X12_isWork shM_out sM_0 rfl rfl rfl rfl (fun u2 μ3 h => ?_)
    refine r_if_ne (pc := 110) 115 g dX12_order_110 rfl (fun q => ?_) (fun q => ?_)
    · have h := h.1 q
      refine r_iinc (pc := 115) (lv' := [(9, .int (x9 + 1)), (0, .ref (w.1 0)), (1, .int x1), (5, .int x5), (7, .int x7), (8, .int x8)]) 5 g dX12_order_115 rfl ci_1 rfl rfl ?_
      refine r_goto (pc := 118) 89 g dX12_order_118 rfl ?_
      refine r_sub [1, 2, 3, 4, 5, 0] (lv' := [(0, .ref (w.1 0)), (1, .int x1), (5, .int x5), (7, .int x7), (8, .int x8), (9, .int (x9 + 1))]) rfl ?_
      exact hP89 x1 x5 x7 x8 (x9 + 1) μ3 h
    · have h := h.2 q
      refine r_iconst (pc := 113) g dX12_order_113 ci_m1 ?_
      exact r_ireti (pc := 114) g hR dX12_order_114 h
theorem v_X12_order_89 {X : Cx} {w : Wd} {l : Launch} {D : va_G} {A : Nat → Prop} (g : Gd X w RX12 cX12_order 10 rm_X12_order) (hX : atX X l D A) (post : Int32 → Mem → Prop) (hR : Rt X w shM 22 (some .int) (pI post)) (x1 : Int32) (x5 : Int32) (x7 : Int32) (x8 : Int32) (x9 : Int32) (μ : Mem) (h : T_X12_order_89 post x1 x5 x7 x8 x9 μ) : V X 89 [(0, .ref (w.1 0)), (1, .int x1), (5, .int x5), (7, .int x7), (8, .int x8), (9, .int x9)] [] (wls w shM 22 μ) :=
  h (fun x1 x5 x7 x8 x9 μ => V X 89 [(0, .ref (w.1 0)), (1, .int x1), (5, .int x5), (7, .int x7), (8, .int x8), (9, .int x9)] [] (wls w shM 22 μ)) (fun x1 x5 x7 x8 x9 μ h => bv_X12_order_89 g hX post hR (fun x1 x5 x7 x8 x9 μ => V X 89 [(0, .ref (w.1 0)), (1, .int x1), (5, .int x5), (7, .int x7), (8, .int x8), (9, .int x9)] [] (wls w shM 22 μ)) (fun _ _ _ _ _ _ h => h) x1 x5 x7 x8 x9 μ h)
def T_X12_order (x1 : Int32) (x2 : Int32) (x3 : Int32) (x4 : Int32) (x5 : Int32) (μ : Mem) (post : Int32 → Mem → Prop) : Prop :=
  T_X12_isSheet x2 (mset μ 0 0 0) (fun (u1 : Int32) (μ2 : Mem) => ((¬ u1 = 0 → T_X12_isIn x1 0 2 μ2 (fun (u3 : Int32) (μ4 : Mem) => ((u3 = 0 → T_X12_order_30 post μ4) ∧ (¬ u3 = 0 → T_X12_isLane x3 μ4 (fun (u5 : Int32) (μ6 : Mem) => ((¬ u5 = 0 → T_X12_against x2 x3 x4 x5 μ6 (fun (u7 : Int32) (μ8 : Mem) => ((u7 = 0 → ((¬ x5 = (μ8 0 5) → T_X12_order_71 post μ8) ∧ (x5 = (μ8 0 5) → ((¬ x5 = 0 → T_X12_order_89 post x1 x5 ((60 * x2) + x4) 0 0 μ8) ∧ (x5 = 0 → T_X12_order_71 post μ8))))) ∧ (¬ u7 = 0 → T_X12_fails u7 μ8 (fun (u9 : Int32) (μ10 : Mem) => post u9 μ10))))) ∧ (u5 = 0 → T_X12_order_30 post μ6))))))) ∧ (u1 = 0 → post (-1) μ2)))
theorem m_X12_order {w : Wd} {l : Launch} {D : va_G} {A : Nat → Prop} (x1 : Int32) (x2 : Int32) (x3 : Int32) (x4 : Int32) (x5 : Int32) (μ : Mem) (post : Int32 → Mem → Prop) (h : T_X12_order x1 x2 x3 x4 x5 μ post) : MetX l D A w shM 22 yX12_order cX12_order 10 (some .int) rm_X12_order [.ref (w.1 0), .int x1, .int x2, .int x3, .int x4, .int x5] μ (pI post) := by
  refine metX_of (by decide) rfl (lv := [(0, .ref (w.1 0)), (1, .int x1), (2, .int x2), (3, .int x3), (4, .int x4), (5, .int x5)]) rfl (fun X hX g hR => ?_)
  refine r_aload_n (pc := 0) 0 g dX12_order_0 rfl ?_
  refine r_iconst (pc := 1) g dX12_order_1 ci_0 ?_
  refine r_puti (pc := 2) (μ := μ) g dX12_order_2 fp_RX12_73 shM_out sM_0 rfl ?_
  refine r_iload_n (pc := 5) 2 g dX12_order_5 rfl ?_
  refine r_callSi (pc := 6) (st := []) g hX dX12_order_6 (m_X12_isSheet x2 (mset μ 0 0 0) _ h) kb_RX12_113 k_1094 rfl rfl rfl rfl (fun u1 μ2 h => ?_)
  refine r_if_ne (pc := 9) 14 g dX12_order_9 rfl (fun q => ?_) (fun q => ?_)
  · have h := h.1 q
    refine r_iload_n (pc := 14) 1 g dX12_order_14 rfl ?_
    refine r_iconst (pc := 15) g dX12_order_15 ci_0 ?_
    refine r_iconst (pc := 16) g dX12_order_16 ci_2 ?_
    refine r_callSi (pc := 17) (st := []) g hX dX12_order_17 (m_X12_isIn x1 0 2 μ2 _ h) kb_RX12_79 k_1097 rfl rfl rfl rfl (fun u3 μ4 h => ?_)
    refine r_if_eq (pc := 20) 30 g dX12_order_20 rfl (fun q => ?_) (fun q => ?_)
    · have h := h.1 q
      refine r_sub [] (lv' := []) rfl ?_
      exact v_X12_order_30 g hX post hR μ4 h
    · have h := h.2 q
      refine r_iload_n (pc := 23) 3 g dX12_order_23 rfl ?_
      refine r_callSi (pc := 24) (st := []) g hX dX12_order_24 (m_X12_isLane x3 μ4 _ h) kb_RX12_117 k_1100 rfl rfl rfl rfl (fun u5 μ6 h => ?_)
      refine r_if_ne (pc := 27) 33 g dX12_order_27 rfl (fun q => ?_) (fun q => ?_)
      · have h := h.1 q
        refine r_aload_n (pc := 33) 0 g dX12_order_33 rfl ?_
        refine r_iload_n (pc := 34) 2 g dX12_order_34 rfl ?_
        refine r_iload_n (pc := 35) 3 g dX12_order_35 rfl ?_
        refine r_iload (pc := 36) 4 g dX12_order_36 rfl ?_
        refine r_iload (pc := 38) 5 g dX12_order_38 rfl ?_
        refine r_callVi (pc := 40) (st := []) g hX dX12_order_40 (m_X12_against x2 x3 x4 x5 μ6 _ h) kb_RX12_120 kv_X12_against shM_out sM_0 rfl rfl rfl rfl (fun u7 μ8 h => ?_)
        refine r_istore (pc := 43) (lv' := [(6, .int u7), (0, .ref (w.1 0)), (1, .int x1), (2, .int x2), (3, .int x3), (4, .int x4), (5, .int x5)]) g dX12_order_43 rfl rfl ?_
        refine r_iload (pc := 45) 0 g dX12_order_45 rfl ?_
        refine r_if_eq (pc := 47) 57 g dX12_order_47 rfl (fun q => ?_) (fun q => ?_)
        · have h := h.1 q
          refine r_iload (pc := 57) 6 g dX12_order_57 rfl ?_
          refine r_aload_n (pc := 59) 1 g dX12_order_59 rfl ?_
          refine r_geti (pc := 60) (μ := μ8) g dX12_order_60 fa_RX12_83 shM_out sM_0 rfl ?_
          refine r_icmp_ne (pc := 63) 71 g dX12_order_63 rfl (fun q => ?_) (fun q => ?_)
          · have h := h.1 q
            refine r_sub [] (lv' := []) rfl ?_
            exact v_X12_order_71 g hX post hR μ8 h
          · have h := h.2 q
            refine r_iload (pc := 66) 6 g dX12_order_66 rfl ?_
            refine r_if_ne (pc := 68) 74 g dX12_order_68 rfl (fun q => ?_) (fun q => ?_)
            · have h := h.1 q
              refine r_bipush (pc := 74) g dX12_order_74 cb_60 ?_
              refine r_iload_n (pc := 76) 3 g dX12_order_76 rfl ?_
              refine r_imul (pc := 77) g dX12_order_77 ?_
              refine r_iload (pc := 78) 5 g dX12_order_78 rfl ?_
              refine r_iadd (pc := 80) g dX12_order_80 ?_
              refine r_istore (pc := 81) (lv' := [(7, .int ((60 * x2) + x4)), (6, .int u7), (0, .ref (w.1 0)), (1, .int x1), (2, .int x2), (3, .int x3), (4, .int x4), (5, .int x5)]) g dX12_order_81 rfl rfl ?_
              refine r_iconst (pc := 83) g dX12_order_83 ci_0 ?_
              refine r_istore (pc := 84) (lv' := [(8, .int 0), (7, .int ((60 * x2) + x4)), (6, .int u7), (0, .ref (w.1 0)), (1, .int x1), (2, .int x2), (3, .int x3), (4, .int x4), (5, .int x5)]) g dX12_order_84 rfl rfl ?_
              refine r_iconst (pc := 86) g dX12_order_86 ci_0 ?_
              refine r_istore (pc := 87) (lv' := [(9, .int 0), (8, .int 0), (7, .int ((60 * x2) + x4)), (6, .int u7), (0, .ref (w.1 0)), (1, .int x1), (2, .int x2), (3, .int x3), (4, .int x4), (5, .int x5)]) g dX12_order_87 rfl rfl ?_
              refine r_sub [4, 5, 9, 2, 1, 0] (lv' := [(0, .ref (w.1 0)), (1, .int x1), (5, .int x5), (7, .int ((60 * x2) + x4)), (8, .int 0), (9, .int 0)]) rfl ?_
              exact v_X12_order_89 g hX post hR x1 x5 ((60 * x2) + x4) 0 0 μ8 h
            · have h := h.2 q
              refine r_sub [] (lv' := []) rfl ?_
              exact v_X12_order_71 g hX post hR μ8 h
        · have h := h.2 q
          refine r_aload_n (pc := 50) 1 g dX12_order_50 rfl ?_
          refine r_iload (pc := 51) 0 g dX12_order_51 rfl ?_
          refine r_callVi (pc := 53) (st := []) g hX dX12_order_53 (m_X12_fails u7 μ8 _ h) kb_RX12_124 kv_X12_fails shM_out sM_0 rfl rfl rfl rfl (fun u9 μ10 h => ?_)
          exact r_ireti (pc := 56) g hR dX12_order_56 h
      · have h := h.2 q
        refine r_sub [] (lv' := []) rfl ?_
        exact v_X12_order_30 g hX post hR μ6 h
  · have h := h.2 q
    refine r_iconst (pc := 12) g dX12_order_12 ci_m1 ?_
    exact r_ireti (pc := 13) g hR dX12_order_13 h
abbrev rm_X12_ofOrder : Room := { frames := 3, cells := 0, slots := 0, locals := 68 }
def T_X12_ofOrder_115 (post : Int32 → Mem → Prop) (μ : Mem) : Prop :=
  post (-2) μ
theorem v_X12_ofOrder_115 {X : Cx} {w : Wd} {l : Launch} {D : va_G} {A : Nat → Prop} (g : Gd X w RX12 cX12_ofOrder 4 rm_X12_ofOrder) (hX : atX X l D A) (post : Int32 → Mem → Prop) (hR : Rt X w shM 22 (some .int) (pI post)) (μ : Mem) (h : T_X12_ofOrder_115 post μ) : V X 115 [] [] (wls w shM 22 μ) := by
  refine r_bipush (pc := 115) g dX12_ofOrder_115 cb_m2 ?_
  exact r_ireti (pc := 117) g hR dX12_ofOrder_117 h
def T_X12_ofOrder (x1 : Int32) (x2 : Int32) (μ : Mem) (post : Int32 → Mem → Prop) : Prop :=
  T_X12_isOrder x1 μ (fun (u1 : Int32) (μ2 : Mem) => ((¬ u1 = 0 → T_X12_lookAt x1 μ2 (fun (μ4 : Mem) => ((x2 = 0 → vp_in x1 8 ∧ post (μ4 11 x1.toNatClampNeg) μ4) ∧ (x2 = 1 → T_X12_mostOf 13 μ4 (fun (u7 : Int32) (μ8 : Mem) => post u7 μ8)) ∧ (x2 = 2 → T_X12_longOf 13 μ4 (fun (u9 : Int32) (μ10 : Mem) => post u9 μ10)) ∧ (x2 = 3 → T_X12_isLawful 13 μ4 (fun (u11 : Int32) (μ12 : Mem) => ((u11 = 0 → post 0 μ12) ∧ (¬ u11 = 0 → post 1 μ12)))) ∧ (¬ x2 = 0 → ¬ x2 = 1 → ¬ x2 = 2 → ¬ x2 = 3 → ((x2 < 10 → T_X12_ofOrder_115 post μ4) ∧ (¬ x2 < 10 → ((38 < x2 → T_X12_ofOrder_115 post μ4) ∧ (¬ 38 < x2 → (((x2 - x2 / 10 * 10) < (μ4 0 5) → ((20 ≤ x2 → ((30 ≤ x2 → T_X12_openAt 13 (x2 - x2 / 10 * 10) μ4 (fun (u13 : Int32) (μ14 : Mem) => T_X12_sizeOf u13 μ14 (fun (u15 : Int32) (μ16 : Mem) => post u15 μ16))) ∧ (¬ 30 ≤ x2 → T_X12_openAt 13 (x2 - x2 / 10 * 10) μ4 (fun (u17 : Int32) (μ18 : Mem) => post u17 μ18)))) ∧ (¬ 20 ≤ x2 → vp_in (x2 - x2 / 10 * 10) 9 ∧ post (μ4 13 (x2 - x2 / 10 * 10).toNatClampNeg) μ4))) ∧ (¬ (x2 - x2 / 10 * 10) < (μ4 0 5) → T_X12_ofOrder_115 post μ4)))))))))) ∧ (u1 = 0 → post (-1) μ2)))
theorem m_X12_ofOrder {w : Wd} {l : Launch} {D : va_G} {A : Nat → Prop} (x1 : Int32) (x2 : Int32) (μ : Mem) (post : Int32 → Mem → Prop) (h : T_X12_ofOrder x1 x2 μ post) : MetX l D A w shM 22 yX12_ofOrder cX12_ofOrder 4 (some .int) rm_X12_ofOrder [.ref (w.1 0), .int x1, .int x2] μ (pI post) := by
  refine metX_of (by decide) rfl (lv := [(0, .ref (w.1 0)), (1, .int x1), (2, .int x2)]) rfl (fun X hX g hR => ?_)
  refine r_aload_n (pc := 0) 0 g dX12_ofOrder_0 rfl ?_
  refine r_iload_n (pc := 1) 1 g dX12_ofOrder_1 rfl ?_
  refine r_callVi (pc := 2) (st := []) g hX dX12_ofOrder_2 (m_X12_isOrder x1 μ _ h) kb_RX12_157 kv_X12_isOrder shM_out sM_0 rfl rfl rfl rfl (fun u1 μ2 h => ?_)
  refine r_if_ne (pc := 5) 10 g dX12_ofOrder_5 rfl (fun q => ?_) (fun q => ?_)
  · have h := h.1 q
    refine r_aload_n (pc := 10) 0 g dX12_ofOrder_10 rfl ?_
    refine r_iload_n (pc := 11) 1 g dX12_ofOrder_11 rfl ?_
    refine r_callVv (pc := 12) (st := []) g hX dX12_ofOrder_12 (m_X12_lookAt x1 μ2 _ h) kb_RX12_160 kv_X12_lookAt shM_out sM_0 rfl rfl rfl rfl (fun μ4 h => ?_)
    refine r_iload_n (pc := 15) 2 g dX12_ofOrder_15 rfl ?_
    have hs5 := h
    by_cases c0 : x2 = 0
    · have h := hs5.1 c0
      refine r_tswK (pc := 16) 0 48 g dX12_ofOrder_16 c0 ⟨by decide, by decide, rfl, rfl⟩ ?_
      refine r_aload_n (pc := 48) 0 g dX12_ofOrder_48 rfl ?_
      refine r_getr (pc := 49) (μ := μ4) g dX12_ofOrder_49 fa_RX12_40 shM_out sM_0 rfl ?_
      refine r_iload_n (pc := 52) 1 g dX12_ofOrder_52 rfl ?_
      obtain ⟨b6, h⟩ := h
      refine r_iaload (pc := 53) (μ := μ4) g dX12_ofOrder_53 shM_out sM_11 b6 ?_
      exact r_ireti (pc := 54) g hR dX12_ofOrder_54 h
    by_cases c1 : x2 = 1
    · have h := hs5.2.1 c1
      refine r_tswK (pc := 16) 1 55 g dX12_ofOrder_16 c1 ⟨by decide, by decide, rfl, rfl⟩ ?_
      refine r_aload_n (pc := 55) 0 g dX12_ofOrder_55 rfl ?_
      refine r_aload_n (pc := 56) 0 g dX12_ofOrder_56 rfl ?_
      refine r_getr (pc := 57) (μ := μ4) g dX12_ofOrder_57 fa_RX12_46 shM_out sM_0 rfl ?_
      refine r_callVi (pc := 60) (st := []) g hX dX12_ofOrder_60 (m_X12_mostOf 13 μ4 _ h) kb_RX12_164 kv_X12_mostOf shM_out sM_0 rfl rfl rfl rfl (fun u7 μ8 h => ?_)
      exact r_ireti (pc := 63) g hR dX12_ofOrder_63 h
    by_cases c2 : x2 = 2
    · have h := hs5.2.2.1 c2
      refine r_tswK (pc := 16) 2 64 g dX12_ofOrder_16 c2 ⟨by decide, by decide, rfl, rfl⟩ ?_
      refine r_aload_n (pc := 64) 0 g dX12_ofOrder_64 rfl ?_
      refine r_aload_n (pc := 65) 0 g dX12_ofOrder_65 rfl ?_
      refine r_getr (pc := 66) (μ := μ4) g dX12_ofOrder_66 fa_RX12_46 shM_out sM_0 rfl ?_
      refine r_callVi (pc := 69) (st := []) g hX dX12_ofOrder_69 (m_X12_longOf 13 μ4 _ h) kb_RX12_168 kv_X12_longOf shM_out sM_0 rfl rfl rfl rfl (fun u9 μ10 h => ?_)
      exact r_ireti (pc := 72) g hR dX12_ofOrder_72 h
    by_cases c3 : x2 = 3
    · have h := hs5.2.2.2.1 c3
      refine r_tswK (pc := 16) 3 73 g dX12_ofOrder_16 c3 ⟨by decide, by decide, rfl, rfl⟩ ?_
      refine r_aload_n (pc := 73) 0 g dX12_ofOrder_73 rfl ?_
      refine r_aload_n (pc := 74) 0 g dX12_ofOrder_74 rfl ?_
      refine r_getr (pc := 75) (μ := μ4) g dX12_ofOrder_75 fa_RX12_46 shM_out sM_0 rfl ?_
      refine r_callVi (pc := 78) (st := []) g hX dX12_ofOrder_78 (m_X12_isLawful 13 μ4 _ h) kb_RX12_150 kv_X12_isLawful shM_out sM_0 rfl rfl rfl rfl (fun u11 μ12 h => ?_)
      refine r_if_eq (pc := 81) 88 g dX12_ofOrder_81 rfl (fun q => ?_) (fun q => ?_)
      · have h := h.1 q
        refine r_iconst (pc := 88) g dX12_ofOrder_88 ci_0 ?_
        exact r_ireti (pc := 89) g hR dX12_ofOrder_89 h
      · have h := h.2 q
        refine r_iconst (pc := 84) g dX12_ofOrder_84 ci_1 ?_
        refine r_goto (pc := 85) 89 g dX12_ofOrder_85 rfl ?_
        exact r_ireti (pc := 89) g hR dX12_ofOrder_89 h
    have h := hs5.2.2.2.2 c0 c1 c2 c3
    refine r_tswD (pc := 16) 90 g dX12_ofOrder_16 (by have e0 := ne_toInt c0 (w := 0) (by decide); have e1 := ne_toInt c1 (w := 1) (by decide); have e2 := ne_toInt c2 (w := 2) (by decide); have e3 := ne_toInt c3 (w := 3) (by decide); omega) rfl ?_
    refine r_iload_n (pc := 90) 2 g dX12_ofOrder_90 rfl ?_
    refine r_bipush (pc := 91) g dX12_ofOrder_91 cb_10 ?_
    refine r_irem (pc := 93) g dX12_ofOrder_93 (by decide) ?_
    refine r_istore_n (pc := 94) (lv' := [(3, .int (x2 - x2 / 10 * 10)), (0, .ref (w.1 0)), (1, .int x1), (2, .int x2)]) g dX12_ofOrder_94 rfl rfl ?_
    refine r_iload_n (pc := 95) 3 g dX12_ofOrder_95 rfl ?_
    refine r_bipush (pc := 96) g dX12_ofOrder_96 cb_10 ?_
    refine r_icmp_lt (pc := 98) 115 g dX12_ofOrder_98 rfl (fun q => ?_) (fun q => ?_)
    · have h := h.1 q
      refine r_sub [] (lv' := []) rfl ?_
      exact v_X12_ofOrder_115 g hX post hR μ4 h
    · have h := h.2 q
      refine r_iload_n (pc := 101) 3 g dX12_ofOrder_101 rfl ?_
      refine r_bipush (pc := 102) g dX12_ofOrder_102 cb_38 ?_
      refine r_icmp_gt (pc := 104) 115 g dX12_ofOrder_104 rfl (fun q => ?_) (fun q => ?_)
      · have h := h.1 q
        refine r_sub [] (lv' := []) rfl ?_
        exact v_X12_ofOrder_115 g hX post hR μ4 h
      · have h := h.2 q
        refine r_iload_n (pc := 107) 0 g dX12_ofOrder_107 rfl ?_
        refine r_aload_n (pc := 108) 1 g dX12_ofOrder_108 rfl ?_
        refine r_geti (pc := 109) (μ := μ4) g dX12_ofOrder_109 fa_RX12_83 shM_out sM_0 rfl ?_
        refine r_icmp_lt (pc := 112) 118 g dX12_ofOrder_112 rfl (fun q => ?_) (fun q => ?_)
        · have h := h.1 q
          refine r_iload_n (pc := 118) 3 g dX12_ofOrder_118 rfl ?_
          refine r_bipush (pc := 119) g dX12_ofOrder_119 cb_20 ?_
          refine r_icmp_ge (pc := 121) 133 g dX12_ofOrder_121 rfl (fun q => ?_) (fun q => ?_)
          · have h := h.1 q
            refine r_iload_n (pc := 133) 3 g dX12_ofOrder_133 rfl ?_
            refine r_bipush (pc := 134) g dX12_ofOrder_134 cb_30 ?_
            refine r_icmp_ge (pc := 136) 151 g dX12_ofOrder_136 rfl (fun q => ?_) (fun q => ?_)
            · have h := h.1 q
              refine r_aload_n (pc := 151) 1 g dX12_ofOrder_151 rfl ?_
              refine r_aload_n (pc := 152) 1 g dX12_ofOrder_152 rfl ?_
              refine r_aload_n (pc := 153) 1 g dX12_ofOrder_153 rfl ?_
              refine r_getr (pc := 154) (μ := μ4) g dX12_ofOrder_154 fa_RX12_46 shM_out sM_0 rfl ?_
              refine r_iload_n (pc := 157) 0 g dX12_ofOrder_157 rfl ?_
              refine r_callVi (pc := 158) (st := [.ref (w.1 0)]) g hX dX12_ofOrder_158 (m_X12_openAt 13 (x2 - x2 / 10 * 10) μ4 _ h) kb_RX12_143 kv_X12_openAt shM_out sM_0 rfl rfl rfl rfl (fun u13 μ14 h => ?_)
              refine r_callVi (pc := 161) (st := []) g hX dX12_ofOrder_161 (m_X12_sizeOf u13 μ14 _ h) kb_RX12_147 kv_X12_sizeOf shM_out sM_0 rfl rfl rfl rfl (fun u15 μ16 h => ?_)
              exact r_ireti (pc := 164) g hR dX12_ofOrder_164 h
            · have h := h.2 q
              refine r_aload_n (pc := 139) 1 g dX12_ofOrder_139 rfl ?_
              refine r_aload_n (pc := 140) 1 g dX12_ofOrder_140 rfl ?_
              refine r_getr (pc := 141) (μ := μ4) g dX12_ofOrder_141 fa_RX12_46 shM_out sM_0 rfl ?_
              refine r_iload_n (pc := 144) 0 g dX12_ofOrder_144 rfl ?_
              refine r_callVi (pc := 145) (st := []) g hX dX12_ofOrder_145 (m_X12_openAt 13 (x2 - x2 / 10 * 10) μ4 _ h) kb_RX12_143 kv_X12_openAt shM_out sM_0 rfl rfl rfl rfl (fun u17 μ18 h => ?_)
              refine r_goto (pc := 148) 164 g dX12_ofOrder_148 rfl ?_
              exact r_ireti (pc := 164) g hR dX12_ofOrder_164 h
          · have h := h.2 q
            refine r_aload_n (pc := 124) 1 g dX12_ofOrder_124 rfl ?_
            refine r_getr (pc := 125) (μ := μ4) g dX12_ofOrder_125 fa_RX12_46 shM_out sM_0 rfl ?_
            refine r_iload_n (pc := 128) 0 g dX12_ofOrder_128 rfl ?_
            obtain ⟨b19, h⟩ := h
            refine r_iaload (pc := 129) (μ := μ4) g dX12_ofOrder_129 shM_out sM_13 b19 ?_
            refine r_goto (pc := 130) 164 g dX12_ofOrder_130 rfl ?_
            exact r_ireti (pc := 164) g hR dX12_ofOrder_164 h
        · have h := h.2 q
          refine r_sub [] (lv' := []) rfl ?_
          exact v_X12_ofOrder_115 g hX post hR μ4 h
  · have h := h.2 q
    refine r_iconst (pc := 8) g dX12_ofOrder_8 ci_m1 ?_
    exact r_ireti (pc := 9) g hR dX12_ofOrder_9 h
abbrev rm_X12_layUnions : Room := { frames := 2, cells := 0, slots := 0, locals := 44 }
def B_X12_layUnions_29 (post : Mem → Prop) (P29 : Int32 → Mem → Prop) (x1 : Int32) (μ : Mem) : Prop :=
  ((1024 ≤ x1 → post μ) ∧ (¬ 1024 ≤ x1 → T_X12_sizeOf x1 μ (fun (u1 : Int32) (μ2 : Mem) => vp_in x1 1024 ∧ P29 (x1 + 1) (mset μ2 17 x1.toNatClampNeg u1))))
def T_X12_layUnions_29 (post : Mem → Prop) (x1 : Int32) (μ : Mem) : Prop :=
  ∀ P29 : Int32 → Mem → Prop, (∀ (x1 : Int32) (μ : Mem), B_X12_layUnions_29 post P29 x1 μ → P29 x1 μ) → P29 x1 μ
theorem bv_X12_layUnions_29 {X : Cx} {w : Wd} {l : Launch} {D : va_G} {A : Nat → Prop} (g : Gd X w RX12 cX12_layUnions 2 rm_X12_layUnions) (hX : atX X l D A) (post : Mem → Prop) (hR : Rt X w shM 22 none (pV post)) (P29 : Int32 → Mem → Prop) (hP29 : ∀ (x1 : Int32) (μ : Mem), P29 x1 μ → V X 29 [(0, .ref (w.1 0)), (1, .int x1)] [] (wls w shM 22 μ)) (x1 : Int32) (μ : Mem) (h : B_X12_layUnions_29 post P29 x1 μ) : V X 29 [(0, .ref (w.1 0)), (1, .int x1)] [] (wls w shM 22 μ) := by
  refine r_iload_n (pc := 29) 1 g dX12_layUnions_29 rfl ?_
  refine r_sipush (pc := 30) g dX12_layUnions_30 cs_1024 ?_
  refine r_icmp_ge (pc := 33) 53 g dX12_layUnions_33 rfl (fun q => ?_) (fun q => ?_)
  · have h := h.1 q
    exact r_vretv (pc := 53) g hR dX12_layUnions_53 h
  · have h := h.2 q
    refine r_aload_n (pc := 36) 0 g dX12_layUnions_36 rfl ?_
    refine r_getr (pc := 37) (μ := μ) g dX12_layUnions_37 fa_RX12_58 shM_out sM_0 rfl ?_
    refine r_iload_n (pc := 40) 1 g dX12_layUnions_40 rfl ?_
    refine r_aload_n (pc := 41) 0 g dX12_layUnions_41 rfl ?_
    refine r_iload_n (pc := 42) 1 g dX12_layUnions_42 rfl ?_
    refine r_callVi (pc := 43) (st := [.int x1, .ref (w.1 17)]) g hX dX12_layUnions_43 (m_X12_sizeOf x1 μ _ h) kb_RX12_147 kv_X12_sizeOf shM_out sM_0 rfl rfl rfl rfl (fun u1 μ2 h => ?_)
    obtain ⟨b3, h⟩ := h
    refine r_iastore (pc := 46) (μ := μ2) g dX12_layUnions_46 shM_out sM_17 b3 ?_
    refine r_iinc (pc := 47) (lv' := [(1, .int (x1 + 1)), (0, .ref (w.1 0))]) 1 g dX12_layUnions_47 rfl ci_1 rfl rfl ?_
    refine r_goto (pc := 50) 29 g dX12_layUnions_50 rfl ?_
    refine r_sub [1, 0] (lv' := [(0, .ref (w.1 0)), (1, .int (x1 + 1))]) rfl ?_
    exact hP29 (x1 + 1) (mset μ2 17 x1.toNatClampNeg u1) h
theorem v_X12_layUnions_29 {X : Cx} {w : Wd} {l : Launch} {D : va_G} {A : Nat → Prop} (g : Gd X w RX12 cX12_layUnions 2 rm_X12_layUnions) (hX : atX X l D A) (post : Mem → Prop) (hR : Rt X w shM 22 none (pV post)) (x1 : Int32) (μ : Mem) (h : T_X12_layUnions_29 post x1 μ) : V X 29 [(0, .ref (w.1 0)), (1, .int x1)] [] (wls w shM 22 μ) :=
  h (fun x1 μ => V X 29 [(0, .ref (w.1 0)), (1, .int x1)] [] (wls w shM 22 μ)) (fun x1 μ h => bv_X12_layUnions_29 g hX post hR (fun x1 μ => V X 29 [(0, .ref (w.1 0)), (1, .int x1)] [] (wls w shM 22 μ)) (fun _ _ h => h) x1 μ h)
def B_X12_layUnions_2 (post : Mem → Prop) (P2 : Int32 → Mem → Prop) (x1 : Int32) (μ : Mem) : Prop :=
  T_X12_all μ (fun (u1 : Int32) (μ2 : Mem) => ((u1 < x1 → T_X12_layUnions_29 post 0 μ2) ∧ (¬ u1 < x1 → T_X12_needsOf x1 μ2 (fun (u3 : Int32) (μ4 : Mem) => vp_in x1 512 ∧ P2 (x1 + 1) (mset μ4 14 x1.toNatClampNeg u3)))))
def T_X12_layUnions_2 (post : Mem → Prop) (x1 : Int32) (μ : Mem) : Prop :=
  ∀ P2 : Int32 → Mem → Prop, (∀ (x1 : Int32) (μ : Mem), B_X12_layUnions_2 post P2 x1 μ → P2 x1 μ) → P2 x1 μ
theorem bv_X12_layUnions_2 {X : Cx} {w : Wd} {l : Launch} {D : va_G} {A : Nat → Prop} (g : Gd X w RX12 cX12_layUnions 2 rm_X12_layUnions) (hX : atX X l D A) (post : Mem → Prop) (hR : Rt X w shM 22 none (pV post)) (P2 : Int32 → Mem → Prop) (hP2 : ∀ (x1 : Int32) (μ : Mem), P2 x1 μ → V X 2 [(0, .ref (w.1 0)), (1, .int x1)] [] (wls w shM 22 μ)) (x1 : Int32) (μ : Mem) (h : B_X12_layUnions_2 post P2 x1 μ) : V X 2 [(0, .ref (w.1 0)), (1, .int x1)] [] (wls w shM 22 μ) := by
  refine r_iload_n (pc := 2) 1 g dX12_layUnions_2 rfl ?_
  refine r_aload_n (pc := 3) 0 g dX12_layUnions_3 rfl ?_
  refine r_callVi (pc := 4) (st := [.int x1]) g hX dX12_layUnions_4 (m_X12_all μ _ h) kb_RX12_134 kv_X12_all shM_out sM_0 rfl rfl rfl rfl (fun u1 μ2 h => ?_)
  refine r_icmp_gt (pc := 7) 27 g dX12_layUnions_7 rfl (fun q => ?_) (fun q => ?_)
  · have h := h.1 q
    refine r_iconst (pc := 27) g dX12_layUnions_27 ci_0 ?_
    refine r_istore_n (pc := 28) (lv' := [(1, .int 0), (0, .ref (w.1 0))]) g dX12_layUnions_28 rfl rfl ?_
    refine r_sub [1, 0] (lv' := [(0, .ref (w.1 0)), (1, .int 0)]) rfl ?_
    exact v_X12_layUnions_29 g hX post hR 0 μ2 h
  · have h := h.2 q
    refine r_aload_n (pc := 10) 0 g dX12_layUnions_10 rfl ?_
    refine r_getr (pc := 11) (μ := μ2) g dX12_layUnions_11 fa_RX12_49 shM_out sM_0 rfl ?_
    refine r_iload_n (pc := 14) 1 g dX12_layUnions_14 rfl ?_
    refine r_aload_n (pc := 15) 0 g dX12_layUnions_15 rfl ?_
    refine r_iload_n (pc := 16) 1 g dX12_layUnions_16 rfl ?_
    refine r_callVi (pc := 17) (st := [.int x1, .ref (w.1 14)]) g hX dX12_layUnions_17 (m_X12_needsOf x1 μ2 _ h) kb_RX12_171 kv_X12_needsOf shM_out sM_0 rfl rfl rfl rfl (fun u3 μ4 h => ?_)
    obtain ⟨b5, h⟩ := h
    refine r_iastore (pc := 20) (μ := μ4) g dX12_layUnions_20 shM_out sM_14 b5 ?_
    refine r_iinc (pc := 21) (lv' := [(1, .int (x1 + 1)), (0, .ref (w.1 0))]) 1 g dX12_layUnions_21 rfl ci_1 rfl rfl ?_
    refine r_goto (pc := 24) 2 g dX12_layUnions_24 rfl ?_
    refine r_sub [1, 0] (lv' := [(0, .ref (w.1 0)), (1, .int (x1 + 1))]) rfl ?_
    exact hP2 (x1 + 1) (mset μ4 14 x1.toNatClampNeg u3) h
theorem v_X12_layUnions_2 {X : Cx} {w : Wd} {l : Launch} {D : va_G} {A : Nat → Prop} (g : Gd X w RX12 cX12_layUnions 2 rm_X12_layUnions) (hX : atX X l D A) (post : Mem → Prop) (hR : Rt X w shM 22 none (pV post)) (x1 : Int32) (μ : Mem) (h : T_X12_layUnions_2 post x1 μ) : V X 2 [(0, .ref (w.1 0)), (1, .int x1)] [] (wls w shM 22 μ) :=
  h (fun x1 μ => V X 2 [(0, .ref (w.1 0)), (1, .int x1)] [] (wls w shM 22 μ)) (fun x1 μ h => bv_X12_layUnions_2 g hX post hR (fun x1 μ => V X 2 [(0, .ref (w.1 0)), (1, .int x1)] [] (wls w shM 22 μ)) (fun _ _ h => h) x1 μ h)
def T_X12_layUnions (μ : Mem) (post : Mem → Prop) : Prop :=
  T_X12_layUnions_2 post 0 μ
theorem m_X12_layUnions {w : Wd} {l : Launch} {D : va_G} {A : Nat → Prop} (μ : Mem) (post : Mem → Prop) (h : T_X12_layUnions μ post) : MetX l D A w shM 22 yX12_layUnions cX12_layUnions 2 none rm_X12_layUnions [.ref (w.1 0)] μ (pV post) := by
  refine metX_of (by decide) rfl (lv := [(0, .ref (w.1 0))]) rfl (fun X hX g hR => ?_)
  refine r_iconst (pc := 0) g dX12_layUnions_0 ci_0 ?_
  refine r_istore_n (pc := 1) (lv' := [(1, .int 0), (0, .ref (w.1 0))]) g dX12_layUnions_1 rfl rfl ?_
  refine r_sub [1, 0] (lv' := [(0, .ref (w.1 0)), (1, .int 0)]) rfl ?_
  exact v_X12_layUnions_2 g hX post hR 0 μ h
abbrev rm_X12_wideBy : Room := { frames := 0, cells := 0, slots := 0, locals := 0 }
def T_X12_wideBy (x1 : Int32) (x2 : Int32) (x3 : Int32) (μ : Mem) (post : Int32 → Mem → Prop) : Prop :=
  vp_in x3 9 ∧ vp_in x2 512 ∧ vp_in ((x1 &&& (x2 ^^^ (-1))) &&& (((1 : Int32) <<< (x3 &&& 31)) ^^^ (-1))) 512 ∧ vp_in ((μ 4 x3.toNatClampNeg) ||| ((μ 14 x2.toNatClampNeg) &&& (μ 14 ((x1 &&& (x2 ^^^ (-1))) &&& (((1 : Int32) <<< (x3 &&& 31)) ^^^ (-1))).toNatClampNeg))) 1024 ∧ post (μ 17 ((μ 4 x3.toNatClampNeg) ||| ((μ 14 x2.toNatClampNeg) &&& (μ 14 ((x1 &&& (x2 ^^^ (-1))) &&& (((1 : Int32) <<< (x3 &&& 31)) ^^^ (-1))).toNatClampNeg))).toNatClampNeg) μ
theorem m_X12_wideBy {w : Wd} {l : Launch} {D : va_G} {A : Nat → Prop} (x1 : Int32) (x2 : Int32) (x3 : Int32) (μ : Mem) (post : Int32 → Mem → Prop) (h : T_X12_wideBy x1 x2 x3 μ post) : MetX l D A w shM 22 yX12_wideBy cX12_wideBy 5 (some .int) rm_X12_wideBy [.ref (w.1 0), .int x1, .int x2, .int x3] μ (pI post) := by
  refine metX_of (by decide) rfl (lv := [(0, .ref (w.1 0)), (1, .int x1), (2, .int x2), (3, .int x3)]) rfl (fun X hX g hR => ?_)
  refine r_iload_n (pc := 0) 1 g dX12_wideBy_0 rfl ?_
  refine r_iload_n (pc := 1) 2 g dX12_wideBy_1 rfl ?_
  refine r_iconst (pc := 2) g dX12_wideBy_2 ci_m1 ?_
  refine r_ixor (pc := 3) g dX12_wideBy_3 ?_
  refine r_iand (pc := 4) g dX12_wideBy_4 ?_
  refine r_iconst (pc := 5) g dX12_wideBy_5 ci_1 ?_
  refine r_iload_n (pc := 6) 3 g dX12_wideBy_6 rfl ?_
  refine r_ishl (pc := 7) g dX12_wideBy_7 ?_
  refine r_iconst (pc := 8) g dX12_wideBy_8 ci_m1 ?_
  refine r_ixor (pc := 9) g dX12_wideBy_9 ?_
  refine r_iand (pc := 10) g dX12_wideBy_10 ?_
  refine r_istore (pc := 11) (lv' := [(4, .int ((x1 &&& (x2 ^^^ (-1))) &&& (((1 : Int32) <<< (x3 &&& 31)) ^^^ (-1)))), (0, .ref (w.1 0)), (1, .int x1), (2, .int x2), (3, .int x3)]) g dX12_wideBy_11 rfl rfl ?_
  refine r_aload_n (pc := 13) 1 g dX12_wideBy_13 rfl ?_
  refine r_getr (pc := 14) (μ := μ) g dX12_wideBy_14 fa_RX12_58 shM_out sM_0 rfl ?_
  refine r_aload_n (pc := 17) 1 g dX12_wideBy_17 rfl ?_
  refine r_getr (pc := 18) (μ := μ) g dX12_wideBy_18 fa_RX12_19 shM_out sM_0 rfl ?_
  refine r_iload_n (pc := 21) 4 g dX12_wideBy_21 rfl ?_
  obtain ⟨b1, h⟩ := h
  refine r_iaload (pc := 22) (μ := μ) g dX12_wideBy_22 shM_out sM_4 b1 ?_
  refine r_aload_n (pc := 23) 1 g dX12_wideBy_23 rfl ?_
  refine r_getr (pc := 24) (μ := μ) g dX12_wideBy_24 fa_RX12_49 shM_out sM_0 rfl ?_
  refine r_iload_n (pc := 27) 3 g dX12_wideBy_27 rfl ?_
  obtain ⟨b2, h⟩ := h
  refine r_iaload (pc := 28) (μ := μ) g dX12_wideBy_28 shM_out sM_14 b2 ?_
  refine r_aload_n (pc := 29) 1 g dX12_wideBy_29 rfl ?_
  refine r_getr (pc := 30) (μ := μ) g dX12_wideBy_30 fa_RX12_49 shM_out sM_0 rfl ?_
  refine r_iload (pc := 33) 0 g dX12_wideBy_33 rfl ?_
  obtain ⟨b3, h⟩ := h
  refine r_iaload (pc := 35) (μ := μ) g dX12_wideBy_35 shM_out sM_14 b3 ?_
  refine r_iand (pc := 36) g dX12_wideBy_36 ?_
  refine r_ior (pc := 37) g dX12_wideBy_37 ?_
  obtain ⟨b4, h⟩ := h
  refine r_iaload (pc := 38) (μ := μ) g dX12_wideBy_38 shM_out sM_17 b4 ?_
  exact r_ireti (pc := 39) g hR dX12_wideBy_39 h
abbrev rm_X12_mayCome : Room := { frames := 1, cells := 0, slots := 0, locals := 21 }
def T_X12_mayCome (x1 : Int32) (x2 : Int32) (x3 : Int32) (μ : Mem) (post : Int32 → Mem → Prop) : Prop :=
  T_X12_has (x1 &&& (x2 ^^^ (-1))) x3 μ (fun (u1 : Int32) (μ2 : Mem) => ((u1 = 0 → post 0 μ2) ∧ (¬ u1 = 0 → vp_in x3 9 ∧ ((¬ (((μ2 5 x3.toNatClampNeg) &&& x1) &&& (x2 ^^^ (-1))) = 0 → post 0 μ2) ∧ ((((μ2 5 x3.toNatClampNeg) &&& x1) &&& (x2 ^^^ (-1))) = 0 → post 1 μ2)))))
theorem m_X12_mayCome {w : Wd} {l : Launch} {D : va_G} {A : Nat → Prop} (x1 : Int32) (x2 : Int32) (x3 : Int32) (μ : Mem) (post : Int32 → Mem → Prop) (h : T_X12_mayCome x1 x2 x3 μ post) : MetX l D A w shM 22 yX12_mayCome cX12_mayCome 4 (some .boolean) rm_X12_mayCome [.ref (w.1 0), .int x1, .int x2, .int x3] μ (pI post) := by
  refine metX_of (by decide) rfl (lv := [(0, .ref (w.1 0)), (1, .int x1), (2, .int x2), (3, .int x3)]) rfl (fun X hX g hR => ?_)
  refine r_iload_n (pc := 0) 1 g dX12_mayCome_0 rfl ?_
  refine r_iload_n (pc := 1) 2 g dX12_mayCome_1 rfl ?_
  refine r_iconst (pc := 2) g dX12_mayCome_2 ci_m1 ?_
  refine r_ixor (pc := 3) g dX12_mayCome_3 ?_
  refine r_iand (pc := 4) g dX12_mayCome_4 ?_
  refine r_iload_n (pc := 5) 3 g dX12_mayCome_5 rfl ?_
  refine r_callSi (pc := 6) (st := []) g hX dX12_mayCome_6 (m_X12_has (x1 &&& (x2 ^^^ (-1))) x3 μ _ h) kb_RX12_96 k_1123 rfl rfl rfl rfl (fun u1 μ2 h => ?_)
  refine r_if_eq (pc := 9) 31 g dX12_mayCome_9 rfl (fun q => ?_) (fun q => ?_)
  · have h := h.1 q
    refine r_iconst (pc := 31) g dX12_mayCome_31 ci_0 ?_
    exact r_zreti (pc := 32) g hR dX12_mayCome_32 (Or.inl rfl) h
  · have h := h.2 q
    refine r_aload_n (pc := 12) 0 g dX12_mayCome_12 rfl ?_
    refine r_getr (pc := 13) (μ := μ2) g dX12_mayCome_13 fa_RX12_22 shM_out sM_0 rfl ?_
    refine r_iload_n (pc := 16) 3 g dX12_mayCome_16 rfl ?_
    obtain ⟨b3, h⟩ := h
    refine r_iaload (pc := 17) (μ := μ2) g dX12_mayCome_17 shM_out sM_5 b3 ?_
    refine r_iload_n (pc := 18) 1 g dX12_mayCome_18 rfl ?_
    refine r_iand (pc := 19) g dX12_mayCome_19 ?_
    refine r_iload_n (pc := 20) 2 g dX12_mayCome_20 rfl ?_
    refine r_iconst (pc := 21) g dX12_mayCome_21 ci_m1 ?_
    refine r_ixor (pc := 22) g dX12_mayCome_22 ?_
    refine r_iand (pc := 23) g dX12_mayCome_23 ?_
    refine r_if_ne (pc := 24) 31 g dX12_mayCome_24 rfl (fun q => ?_) (fun q => ?_)
    · have h := h.1 q
      refine r_iconst (pc := 31) g dX12_mayCome_31 ci_0 ?_
      exact r_zreti (pc := 32) g hR dX12_mayCome_32 (Or.inl rfl) h
    · have h := h.2 q
      refine r_iconst (pc := 27) g dX12_mayCome_27 ci_1 ?_
      refine r_goto (pc := 28) 32 g dX12_mayCome_28 rfl ?_
      exact r_zreti (pc := 32) g hR dX12_mayCome_32 (Or.inr rfl) h
abbrev rm_X12_layMost : Room := { frames := 2, cells := 0, slots := 0, locals := 44 }
def T_X12_layMost_111 (post : Mem → Prop) (P2 : Int32 → Int32 → Mem → Prop) (P32 : Int32 → Int32 → Int32 → Int32 → Mem → Prop) (x1 : Int32) (x2 : Int32) (x4 : Int32) (s0 : Int32) (μ : Mem) : Prop :=
  P32 x1 x2 s0 (x4 + 1) μ
theorem v_X12_layMost_111 {X : Cx} {w : Wd} {l : Launch} {D : va_G} {A : Nat → Prop} (g : Gd X w RX12 cX12_layMost 8 rm_X12_layMost) (hX : atX X l D A) (post : Mem → Prop) (hR : Rt X w shM 22 none (pV post)) (P2 : Int32 → Int32 → Mem → Prop) (hP2 : ∀ (x1 : Int32) (x2 : Int32) (μ : Mem), P2 x1 x2 μ → V X 2 [(0, .ref (w.1 0)), (1, .int x1), (2, .int x2)] [] (wls w shM 22 μ)) (P32 : Int32 → Int32 → Int32 → Int32 → Mem → Prop) (hP32 : ∀ (x1 : Int32) (x2 : Int32) (x3 : Int32) (x4 : Int32) (μ : Mem), P32 x1 x2 x3 x4 μ → V X 32 [(0, .ref (w.1 0)), (1, .int x1), (2, .int x2), (3, .int x3), (4, .int x4)] [] (wls w shM 22 μ)) (x1 : Int32) (x2 : Int32) (x4 : Int32) (s0 : Int32) (μ : Mem) (h : T_X12_layMost_111 post P2 P32 x1 x2 x4 s0 μ) : V X 111 [(0, .ref (w.1 0)), (1, .int x1), (2, .int x2), (4, .int x4)] [.int s0] (wls w shM 22 μ) := by
  refine r_istore_n (pc := 111) (lv' := [(3, .int s0), (0, .ref (w.1 0)), (1, .int x1), (2, .int x2), (4, .int x4)]) g dX12_layMost_111 rfl rfl ?_
  refine r_iinc (pc := 112) (lv' := [(4, .int (x4 + 1)), (3, .int s0), (0, .ref (w.1 0)), (1, .int x1), (2, .int x2)]) 4 g dX12_layMost_112 rfl ci_1 rfl rfl ?_
  refine r_goto (pc := 115) 32 g dX12_layMost_115 rfl ?_
  refine r_sub [2, 3, 4, 1, 0] (lv' := [(0, .ref (w.1 0)), (1, .int x1), (2, .int x2), (3, .int s0), (4, .int (x4 + 1))]) rfl ?_
  exact hP32 x1 x2 s0 (x4 + 1) μ h
def T_X12_layMost_97 (post : Mem → Prop) (P2 : Int32 → Int32 → Mem → Prop) (P32 : Int32 → Int32 → Int32 → Int32 → Mem → Prop) (x1 : Int32) (x2 : Int32) (x3 : Int32) (x4 : Int32) (s0 : Int32) (μ : Mem) : Prop :=
  ((x3 ≤ s0 → T_X12_layMost_111 post P2 P32 x1 x2 x4 x3 μ) ∧ (¬ x3 ≤ s0 → T_X12_layMost_111 post P2 P32 x1 x2 x4 s0 μ))
theorem v_X12_layMost_97 {X : Cx} {w : Wd} {l : Launch} {D : va_G} {A : Nat → Prop} (g : Gd X w RX12 cX12_layMost 8 rm_X12_layMost) (hX : atX X l D A) (post : Mem → Prop) (hR : Rt X w shM 22 none (pV post)) (P2 : Int32 → Int32 → Mem → Prop) (hP2 : ∀ (x1 : Int32) (x2 : Int32) (μ : Mem), P2 x1 x2 μ → V X 2 [(0, .ref (w.1 0)), (1, .int x1), (2, .int x2)] [] (wls w shM 22 μ)) (P32 : Int32 → Int32 → Int32 → Int32 → Mem → Prop) (hP32 : ∀ (x1 : Int32) (x2 : Int32) (x3 : Int32) (x4 : Int32) (μ : Mem), P32 x1 x2 x3 x4 μ → V X 32 [(0, .ref (w.1 0)), (1, .int x1), (2, .int x2), (3, .int x3), (4, .int x4)] [] (wls w shM 22 μ)) (x1 : Int32) (x2 : Int32) (x3 : Int32) (x4 : Int32) (s0 : Int32) (μ : Mem) (h : T_X12_layMost_97 post P2 P32 x1 x2 x3 x4 s0 μ) : V X 97 [(0, .ref (w.1 0)), (1, .int x1), (2, .int x2), (3, .int x3), (4, .int x4)] [.int s0] (wls w shM 22 μ) := by
  refine r_istore (pc := 97) (lv' := [(7, .int s0), (0, .ref (w.1 0)), (1, .int x1), (2, .int x2), (3, .int x3), (4, .int x4)]) g dX12_layMost_97 rfl rfl ?_
  refine r_iload (pc := 99) 0 g dX12_layMost_99 rfl ?_
  refine r_iload_n (pc := 101) 4 g dX12_layMost_101 rfl ?_
  refine r_icmp_ge (pc := 102) 110 g dX12_layMost_102 rfl (fun q => ?_) (fun q => ?_)
  · have h := h.1 q
    refine r_iload_n (pc := 110) 4 g dX12_layMost_110 rfl ?_
    refine r_sub [1, 2, 3, 5] (lv' := [(0, .ref (w.1 0)), (1, .int x1), (2, .int x2), (4, .int x4)]) rfl ?_
    exact v_X12_layMost_111 g hX post hR P2 hP2 P32 hP32 x1 x2 x4 x3 μ h
  · have h := h.2 q
    refine r_iload (pc := 105) 0 g dX12_layMost_105 rfl ?_
    refine r_goto (pc := 107) 111 g dX12_layMost_107 rfl ?_
    refine r_sub [1, 2, 3, 5] (lv' := [(0, .ref (w.1 0)), (1, .int x1), (2, .int x2), (4, .int x4)]) rfl ?_
    exact v_X12_layMost_111 g hX post hR P2 hP2 P32 hP32 x1 x2 x4 s0 μ h
def T_X12_layMost_118 (post : Mem → Prop) (P2 : Int32 → Int32 → Mem → Prop) (x1 : Int32) (x2 : Int32) (x3 : Int32) (μ : Mem) : Prop :=
  vp_in x2 512 ∧ P2 x1 (x2 + (-1)) (mset μ 15 x2.toNatClampNeg x3)
theorem v_X12_layMost_118 {X : Cx} {w : Wd} {l : Launch} {D : va_G} {A : Nat → Prop} (g : Gd X w RX12 cX12_layMost 8 rm_X12_layMost) (hX : atX X l D A) (post : Mem → Prop) (hR : Rt X w shM 22 none (pV post)) (P2 : Int32 → Int32 → Mem → Prop) (hP2 : ∀ (x1 : Int32) (x2 : Int32) (μ : Mem), P2 x1 x2 μ → V X 2 [(0, .ref (w.1 0)), (1, .int x1), (2, .int x2)] [] (wls w shM 22 μ)) (x1 : Int32) (x2 : Int32) (x3 : Int32) (μ : Mem) (h : T_X12_layMost_118 post P2 x1 x2 x3 μ) : V X 118 [(0, .ref (w.1 0)), (1, .int x1), (2, .int x2), (3, .int x3)] [] (wls w shM 22 μ) := by
  refine r_aload_n (pc := 118) 0 g dX12_layMost_118 rfl ?_
  refine r_getr (pc := 119) (μ := μ) g dX12_layMost_119 fa_RX12_52 shM_out sM_0 rfl ?_
  refine r_iload_n (pc := 122) 2 g dX12_layMost_122 rfl ?_
  refine r_iload_n (pc := 123) 3 g dX12_layMost_123 rfl ?_
  obtain ⟨b1, h⟩ := h
  refine r_iastore (pc := 124) (μ := μ) g dX12_layMost_124 shM_out sM_15 b1 ?_
  refine r_iinc (pc := 125) (lv' := [(2, .int (x2 + (-1))), (0, .ref (w.1 0)), (1, .int x1), (3, .int x3)]) 2 g dX12_layMost_125 rfl ci_m1 rfl rfl ?_
  refine r_goto (pc := 128) 2 g dX12_layMost_128 rfl ?_
  refine r_sub [1, 2, 0] (lv' := [(0, .ref (w.1 0)), (1, .int x1), (2, .int (x2 + (-1)))]) rfl ?_
  exact hP2 x1 (x2 + (-1)) (mset μ 15 x2.toNatClampNeg x3) h
def B_X12_layMost_32 (post : Mem → Prop) (P2 : Int32 → Int32 → Mem → Prop) (P32 : Int32 → Int32 → Int32 → Int32 → Mem → Prop) (x1 : Int32) (x2 : Int32) (x3 : Int32) (x4 : Int32) (μ : Mem) : Prop :=
  (((μ 0 5) ≤ x4 → T_X12_layMost_118 post P2 x1 x2 x3 μ) ∧ (¬ (μ 0 5) ≤ x4 → ((x2 = x1 → T_X12_layMost_118 post P2 x1 x2 x3 μ) ∧ (¬ x2 = x1 → T_X12_mayCome x1 x2 x4 μ (fun (u1 : Int32) (μ2 : Mem) => ((¬ u1 = 0 → T_X12_wideBy x1 x2 x4 μ2 (fun (u3 : Int32) (μ4 : Mem) => vp_in (x2 ||| ((1 : Int32) <<< (x4 &&& 31))) 512 ∧ ((u3 ≤ (μ4 15 (x2 ||| ((1 : Int32) <<< (x4 &&& 31))).toNatClampNeg) → T_X12_layMost_97 post P2 P32 x1 x2 x3 x4 (μ4 15 (x2 ||| ((1 : Int32) <<< (x4 &&& 31))).toNatClampNeg) μ4) ∧ (¬ u3 ≤ (μ4 15 (x2 ||| ((1 : Int32) <<< (x4 &&& 31))).toNatClampNeg) → T_X12_layMost_97 post P2 P32 x1 x2 x3 x4 u3 μ4)))) ∧ (u1 = 0 → P32 x1 x2 x3 (x4 + 1) μ2)))))))
def T_X12_layMost_32 (post : Mem → Prop) (P2 : Int32 → Int32 → Mem → Prop) (x1 : Int32) (x2 : Int32) (x3 : Int32) (x4 : Int32) (μ : Mem) : Prop :=
  ∀ P32 : Int32 → Int32 → Int32 → Int32 → Mem → Prop, (∀ (x1 : Int32) (x2 : Int32) (x3 : Int32) (x4 : Int32) (μ : Mem), B_X12_layMost_32 post P2 P32 x1 x2 x3 x4 μ → P32 x1 x2 x3 x4 μ) → P32 x1 x2 x3 x4 μ
theorem bv_X12_layMost_32 {X : Cx} {w : Wd} {l : Launch} {D : va_G} {A : Nat → Prop} (g : Gd X w RX12 cX12_layMost 8 rm_X12_layMost) (hX : atX X l D A) (post : Mem → Prop) (hR : Rt X w shM 22 none (pV post)) (P2 : Int32 → Int32 → Mem → Prop) (hP2 : ∀ (x1 : Int32) (x2 : Int32) (μ : Mem), P2 x1 x2 μ → V X 2 [(0, .ref (w.1 0)), (1, .int x1), (2, .int x2)] [] (wls w shM 22 μ)) (P32 : Int32 → Int32 → Int32 → Int32 → Mem → Prop) (hP32 : ∀ (x1 : Int32) (x2 : Int32) (x3 : Int32) (x4 : Int32) (μ : Mem), P32 x1 x2 x3 x4 μ → V X 32 [(0, .ref (w.1 0)), (1, .int x1), (2, .int x2), (3, .int x3), (4, .int x4)] [] (wls w shM 22 μ)) (x1 : Int32) (x2 : Int32) (x3 : Int32) (x4 : Int32) (μ : Mem) (h : B_X12_layMost_32 post P2 P32 x1 x2 x3 x4 μ) : V X 32 [(0, .ref (w.1 0)), (1, .int x1), (2, .int x2), (3, .int x3), (4, .int x4)] [] (wls w shM 22 μ) := by
  refine r_iload (pc := 32) 4 g dX12_layMost_32 rfl ?_
  refine r_aload_n (pc := 34) 0 g dX12_layMost_34 rfl ?_
  refine r_geti (pc := 35) (μ := μ) g dX12_layMost_35 fa_RX12_83 shM_out sM_0 rfl ?_
  refine r_icmp_ge (pc := 38) 118 g dX12_layMost_38 rfl (fun q => ?_) (fun q => ?_)
  · have h := h.1 q
    refine r_sub [0, 1, 2, 3] (lv' := [(0, .ref (w.1 0)), (1, .int x1), (2, .int x2), (3, .int x3)]) rfl ?_
    exact v_X12_layMost_118 g hX post hR P2 hP2 x1 x2 x3 μ h
  · have h := h.2 q
    refine r_iload_n (pc := 41) 2 g dX12_layMost_41 rfl ?_
    refine r_iload_n (pc := 42) 1 g dX12_layMost_42 rfl ?_
    refine r_icmp_eq (pc := 43) 118 g dX12_layMost_43 rfl (fun q => ?_) (fun q => ?_)
    · have h := h.1 q
      refine r_sub [0, 1, 2, 3] (lv' := [(0, .ref (w.1 0)), (1, .int x1), (2, .int x2), (3, .int x3)]) rfl ?_
      exact v_X12_layMost_118 g hX post hR P2 hP2 x1 x2 x3 μ h
    · have h := h.2 q
      refine r_aload_n (pc := 46) 0 g dX12_layMost_46 rfl ?_
      refine r_iload_n (pc := 47) 1 g dX12_layMost_47 rfl ?_
      refine r_iload_n (pc := 48) 2 g dX12_layMost_48 rfl ?_
      refine r_iload (pc := 49) 4 g dX12_layMost_49 rfl ?_
      refine r_callVi (pc := 51) (st := []) g hX dX12_layMost_51 (m_X12_mayCome x1 x2 x4 μ _ h) kb_RX12_175 kv_X12_mayCome shM_out sM_0 rfl rfl rfl rfl (fun u1 μ2 h => ?_)
      refine r_if_ne (pc := 54) 60 g dX12_layMost_54 rfl (fun q => ?_) (fun q => ?_)
      · have h := h.1 q
        refine r_aload_n (pc := 60) 0 g dX12_layMost_60 rfl ?_
        refine r_iload_n (pc := 61) 1 g dX12_layMost_61 rfl ?_
        refine r_iload_n (pc := 62) 2 g dX12_layMost_62 rfl ?_
        refine r_iload (pc := 63) 4 g dX12_layMost_63 rfl ?_
        refine r_callVi (pc := 65) (st := []) g hX dX12_layMost_65 (m_X12_wideBy x1 x2 x4 μ2 _ h) kb_RX12_178 kv_X12_wideBy shM_out sM_0 rfl rfl rfl rfl (fun u3 μ4 h => ?_)
        refine r_istore (pc := 68) (lv' := [(5, .int u3), (0, .ref (w.1 0)), (1, .int x1), (2, .int x2), (3, .int x3), (4, .int x4)]) g dX12_layMost_68 rfl rfl ?_
        refine r_aload_n (pc := 70) 1 g dX12_layMost_70 rfl ?_
        refine r_getr (pc := 71) (μ := μ4) g dX12_layMost_71 fa_RX12_52 shM_out sM_0 rfl ?_
        refine r_iload_n (pc := 74) 3 g dX12_layMost_74 rfl ?_
        refine r_iconst (pc := 75) g dX12_layMost_75 ci_1 ?_
        refine r_iload (pc := 76) 5 g dX12_layMost_76 rfl ?_
        refine r_ishl (pc := 78) g dX12_layMost_78 ?_
        refine r_ior (pc := 79) g dX12_layMost_79 ?_
        obtain ⟨b5, h⟩ := h
        refine r_iaload (pc := 80) (μ := μ4) g dX12_layMost_80 shM_out sM_15 b5 ?_
        refine r_istore (pc := 81) (lv' := [(6, .int (μ4 15 (x2 ||| ((1 : Int32) <<< (x4 &&& 31))).toNatClampNeg)), (5, .int u3), (0, .ref (w.1 0)), (1, .int x1), (2, .int x2), (3, .int x3), (4, .int x4)]) g dX12_layMost_81 rfl rfl ?_
        refine r_iload (pc := 83) 1 g dX12_layMost_83 rfl ?_
        refine r_iload (pc := 85) 0 g dX12_layMost_85 rfl ?_
        refine r_icmp_le (pc := 87) 95 g dX12_layMost_87 rfl (fun q => ?_) (fun q => ?_)
        · have h := h.1 q
          refine r_iload (pc := 95) 0 g dX12_layMost_95 rfl ?_
          refine r_sub [2, 3, 4, 5, 6] (lv' := [(0, .ref (w.1 0)), (1, .int x1), (2, .int x2), (3, .int x3), (4, .int x4)]) rfl ?_
          exact v_X12_layMost_97 g hX post hR P2 hP2 P32 hP32 x1 x2 x3 x4 (μ4 15 (x2 ||| ((1 : Int32) <<< (x4 &&& 31))).toNatClampNeg) μ4 h
        · have h := h.2 q
          refine r_iload (pc := 90) 1 g dX12_layMost_90 rfl ?_
          refine r_goto (pc := 92) 97 g dX12_layMost_92 rfl ?_
          refine r_sub [2, 3, 4, 5, 6] (lv' := [(0, .ref (w.1 0)), (1, .int x1), (2, .int x2), (3, .int x3), (4, .int x4)]) rfl ?_
          exact v_X12_layMost_97 g hX post hR P2 hP2 P32 hP32 x1 x2 x3 x4 u3 μ4 h
      · have h := h.2 q
        refine r_goto (pc := 57) 112 g dX12_layMost_57 rfl ?_
        refine r_iinc (pc := 112) (lv' := [(4, .int (x4 + 1)), (0, .ref (w.1 0)), (1, .int x1), (2, .int x2), (3, .int x3)]) 4 g dX12_layMost_112 rfl ci_1 rfl rfl ?_
        refine r_goto (pc := 115) 32 g dX12_layMost_115 rfl ?_
        refine r_sub [1, 2, 3, 4, 0] (lv' := [(0, .ref (w.1 0)), (1, .int x1), (2, .int x2), (3, .int x3), (4, .int (x4 + 1))]) rfl ?_
        exact hP32 x1 x2 x3 (x4 + 1) μ2 h
theorem v_X12_layMost_32 {X : Cx} {w : Wd} {l : Launch} {D : va_G} {A : Nat → Prop} (g : Gd X w RX12 cX12_layMost 8 rm_X12_layMost) (hX : atX X l D A) (post : Mem → Prop) (hR : Rt X w shM 22 none (pV post)) (P2 : Int32 → Int32 → Mem → Prop) (hP2 : ∀ (x1 : Int32) (x2 : Int32) (μ : Mem), P2 x1 x2 μ → V X 2 [(0, .ref (w.1 0)), (1, .int x1), (2, .int x2)] [] (wls w shM 22 μ)) (x1 : Int32) (x2 : Int32) (x3 : Int32) (x4 : Int32) (μ : Mem) (h : T_X12_layMost_32 post P2 x1 x2 x3 x4 μ) : V X 32 [(0, .ref (w.1 0)), (1, .int x1), (2, .int x2), (3, .int x3), (4, .int x4)] [] (wls w shM 22 μ) :=
  h (fun x1 x2 x3 x4 μ => V X 32 [(0, .ref (w.1 0)), (1, .int x1), (2, .int x2), (3, .int x3), (4, .int x4)] [] (wls w shM 22 μ)) (fun x1 x2 x3 x4 μ h => bv_X12_layMost_32 g hX post hR P2 hP2 (fun x1 x2 x3 x4 μ => V X 32 [(0, .ref (w.1 0)), (1, .int x1), (2, .int x2), (3, .int x3), (4, .int x4)] [] (wls w shM 22 μ)) (fun _ _ _ _ _ h => h) x1 x2 x3 x4 μ h)
def T_X12_layMost_28 (post : Mem → Prop) (P2 : Int32 → Int32 → Mem → Prop) (x1 : Int32) (x2 : Int32) (s0 : Int32) (μ : Mem) : Prop :=
  T_X12_layMost_32 post P2 x1 x2 s0 0 μ
theorem v_X12_layMost_28 {X : Cx} {w : Wd} {l : Launch} {D : va_G} {A : Nat → Prop} (g : Gd X w RX12 cX12_layMost 8 rm_X12_layMost) (hX : atX X l D A) (post : Mem → Prop) (hR : Rt X w shM 22 none (pV post)) (P2 : Int32 → Int32 → Mem → Prop) (hP2 : ∀ (x1 : Int32) (x2 : Int32) (μ : Mem), P2 x1 x2 μ → V X 2 [(0, .ref (w.1 0)), (1, .int x1), (2, .int x2)] [] (wls w shM 22 μ)) (x1 : Int32) (x2 : Int32) (s0 : Int32) (μ : Mem) (h : T_X12_layMost_28 post P2 x1 x2 s0 μ) : V X 28 [(0, .ref (w.1 0)), (1, .int x1), (2, .int x2)] [.int s0] (wls w shM 22 μ) := by
  refine r_istore_n (pc := 28) (lv' := [(3, .int s0), (0, .ref (w.1 0)), (1, .int x1), (2, .int x2)]) g dX12_layMost_28 rfl rfl ?_
  refine r_iconst (pc := 29) g dX12_layMost_29 ci_0 ?_
  refine r_istore (pc := 30) (lv' := [(4, .int 0), (3, .int s0), (0, .ref (w.1 0)), (1, .int x1), (2, .int x2)]) g dX12_layMost_30 rfl rfl ?_
  refine r_sub [2, 3, 4, 1, 0] (lv' := [(0, .ref (w.1 0)), (1, .int x1), (2, .int x2), (3, .int s0), (4, .int 0)]) rfl ?_
  exact v_X12_layMost_32 g hX post hR P2 hP2 x1 x2 s0 0 μ h
def B_X12_layMost_2 (post : Mem → Prop) (P2 : Int32 → Int32 → Mem → Prop) (x1 : Int32) (x2 : Int32) (μ : Mem) : Prop :=
  ((x2 < 0 → post μ) ∧ (¬ x2 < 0 → (((x2 &&& (x1 ^^^ (-1))) = 0 → ((¬ x2 = x1 → T_X12_layMost_28 post P2 x1 x2 1000000 μ) ∧ (x2 = x1 → T_X12_layMost_28 post P2 x1 x2 0 μ))) ∧ (¬ (x2 &&& (x1 ^^^ (-1))) = 0 → P2 x1 (x2 + (-1)) μ))))
def T_X12_layMost_2 (post : Mem → Prop) (x1 : Int32) (x2 : Int32) (μ : Mem) : Prop :=
  ∀ P2 : Int32 → Int32 → Mem → Prop, (∀ (x1 : Int32) (x2 : Int32) (μ : Mem), B_X12_layMost_2 post P2 x1 x2 μ → P2 x1 x2 μ) → P2 x1 x2 μ
theorem bv_X12_layMost_2 {X : Cx} {w : Wd} {l : Launch} {D : va_G} {A : Nat → Prop} (g : Gd X w RX12 cX12_layMost 8 rm_X12_layMost) (hX : atX X l D A) (post : Mem → Prop) (hR : Rt X w shM 22 none (pV post)) (P2 : Int32 → Int32 → Mem → Prop) (hP2 : ∀ (x1 : Int32) (x2 : Int32) (μ : Mem), P2 x1 x2 μ → V X 2 [(0, .ref (w.1 0)), (1, .int x1), (2, .int x2)] [] (wls w shM 22 μ)) (x1 : Int32) (x2 : Int32) (μ : Mem) (h : B_X12_layMost_2 post P2 x1 x2 μ) : V X 2 [(0, .ref (w.1 0)), (1, .int x1), (2, .int x2)] [] (wls w shM 22 μ) := by
  refine r_iload_n (pc := 2) 2 g dX12_layMost_2 rfl ?_
  refine r_if_lt (pc := 3) 131 g dX12_layMost_3 rfl (fun q => ?_) (fun q => ?_)
  · have h := h.1 q
    exact r_vretv (pc := 131) g hR dX12_layMost_131 h
  · have h := h.2 q
    refine r_iload_n (pc := 6) 2 g dX12_layMost_6 rfl ?_
    refine r_iload_n (pc := 7) 1 g dX12_layMost_7 rfl ?_
    refine r_iconst (pc := 8) g dX12_layMost_8 ci_m1 ?_
    refine r_ixor (pc := 9) g dX12_layMost_9 ?_
    refine r_iand (pc := 10) g dX12_layMost_10 ?_
    refine r_if_eq (pc := 11) 17 g dX12_layMost_11 rfl (fun q => ?_) (fun q => ?_)
    · have h := h.1 q
      refine r_iload_n (pc := 17) 2 g dX12_layMost_17 rfl ?_
      refine r_iload_n (pc := 18) 1 g dX12_layMost_18 rfl ?_
      refine r_icmp_ne (pc := 19) 26 g dX12_layMost_19 rfl (fun q => ?_) (fun q => ?_)
      · have h := h.1 q
        refine r_ldc (pc := 26) g dX12_layMost_26 k_1221 ?_
        refine r_sub [0, 1, 2] (lv' := [(0, .ref (w.1 0)), (1, .int x1), (2, .int x2)]) rfl ?_
        exact v_X12_layMost_28 g hX post hR P2 hP2 x1 x2 1000000 μ h
      · have h := h.2 q
        refine r_iconst (pc := 22) g dX12_layMost_22 ci_0 ?_
        refine r_goto (pc := 23) 28 g dX12_layMost_23 rfl ?_
        refine r_sub [0, 1, 2] (lv' := [(0, .ref (w.1 0)), (1, .int x1), (2, .int x2)]) rfl ?_
        exact v_X12_layMost_28 g hX post hR P2 hP2 x1 x2 0 μ h
    · have h := h.2 q
      refine r_goto (pc := 14) 125 g dX12_layMost_14 rfl ?_
      refine r_iinc (pc := 125) (lv' := [(2, .int (x2 + (-1))), (0, .ref (w.1 0)), (1, .int x1)]) 2 g dX12_layMost_125 rfl ci_m1 rfl rfl ?_
      refine r_goto (pc := 128) 2 g dX12_layMost_128 rfl ?_
      refine r_sub [1, 2, 0] (lv' := [(0, .ref (w.1 0)), (1, .int x1), (2, .int (x2 + (-1)))]) rfl ?_
      exact hP2 x1 (x2 + (-1)) μ h
theorem v_X12_layMost_2 {X : Cx} {w : Wd} {l : Launch} {D : va_G} {A : Nat → Prop} (g : Gd X w RX12 cX12_layMost 8 rm_X12_layMost) (hX : atX X l D A) (post : Mem → Prop) (hR : Rt X w shM 22 none (pV post)) (x1 : Int32) (x2 : Int32) (μ : Mem) (h : T_X12_layMost_2 post x1 x2 μ) : V X 2 [(0, .ref (w.1 0)), (1, .int x1), (2, .int x2)] [] (wls w shM 22 μ) :=
  h (fun x1 x2 μ => V X 2 [(0, .ref (w.1 0)), (1, .int x1), (2, .int x2)] [] (wls w shM 22 μ)) (fun x1 x2 μ h => bv_X12_layMost_2 g hX post hR (fun x1 x2 μ => V X 2 [(0, .ref (w.1 0)), (1, .int x1), (2, .int x2)] [] (wls w shM 22 μ)) (fun _ _ _ h => h) x1 x2 μ h)
def T_X12_layMost (x1 : Int32) (μ : Mem) (post : Mem → Prop) : Prop :=
  T_X12_layMost_2 post x1 x1 μ
theorem m_X12_layMost {w : Wd} {l : Launch} {D : va_G} {A : Nat → Prop} (x1 : Int32) (μ : Mem) (post : Mem → Prop) (h : T_X12_layMost x1 μ post) : MetX l D A w shM 22 yX12_layMost cX12_layMost 8 none rm_X12_layMost [.ref (w.1 0), .int x1] μ (pV post) := by
  refine metX_of (by decide) rfl (lv := [(0, .ref (w.1 0)), (1, .int x1)]) rfl (fun X hX g hR => ?_)
  refine r_iload_n (pc := 0) 1 g dX12_layMost_0 rfl ?_
  refine r_istore_n (pc := 1) (lv' := [(2, .int x1), (0, .ref (w.1 0)), (1, .int x1)]) g dX12_layMost_1 rfl rfl ?_
  refine r_sub [1, 2, 0] (lv' := [(0, .ref (w.1 0)), (1, .int x1), (2, .int x1)]) rfl ?_
  exact v_X12_layMost_2 g hX post hR x1 x1 μ h
abbrev rm_X12_layLong : Room := { frames := 2, cells := 0, slots := 0, locals := 44 }
def T_X12_layLong_106 (post : Mem → Prop) (P7 : Int32 → Int32 → Int32 → Mem → Prop) (P27 : Int32 → Int32 → Int32 → Int32 → Int32 → Mem → Prop) (x1 : Int32) (x2 : Int32) (x3 : Int32) (x5 : Int32) (s0 : Int32) (μ : Mem) : Prop :=
  P27 x1 x2 x3 s0 (x5 + 1) μ
theorem v_X12_layLong_106 {X : Cx} {w : Wd} {l : Launch} {D : va_G} {A : Nat → Prop} (g : Gd X w RX12 cX12_layLong 8 rm_X12_layLong) (hX : atX X l D A) (post : Mem → Prop) (hR : Rt X w shM 22 none (pV post)) (P7 : Int32 → Int32 → Int32 → Mem → Prop) (hP7 : ∀ (x1 : Int32) (x2 : Int32) (x3 : Int32) (μ : Mem), P7 x1 x2 x3 μ → V X 7 [(0, .ref (w.1 0)), (1, .int x1), (2, .int x2), (3, .int x3)] [] (wls w shM 22 μ)) (P27 : Int32 → Int32 → Int32 → Int32 → Int32 → Mem → Prop) (hP27 : ∀ (x1 : Int32) (x2 : Int32) (x3 : Int32) (x4 : Int32) (x5 : Int32) (μ : Mem), P27 x1 x2 x3 x4 x5 μ → V X 27 [(0, .ref (w.1 0)), (1, .int x1), (2, .int x2), (3, .int x3), (4, .int x4), (5, .int x5)] [] (wls w shM 22 μ)) (x1 : Int32) (x2 : Int32) (x3 : Int32) (x5 : Int32) (s0 : Int32) (μ : Mem) (h : T_X12_layLong_106 post P7 P27 x1 x2 x3 x5 s0 μ) : V X 106 [(0, .ref (w.1 0)), (1, .int x1), (2, .int x2), (3, .int x3), (5, .int x5)] [.int s0] (wls w shM 22 μ) := by
  refine r_istore (pc := 106) (lv' := [(4, .int s0), (0, .ref (w.1 0)), (1, .int x1), (2, .int x2), (3, .int x3), (5, .int x5)]) g dX12_layLong_106 rfl rfl ?_
  refine r_iinc (pc := 108) (lv' := [(5, .int (x5 + 1)), (4, .int s0), (0, .ref (w.1 0)), (1, .int x1), (2, .int x2), (3, .int x3)]) 5 g dX12_layLong_108 rfl ci_1 rfl rfl ?_
  refine r_goto (pc := 111) 27 g dX12_layLong_111 rfl ?_
  refine r_sub [2, 3, 4, 5, 1, 0] (lv' := [(0, .ref (w.1 0)), (1, .int x1), (2, .int x2), (3, .int x3), (4, .int s0), (5, .int (x5 + 1))]) rfl ?_
  exact hP27 x1 x2 x3 s0 (x5 + 1) μ h
def T_X12_layLong_90 (post : Mem → Prop) (P7 : Int32 → Int32 → Int32 → Mem → Prop) (P27 : Int32 → Int32 → Int32 → Int32 → Int32 → Mem → Prop) (x1 : Int32) (x2 : Int32) (x3 : Int32) (x4 : Int32) (x5 : Int32) (s0 : Int32) (μ : Mem) : Prop :=
  ((x4 ≤ s0 → T_X12_layLong_106 post P7 P27 x1 x2 x3 x5 x4 μ) ∧ (¬ x4 ≤ s0 → T_X12_layLong_106 post P7 P27 x1 x2 x3 x5 s0 μ))
theorem v_X12_layLong_90 {X : Cx} {w : Wd} {l : Launch} {D : va_G} {A : Nat → Prop} (g : Gd X w RX12 cX12_layLong 8 rm_X12_layLong) (hX : atX X l D A) (post : Mem → Prop) (hR : Rt X w shM 22 none (pV post)) (P7 : Int32 → Int32 → Int32 → Mem → Prop) (hP7 : ∀ (x1 : Int32) (x2 : Int32) (x3 : Int32) (μ : Mem), P7 x1 x2 x3 μ → V X 7 [(0, .ref (w.1 0)), (1, .int x1), (2, .int x2), (3, .int x3)] [] (wls w shM 22 μ)) (P27 : Int32 → Int32 → Int32 → Int32 → Int32 → Mem → Prop) (hP27 : ∀ (x1 : Int32) (x2 : Int32) (x3 : Int32) (x4 : Int32) (x5 : Int32) (μ : Mem), P27 x1 x2 x3 x4 x5 μ → V X 27 [(0, .ref (w.1 0)), (1, .int x1), (2, .int x2), (3, .int x3), (4, .int x4), (5, .int x5)] [] (wls w shM 22 μ)) (x1 : Int32) (x2 : Int32) (x3 : Int32) (x4 : Int32) (x5 : Int32) (s0 : Int32) (μ : Mem) (h : T_X12_layLong_90 post P7 P27 x1 x2 x3 x4 x5 s0 μ) : V X 90 [(0, .ref (w.1 0)), (1, .int x1), (2, .int x2), (3, .int x3), (4, .int x4), (5, .int x5)] [.int s0] (wls w shM 22 μ) := by
  refine r_istore (pc := 90) (lv' := [(7, .int s0), (0, .ref (w.1 0)), (1, .int x1), (2, .int x2), (3, .int x3), (4, .int x4), (5, .int x5)]) g dX12_layLong_90 rfl rfl ?_
  refine r_iload (pc := 92) 0 g dX12_layLong_92 rfl ?_
  refine r_iload (pc := 94) 5 g dX12_layLong_94 rfl ?_
  refine r_icmp_ge (pc := 96) 104 g dX12_layLong_96 rfl (fun q => ?_) (fun q => ?_)
  · have h := h.1 q
    refine r_iload (pc := 104) 5 g dX12_layLong_104 rfl ?_
    refine r_sub [1, 2, 3, 4, 6] (lv' := [(0, .ref (w.1 0)), (1, .int x1), (2, .int x2), (3, .int x3), (5, .int x5)]) rfl ?_
    exact v_X12_layLong_106 g hX post hR P7 hP7 P27 hP27 x1 x2 x3 x5 x4 μ h
  · have h := h.2 q
    refine r_iload (pc := 99) 0 g dX12_layLong_99 rfl ?_
    refine r_goto (pc := 101) 106 g dX12_layLong_101 rfl ?_
    refine r_sub [1, 2, 3, 4, 6] (lv' := [(0, .ref (w.1 0)), (1, .int x1), (2, .int x2), (3, .int x3), (5, .int x5)]) rfl ?_
    exact v_X12_layLong_106 g hX post hR P7 hP7 P27 hP27 x1 x2 x3 x5 s0 μ h
def T_X12_layLong_114 (post : Mem → Prop) (P7 : Int32 → Int32 → Int32 → Mem → Prop) (x1 : Int32) (x2 : Int32) (x3 : Int32) (x4 : Int32) (μ : Mem) : Prop :=
  vp_in x3 512 ∧ P7 x1 x2 (x3 + (-1)) (mset μ 16 x3.toNatClampNeg x4)
theorem v_X12_layLong_114 {X : Cx} {w : Wd} {l : Launch} {D : va_G} {A : Nat → Prop} (g : Gd X w RX12 cX12_layLong 8 rm_X12_layLong) (hX : atX X l D A) (post : Mem → Prop) (hR : Rt X w shM 22 none (pV post)) (P7 : Int32 → Int32 → Int32 → Mem → Prop) (hP7 : ∀ (x1 : Int32) (x2 : Int32) (x3 : Int32) (μ : Mem), P7 x1 x2 x3 μ → V X 7 [(0, .ref (w.1 0)), (1, .int x1), (2, .int x2), (3, .int x3)] [] (wls w shM 22 μ)) (x1 : Int32) (x2 : Int32) (x3 : Int32) (x4 : Int32) (μ : Mem) (h : T_X12_layLong_114 post P7 x1 x2 x3 x4 μ) : V X 114 [(0, .ref (w.1 0)), (1, .int x1), (2, .int x2), (3, .int x3), (4, .int x4)] [] (wls w shM 22 μ) := by
  refine r_aload_n (pc := 114) 0 g dX12_layLong_114 rfl ?_
  refine r_getr (pc := 115) (μ := μ) g dX12_layLong_115 fa_RX12_55 shM_out sM_0 rfl ?_
  refine r_iload_n (pc := 118) 3 g dX12_layLong_118 rfl ?_
  refine r_iload (pc := 119) 4 g dX12_layLong_119 rfl ?_
  obtain ⟨b1, h⟩ := h
  refine r_iastore (pc := 121) (μ := μ) g dX12_layLong_121 shM_out sM_16 b1 ?_
  refine r_iinc (pc := 122) (lv' := [(3, .int (x3 + (-1))), (0, .ref (w.1 0)), (1, .int x1), (2, .int x2), (4, .int x4)]) 3 g dX12_layLong_122 rfl ci_m1 rfl rfl ?_
  refine r_goto (pc := 125) 7 g dX12_layLong_125 rfl ?_
  refine r_sub [1, 2, 3, 0] (lv' := [(0, .ref (w.1 0)), (1, .int x1), (2, .int x2), (3, .int (x3 + (-1)))]) rfl ?_
  exact hP7 x1 x2 (x3 + (-1)) (mset μ 16 x3.toNatClampNeg x4) h
def B_X12_layLong_27 (post : Mem → Prop) (P7 : Int32 → Int32 → Int32 → Mem → Prop) (P27 : Int32 → Int32 → Int32 → Int32 → Int32 → Mem → Prop) (x1 : Int32) (x2 : Int32) (x3 : Int32) (x4 : Int32) (x5 : Int32) (μ : Mem) : Prop :=
  (((μ 0 5) ≤ x5 → T_X12_layLong_114 post P7 x1 x2 x3 x4 μ) ∧ (¬ (μ 0 5) ≤ x5 → ((x3 = x2 → T_X12_layLong_114 post P7 x1 x2 x3 x4 μ) ∧ (¬ x3 = x2 → T_X12_mayCome x2 x3 x5 μ (fun (u1 : Int32) (μ2 : Mem) => ((¬ u1 = 0 → T_X12_wideBy x2 x3 x5 μ2 (fun (u3 : Int32) (μ4 : Mem) => ((u3 ≤ x1 → vp_in (x3 ||| ((1 : Int32) <<< (x5 &&& 31))) 512 ∧ T_X12_layLong_90 post P7 P27 x1 x2 x3 x4 x5 (u3 + (μ4 16 (x3 ||| ((1 : Int32) <<< (x5 &&& 31))).toNatClampNeg)) μ4) ∧ (¬ u3 ≤ x1 → T_X12_layLong_90 post P7 P27 x1 x2 x3 x4 x5 1000000 μ4)))) ∧ (u1 = 0 → P27 x1 x2 x3 x4 (x5 + 1) μ2)))))))
def T_X12_layLong_27 (post : Mem → Prop) (P7 : Int32 → Int32 → Int32 → Mem → Prop) (x1 : Int32) (x2 : Int32) (x3 : Int32) (x4 : Int32) (x5 : Int32) (μ : Mem) : Prop :=
  ∀ P27 : Int32 → Int32 → Int32 → Int32 → Int32 → Mem → Prop, (∀ (x1 : Int32) (x2 : Int32) (x3 : Int32) (x4 : Int32) (x5 : Int32) (μ : Mem), B_X12_layLong_27 post P7 P27 x1 x2 x3 x4 x5 μ → P27 x1 x2 x3 x4 x5 μ) → P27 x1 x2 x3 x4 x5 μ
theorem bv_X12_layLong_27 {X : Cx} {w : Wd} {l : Launch} {D : va_G} {A : Nat → Prop} (g : Gd X w RX12 cX12_layLong 8 rm_X12_layLong) (hX : atX X l D A) (post : Mem → Prop) (hR : Rt X w shM 22 none (pV post)) (P7 : Int32 → Int32 → Int32 → Mem → Prop) (hP7 : ∀ (x1 : Int32) (x2 : Int32) (x3 : Int32) (μ : Mem), P7 x1 x2 x3 μ → V X 7 [(0, .ref (w.1 0)), (1, .int x1), (2, .int x2), (3, .int x3)] [] (wls w shM 22 μ)) (P27 : Int32 → Int32 → Int32 → Int32 → Int32 → Mem → Prop) (hP27 : ∀ (x1 : Int32) (x2 : Int32) (x3 : Int32) (x4 : Int32) (x5 : Int32) (μ : Mem), P27 x1 x2 x3 x4 x5 μ → V X 27 [(0, .ref (w.1 0)), (1, .int x1), (2, .int x2), (3, .int x3), (4, .int x4), (5, .int x5)] [] (wls w shM 22 μ)) (x1 : Int32) (x2 : Int32) (x3 : Int32) (x4 : Int32) (x5 : Int32) (μ : Mem) (h : B_X12_layLong_27 post P7 P27 x1 x2 x3 x4 x5 μ) : V X 27 [(0, .ref (w.1 0)), (1, .int x1), (2, .int x2), (3, .int x3), (4, .int x4), (5, .int x5)] [] (wls w shM 22 μ) := by
  refine r_iload (pc := 27) 5 g dX12_layLong_27 rfl ?_
  refine r_aload_n (pc := 29) 0 g dX12_layLong_29 rfl ?_
  refine r_geti (pc := 30) (μ := μ) g dX12_layLong_30 fa_RX12_83 shM_out sM_0 rfl ?_
  refine r_icmp_ge (pc := 33) 114 g dX12_layLong_33 rfl (fun q => ?_) (fun q => ?_)
  · have h := h.1 q
    refine r_sub [0, 1, 2, 3, 4] (lv' := [(0, .ref (w.1 0)), (1, .int x1), (2, .int x2), (3, .int x3), (4, .int x4)]) rfl ?_
    exact v_X12_layLong_114 g hX post hR P7 hP7 x1 x2 x3 x4 μ h
  · have h := h.2 q
    refine r_iload_n (pc := 36) 3 g dX12_layLong_36 rfl ?_
    refine r_iload_n (pc := 37) 2 g dX12_layLong_37 rfl ?_
    refine r_icmp_eq (pc := 38) 114 g dX12_layLong_38 rfl (fun q => ?_) (fun q => ?_)
    · have h := h.1 q
      refine r_sub [0, 1, 2, 3, 4] (lv' := [(0, .ref (w.1 0)), (1, .int x1), (2, .int x2), (3, .int x3), (4, .int x4)]) rfl ?_
      exact v_X12_layLong_114 g hX post hR P7 hP7 x1 x2 x3 x4 μ h
    · have h := h.2 q
      refine r_aload_n (pc := 41) 0 g dX12_layLong_41 rfl ?_
      refine r_iload_n (pc := 42) 2 g dX12_layLong_42 rfl ?_
      refine r_iload_n (pc := 43) 3 g dX12_layLong_43 rfl ?_
      refine r_iload (pc := 44) 5 g dX12_layLong_44 rfl ?_
      refine r_callVi (pc := 46) (st := []) g hX dX12_layLong_46 (m_X12_mayCome x2 x3 x5 μ _ h) kb_RX12_175 kv_X12_mayCome shM_out sM_0 rfl rfl rfl rfl (fun u1 μ2 h => ?_)
      refine r_if_ne (pc := 49) 55 g dX12_layLong_49 rfl (fun q => ?_) (fun q => ?_)
      · have h := h.1 q
        refine r_aload_n (pc := 55) 0 g dX12_layLong_55 rfl ?_
        refine r_iload_n (pc := 56) 2 g dX12_layLong_56 rfl ?_
        refine r_iload_n (pc := 57) 3 g dX12_layLong_57 rfl ?_
        refine r_iload (pc := 58) 5 g dX12_layLong_58 rfl ?_
        refine r_callVi (pc := 60) (st := []) g hX dX12_layLong_60 (m_X12_wideBy x2 x3 x5 μ2 _ h) kb_RX12_178 kv_X12_wideBy shM_out sM_0 rfl rfl rfl rfl (fun u3 μ4 h => ?_)
        refine r_istore (pc := 63) (lv' := [(6, .int u3), (0, .ref (w.1 0)), (1, .int x1), (2, .int x2), (3, .int x3), (4, .int x4), (5, .int x5)]) g dX12_layLong_63 rfl rfl ?_
        refine r_iload (pc := 65) 0 g dX12_layLong_65 rfl ?_
        refine r_iload_n (pc := 67) 2 g dX12_layLong_67 rfl ?_
        refine r_icmp_le (pc := 68) 76 g dX12_layLong_68 rfl (fun q => ?_) (fun q => ?_)
        · have h := h.1 q
          refine r_iload (pc := 76) 0 g dX12_layLong_76 rfl ?_
          refine r_aload_n (pc := 78) 1 g dX12_layLong_78 rfl ?_
          refine r_getr (pc := 79) (μ := μ4) g dX12_layLong_79 fa_RX12_55 shM_out sM_0 rfl ?_
          refine r_iload_n (pc := 82) 4 g dX12_layLong_82 rfl ?_
          refine r_iconst (pc := 83) g dX12_layLong_83 ci_1 ?_
          refine r_iload (pc := 84) 6 g dX12_layLong_84 rfl ?_
          refine r_ishl (pc := 86) g dX12_layLong_86 ?_
          refine r_ior (pc := 87) g dX12_layLong_87 ?_
          obtain ⟨b5, h⟩ := h
          refine r_iaload (pc := 88) (μ := μ4) g dX12_layLong_88 shM_out sM_16 b5 ?_
          refine r_iadd (pc := 89) g dX12_layLong_89 ?_
          refine r_sub [1, 2, 3, 4, 5, 6] (lv' := [(0, .ref (w.1 0)), (1, .int x1), (2, .int x2), (3, .int x3), (4, .int x4), (5, .int x5)]) rfl ?_
          exact v_X12_layLong_90 g hX post hR P7 hP7 P27 hP27 x1 x2 x3 x4 x5 (u3 + (μ4 16 (x3 ||| ((1 : Int32) <<< (x5 &&& 31))).toNatClampNeg)) μ4 h
        · have h := h.2 q
          refine r_ldc (pc := 71) g dX12_layLong_71 k_1221 ?_
          refine r_goto (pc := 73) 90 g dX12_layLong_73 rfl ?_
          refine r_sub [1, 2, 3, 4, 5, 6] (lv' := [(0, .ref (w.1 0)), (1, .int x1), (2, .int x2), (3, .int x3), (4, .int x4), (5, .int x5)]) rfl ?_
          exact v_X12_layLong_90 g hX post hR P7 hP7 P27 hP27 x1 x2 x3 x4 x5 1000000 μ4 h
      · have h := h.2 q
        refine r_goto (pc := 52) 108 g dX12_layLong_52 rfl ?_
        refine r_iinc (pc := 108) (lv' := [(5, .int (x5 + 1)), (0, .ref (w.1 0)), (1, .int x1), (2, .int x2), (3, .int x3), (4, .int x4)]) 5 g dX12_layLong_108 rfl ci_1 rfl rfl ?_
        refine r_goto (pc := 111) 27 g dX12_layLong_111 rfl ?_
        refine r_sub [1, 2, 3, 4, 5, 0] (lv' := [(0, .ref (w.1 0)), (1, .int x1), (2, .int x2), (3, .int x3), (4, .int x4), (5, .int (x5 + 1))]) rfl ?_
        exact hP27 x1 x2 x3 x4 (x5 + 1) μ2 h
theorem v_X12_layLong_27 {X : Cx} {w : Wd} {l : Launch} {D : va_G} {A : Nat → Prop} (g : Gd X w RX12 cX12_layLong 8 rm_X12_layLong) (hX : atX X l D A) (post : Mem → Prop) (hR : Rt X w shM 22 none (pV post)) (P7 : Int32 → Int32 → Int32 → Mem → Prop) (hP7 : ∀ (x1 : Int32) (x2 : Int32) (x3 : Int32) (μ : Mem), P7 x1 x2 x3 μ → V X 7 [(0, .ref (w.1 0)), (1, .int x1), (2, .int x2), (3, .int x3)] [] (wls w shM 22 μ)) (x1 : Int32) (x2 : Int32) (x3 : Int32) (x4 : Int32) (x5 : Int32) (μ : Mem) (h : T_X12_layLong_27 post P7 x1 x2 x3 x4 x5 μ) : V X 27 [(0, .ref (w.1 0)), (1, .int x1), (2, .int x2), (3, .int x3), (4, .int x4), (5, .int x5)] [] (wls w shM 22 μ) :=
  h (fun x1 x2 x3 x4 x5 μ => V X 27 [(0, .ref (w.1 0)), (1, .int x1), (2, .int x2), (3, .int x3), (4, .int x4), (5, .int x5)] [] (wls w shM 22 μ)) (fun x1 x2 x3 x4 x5 μ h => bv_X12_layLong_27 g hX post hR P7 hP7 (fun x1 x2 x3 x4 x5 μ => V X 27 [(0, .ref (w.1 0)), (1, .int x1), (2, .int x2), (3, .int x3), (4, .int x4), (5, .int x5)] [] (wls w shM 22 μ)) (fun _ _ _ _ _ _ h => h) x1 x2 x3 x4 x5 μ h)
def T_X12_layLong_22 (post : Mem → Prop) (P7 : Int32 → Int32 → Int32 → Mem → Prop) (x1 : Int32) (x2 : Int32) (x3 : Int32) (s0 : Int32) (μ : Mem) : Prop :=
  T_X12_layLong_27 post P7 x1 x2 x3 s0 0 μ
theorem v_X12_layLong_22 {X : Cx} {w : Wd} {l : Launch} {D : va_G} {A : Nat → Prop} (g : Gd X w RX12 cX12_layLong 8 rm_X12_layLong) (hX : atX X l D A) (post : Mem → Prop) (hR : Rt X w shM 22 none (pV post)) (P7 : Int32 → Int32 → Int32 → Mem → Prop) (hP7 : ∀ (x1 : Int32) (x2 : Int32) (x3 : Int32) (μ : Mem), P7 x1 x2 x3 μ → V X 7 [(0, .ref (w.1 0)), (1, .int x1), (2, .int x2), (3, .int x3)] [] (wls w shM 22 μ)) (x1 : Int32) (x2 : Int32) (x3 : Int32) (s0 : Int32) (μ : Mem) (h : T_X12_layLong_22 post P7 x1 x2 x3 s0 μ) : V X 22 [(0, .ref (w.1 0)), (1, .int x1), (2, .int x2), (3, .int x3)] [.int s0] (wls w shM 22 μ) := by
  refine r_istore (pc := 22) (lv' := [(4, .int s0), (0, .ref (w.1 0)), (1, .int x1), (2, .int x2), (3, .int x3)]) g dX12_layLong_22 rfl rfl ?_
  refine r_iconst (pc := 24) g dX12_layLong_24 ci_0 ?_
  refine r_istore (pc := 25) (lv' := [(5, .int 0), (4, .int s0), (0, .ref (w.1 0)), (1, .int x1), (2, .int x2), (3, .int x3)]) g dX12_layLong_25 rfl rfl ?_
  refine r_sub [2, 3, 4, 5, 1, 0] (lv' := [(0, .ref (w.1 0)), (1, .int x1), (2, .int x2), (3, .int x3), (4, .int s0), (5, .int 0)]) rfl ?_
  exact v_X12_layLong_27 g hX post hR P7 hP7 x1 x2 x3 s0 0 μ h
def B_X12_layLong_7 (post : Mem → Prop) (P7 : Int32 → Int32 → Int32 → Mem → Prop) (x1 : Int32) (x2 : Int32) (x3 : Int32) (μ : Mem) : Prop :=
  ((x3 < 0 → post μ) ∧ (¬ x3 < 0 → ((¬ x3 = x2 → T_X12_layLong_22 post P7 x1 x2 x3 1000000 μ) ∧ (x3 = x2 → T_X12_layLong_22 post P7 x1 x2 x3 0 μ))))
def T_X12_layLong_7 (post : Mem → Prop) (x1 : Int32) (x2 : Int32) (x3 : Int32) (μ : Mem) : Prop :=
  ∀ P7 : Int32 → Int32 → Int32 → Mem → Prop, (∀ (x1 : Int32) (x2 : Int32) (x3 : Int32) (μ : Mem), B_X12_layLong_7 post P7 x1 x2 x3 μ → P7 x1 x2 x3 μ) → P7 x1 x2 x3 μ
theorem bv_X12_layLong_7 {X : Cx} {w : Wd} {l : Launch} {D : va_G} {A : Nat → Prop} (g : Gd X w RX12 cX12_layLong 8 rm_X12_layLong) (hX : atX X l D A) (post : Mem → Prop) (hR : Rt X w shM 22 none (pV post)) (P7 : Int32 → Int32 → Int32 → Mem → Prop) (hP7 : ∀ (x1 : Int32) (x2 : Int32) (x3 : Int32) (μ : Mem), P7 x1 x2 x3 μ → V X 7 [(0, .ref (w.1 0)), (1, .int x1), (2, .int x2), (3, .int x3)] [] (wls w shM 22 μ)) (x1 : Int32) (x2 : Int32) (x3 : Int32) (μ : Mem) (h : B_X12_layLong_7 post P7 x1 x2 x3 μ) : V X 7 [(0, .ref (w.1 0)), (1, .int x1), (2, .int x2), (3, .int x3)] [] (wls w shM 22 μ) := by
  refine r_iload_n (pc := 7) 3 g dX12_layLong_7 rfl ?_
  refine r_if_lt (pc := 8) 128 g dX12_layLong_8 rfl (fun q => ?_) (fun q => ?_)
  · have h := h.1 q
    exact r_vretv (pc := 128) g hR dX12_layLong_128 h
  · have h := h.2 q
    refine r_iload_n (pc := 11) 3 g dX12_layLong_11 rfl ?_
    refine r_iload_n (pc := 12) 2 g dX12_layLong_12 rfl ?_
    refine r_icmp_ne (pc := 13) 20 g dX12_layLong_13 rfl (fun q => ?_) (fun q => ?_)
    · have h := h.1 q
      refine r_ldc (pc := 20) g dX12_layLong_20 k_1221 ?_
      refine r_sub [0, 1, 2, 3] (lv' := [(0, .ref (w.1 0)), (1, .int x1), (2, .int x2), (3, .int x3)]) rfl ?_
      exact v_X12_layLong_22 g hX post hR P7 hP7 x1 x2 x3 1000000 μ h
    · have h := h.2 q
      refine r_iconst (pc := 16) g dX12_layLong_16 ci_0 ?_
      refine r_goto (pc := 17) 22 g dX12_layLong_17 rfl ?_
      refine r_sub [0, 1, 2, 3] (lv' := [(0, .ref (w.1 0)), (1, .int x1), (2, .int x2), (3, .int x3)]) rfl ?_
      exact v_X12_layLong_22 g hX post hR P7 hP7 x1 x2 x3 0 μ h
theorem v_X12_layLong_7 {X : Cx} {w : Wd} {l : Launch} {D : va_G} {A : Nat → Prop} (g : Gd X w RX12 cX12_layLong 8 rm_X12_layLong) (hX : atX X l D A) (post : Mem → Prop) (hR : Rt X w shM 22 none (pV post)) (x1 : Int32) (x2 : Int32) (x3 : Int32) (μ : Mem) (h : T_X12_layLong_7 post x1 x2 x3 μ) : V X 7 [(0, .ref (w.1 0)), (1, .int x1), (2, .int x2), (3, .int x3)] [] (wls w shM 22 μ) :=
  h (fun x1 x2 x3 μ => V X 7 [(0, .ref (w.1 0)), (1, .int x1), (2, .int x2), (3, .int x3)] [] (wls w shM 22 μ)) (fun x1 x2 x3 μ h => bv_X12_layLong_7 g hX post hR (fun x1 x2 x3 μ => V X 7 [(0, .ref (w.1 0)), (1, .int x1), (2, .int x2), (3, .int x3)] [] (wls w shM 22 μ)) (fun _ _ _ _ h => h) x1 x2 x3 μ h)
def T_X12_layLong (x1 : Int32) (μ : Mem) (post : Mem → Prop) : Prop :=
  T_X12_all μ (fun (u1 : Int32) (μ2 : Mem) => T_X12_layLong_7 post x1 u1 u1 μ2)
theorem m_X12_layLong {w : Wd} {l : Launch} {D : va_G} {A : Nat → Prop} (x1 : Int32) (μ : Mem) (post : Mem → Prop) (h : T_X12_layLong x1 μ post) : MetX l D A w shM 22 yX12_layLong cX12_layLong 8 none rm_X12_layLong [.ref (w.1 0), .int x1] μ (pV post) := by
  refine metX_of (by decide) rfl (lv := [(0, .ref (w.1 0)), (1, .int x1)]) rfl (fun X hX g hR => ?_)
  refine r_aload_n (pc := 0) 0 g dX12_layLong_0 rfl ?_
  refine r_callVi (pc := 1) (st := []) g hX dX12_layLong_1 (m_X12_all μ _ h) kb_RX12_134 kv_X12_all shM_out sM_0 rfl rfl rfl rfl (fun u1 μ2 h => ?_)
  refine r_istore_n (pc := 4) (lv' := [(2, .int u1), (0, .ref (w.1 0)), (1, .int x1)]) g dX12_layLong_4 rfl rfl ?_
  refine r_iload_n (pc := 5) 0 g dX12_layLong_5 rfl ?_
  refine r_istore_n (pc := 6) (lv' := [(3, .int u1), (2, .int u1), (0, .ref (w.1 0)), (1, .int x1)]) g dX12_layLong_6 rfl rfl ?_
  refine r_sub [2, 3, 1, 0] (lv' := [(0, .ref (w.1 0)), (1, .int x1), (2, .int u1), (3, .int u1)]) rfl ?_
  exact v_X12_layLong_7 g hX post hR x1 u1 u1 μ2 h
abbrev rm_X12_nextFrom : Room := { frames := 2, cells := 0, slots := 0, locals := 44 }
def B_X12_nextFrom_2 (post : Int32 → Mem → Prop) (P2 : Int32 → Int32 → Int32 → Mem → Prop) (x1 : Int32) (x2 : Int32) (x3 : Int32) (μ : Mem) : Prop :=
  (((μ 0 5) ≤ x3 → post (-9) μ) ∧ (¬ (μ 0 5) ≤ x3 → T_X12_all μ (fun (u1 : Int32) (μ2 : Mem) => T_X12_mayCome u1 x1 x3 μ2 (fun (u3 : Int32) (μ4 : Mem) => ((u3 = 0 → P2 x1 x2 (x3 + 1) μ4) ∧ (¬ u3 = 0 → T_X12_all μ4 (fun (u5 : Int32) (μ6 : Mem) => T_X12_wideBy u5 x1 x3 μ6 (fun (u7 : Int32) (μ8 : Mem) => ((x2 < u7 → P2 x1 x2 (x3 + 1) μ8) ∧ (¬ x2 < u7 → vp_in (x1 ||| ((1 : Int32) <<< (x3 &&& 31))) 512 ∧ vp_in x1 512 ∧ ((¬ (u7 + (μ8 16 (x1 ||| ((1 : Int32) <<< (x3 &&& 31))).toNatClampNeg)) = (μ8 16 x1.toNatClampNeg) → P2 x1 x2 (x3 + 1) μ8) ∧ ((u7 + (μ8 16 (x1 ||| ((1 : Int32) <<< (x3 &&& 31))).toNatClampNeg)) = (μ8 16 x1.toNatClampNeg) → post x3 μ8))))))))))))
def T_X12_nextFrom_2 (post : Int32 → Mem → Prop) (x1 : Int32) (x2 : Int32) (x3 : Int32) (μ : Mem) : Prop :=
  ∀ P2 : Int32 → Int32 → Int32 → Mem → Prop, (∀ (x1 : Int32) (x2 : Int32) (x3 : Int32) (μ : Mem), B_X12_nextFrom_2 post P2 x1 x2 x3 μ → P2 x1 x2 x3 μ) → P2 x1 x2 x3 μ
theorem bv_X12_nextFrom_2 {X : Cx} {w : Wd} {l : Launch} {D : va_G} {A : Nat → Prop} (g : Gd X w RX12 cX12_nextFrom 5 rm_X12_nextFrom) (hX : atX X l D A) (post : Int32 → Mem → Prop) (hR : Rt X w shM 22 (some .int) (pI post)) (P2 : Int32 → Int32 → Int32 → Mem → Prop) (hP2 : ∀ (x1 : Int32) (x2 : Int32) (x3 : Int32) (μ : Mem), P2 x1 x2 x3 μ → V X 2 [(0, .ref (w.1 0)), (1, .int x1), (2, .int x2), (3, .int x3)] [] (wls w shM 22 μ)) (x1 : Int32) (x2 : Int32) (x3 : Int32) (μ : Mem) (h : B_X12_nextFrom_2 post P2 x1 x2 x3 μ) : V X 2 [(0, .ref (w.1 0)), (1, .int x1), (2, .int x2), (3, .int x3)] [] (wls w shM 22 μ) := by
  refine r_iload_n (pc := 2) 3 g dX12_nextFrom_2 rfl ?_
  refine r_aload_n (pc := 3) 0 g dX12_nextFrom_3 rfl ?_
  refine r_geti (pc := 4) (μ := μ) g dX12_nextFrom_4 fa_RX12_83 shM_out sM_0 rfl ?_
  refine r_icmp_ge (pc := 7) 71 g dX12_nextFrom_7 rfl (fun q => ?_) (fun q => ?_)
  · have h := h.1 q
    refine r_bipush (pc := 71) g dX12_nextFrom_71 cb_m9 ?_
    exact r_ireti (pc := 73) g hR dX12_nextFrom_73 h
  · have h := h.2 q
    refine r_aload_n (pc := 10) 0 g dX12_nextFrom_10 rfl ?_
    refine r_aload_n (pc := 11) 0 g dX12_nextFrom_11 rfl ?_
    refine r_callVi (pc := 12) (st := [.ref (w.1 0)]) g hX dX12_nextFrom_12 (m_X12_all μ _ h) kb_RX12_134 kv_X12_all shM_out sM_0 rfl rfl rfl rfl (fun u1 μ2 h => ?_)
    refine r_iload_n (pc := 15) 1 g dX12_nextFrom_15 rfl ?_
    refine r_iload_n (pc := 16) 3 g dX12_nextFrom_16 rfl ?_
    refine r_callVi (pc := 17) (st := []) g hX dX12_nextFrom_17 (m_X12_mayCome u1 x1 x3 μ2 _ h) kb_RX12_175 kv_X12_mayCome shM_out sM_0 rfl rfl rfl rfl (fun u3 μ4 h => ?_)
    refine r_if_eq (pc := 20) 65 g dX12_nextFrom_20 rfl (fun q => ?_) (fun q => ?_)
    · have h := h.1 q
      refine r_iinc (pc := 65) (lv' := [(3, .int (x3 + 1)), (0, .ref (w.1 0)), (1, .int x1), (2, .int x2)]) 3 g dX12_nextFrom_65 rfl ci_1 rfl rfl ?_
      refine r_goto (pc := 68) 2 g dX12_nextFrom_68 rfl ?_
      refine r_sub [1, 2, 3, 0] (lv' := [(0, .ref (w.1 0)), (1, .int x1), (2, .int x2), (3, .int (x3 + 1))]) rfl ?_
      exact hP2 x1 x2 (x3 + 1) μ4 h
    · have h := h.2 q
      refine r_aload_n (pc := 23) 0 g dX12_nextFrom_23 rfl ?_
      refine r_aload_n (pc := 24) 0 g dX12_nextFrom_24 rfl ?_
      refine r_callVi (pc := 25) (st := [.ref (w.1 0)]) g hX dX12_nextFrom_25 (m_X12_all μ4 _ h) kb_RX12_134 kv_X12_all shM_out sM_0 rfl rfl rfl rfl (fun u5 μ6 h => ?_)
      refine r_iload_n (pc := 28) 1 g dX12_nextFrom_28 rfl ?_
      refine r_iload_n (pc := 29) 3 g dX12_nextFrom_29 rfl ?_
      refine r_callVi (pc := 30) (st := []) g hX dX12_nextFrom_30 (m_X12_wideBy u5 x1 x3 μ6 _ h) kb_RX12_178 kv_X12_wideBy shM_out sM_0 rfl rfl rfl rfl (fun u7 μ8 h => ?_)
      refine r_istore (pc := 33) (lv' := [(4, .int u7), (0, .ref (w.1 0)), (1, .int x1), (2, .int x2), (3, .int x3)]) g dX12_nextFrom_33 rfl rfl ?_
      refine r_iload (pc := 35) 0 g dX12_nextFrom_35 rfl ?_
      refine r_iload_n (pc := 37) 3 g dX12_nextFrom_37 rfl ?_
      refine r_icmp_gt (pc := 38) 65 g dX12_nextFrom_38 rfl (fun q => ?_) (fun q => ?_)
      · have h := h.1 q
        refine r_iinc (pc := 65) (lv' := [(3, .int (x3 + 1)), (4, .int u7), (0, .ref (w.1 0)), (1, .int x1), (2, .int x2)]) 4 g dX12_nextFrom_65 rfl ci_1 rfl rfl ?_
        refine r_goto (pc := 68) 2 g dX12_nextFrom_68 rfl ?_
        refine r_sub [2, 3, 4, 0] (lv' := [(0, .ref (w.1 0)), (1, .int x1), (2, .int x2), (3, .int (x3 + 1))]) rfl ?_
        exact hP2 x1 x2 (x3 + 1) μ8 h
      · have h := h.2 q
        refine r_iload (pc := 41) 0 g dX12_nextFrom_41 rfl ?_
        refine r_aload_n (pc := 43) 1 g dX12_nextFrom_43 rfl ?_
        refine r_getr (pc := 44) (μ := μ8) g dX12_nextFrom_44 fa_RX12_55 shM_out sM_0 rfl ?_
        refine r_iload_n (pc := 47) 2 g dX12_nextFrom_47 rfl ?_
        refine r_iconst (pc := 48) g dX12_nextFrom_48 ci_1 ?_
        refine r_iload_n (pc := 49) 4 g dX12_nextFrom_49 rfl ?_
        refine r_ishl (pc := 50) g dX12_nextFrom_50 ?_
        refine r_ior (pc := 51) g dX12_nextFrom_51 ?_
        obtain ⟨b9, h⟩ := h
        refine r_iaload (pc := 52) (μ := μ8) g dX12_nextFrom_52 shM_out sM_16 b9 ?_
        refine r_iadd (pc := 53) g dX12_nextFrom_53 ?_
        refine r_aload_n (pc := 54) 1 g dX12_nextFrom_54 rfl ?_
        refine r_getr (pc := 55) (μ := μ8) g dX12_nextFrom_55 fa_RX12_55 shM_out sM_0 rfl ?_
        refine r_iload_n (pc := 58) 2 g dX12_nextFrom_58 rfl ?_
        obtain ⟨b10, h⟩ := h
        refine r_iaload (pc := 59) (μ := μ8) g dX12_nextFrom_59 shM_out sM_16 b10 ?_
        refine r_icmp_ne (pc := 60) 65 g dX12_nextFrom_60 rfl (fun q => ?_) (fun q => ?_)
        · have h := h.1 q
          refine r_iinc (pc := 65) (lv' := [(3, .int (x3 + 1)), (4, .int u7), (0, .ref (w.1 0)), (1, .int x1), (2, .int x2)]) 4 g dX12_nextFrom_65 rfl ci_1 rfl rfl ?_
          refine r_goto (pc := 68) 2 g dX12_nextFrom_68 rfl ?_
          refine r_sub [2, 3, 4, 0] (lv' := [(0, .ref (w.1 0)), (1, .int x1), (2, .int x2), (3, .int (x3 + 1))]) rfl ?_
          exact hP2 x1 x2 (x3 + 1) μ8 h
        · have h := h.2 q
          refine r_iload_n (pc := 63) 4 g dX12_nextFrom_63 rfl ?_
          exact r_ireti (pc := 64) g hR dX12_nextFrom_64 h
theorem v_X12_nextFrom_2 {X : Cx} {w : Wd} {l : Launch} {D : va_G} {A : Nat → Prop} (g : Gd X w RX12 cX12_nextFrom 5 rm_X12_nextFrom) (hX : atX X l D A) (post : Int32 → Mem → Prop) (hR : Rt X w shM 22 (some .int) (pI post)) (x1 : Int32) (x2 : Int32) (x3 : Int32) (μ : Mem) (h : T_X12_nextFrom_2 post x1 x2 x3 μ) : V X 2 [(0, .ref (w.1 0)), (1, .int x1), (2, .int x2), (3, .int x3)] [] (wls w shM 22 μ) :=
  h (fun x1 x2 x3 μ => V X 2 [(0, .ref (w.1 0)), (1, .int x1), (2, .int x2), (3, .int x3)] [] (wls w shM 22 μ)) (fun x1 x2 x3 μ h => bv_X12_nextFrom_2 g hX post hR (fun x1 x2 x3 μ => V X 2 [(0, .ref (w.1 0)), (1, .int x1), (2, .int x2), (3, .int x3)] [] (wls w shM 22 μ)) (fun _ _ _ _ h => h) x1 x2 x3 μ h)
def T_X12_nextFrom (x1 : Int32) (x2 : Int32) (μ : Mem) (post : Int32 → Mem → Prop) : Prop :=
  T_X12_nextFrom_2 post x1 x2 0 μ
theorem m_X12_nextFrom {w : Wd} {l : Launch} {D : va_G} {A : Nat → Prop} (x1 : Int32) (x2 : Int32) (μ : Mem) (post : Int32 → Mem → Prop) (h : T_X12_nextFrom x1 x2 μ post) : MetX l D A w shM 22 yX12_nextFrom cX12_nextFrom 5 (some .int) rm_X12_nextFrom [.ref (w.1 0), .int x1, .int x2] μ (pI post) := by
  refine metX_of (by decide) rfl (lv := [(0, .ref (w.1 0)), (1, .int x1), (2, .int x2)]) rfl (fun X hX g hR => ?_)
  refine r_iconst (pc := 0) g dX12_nextFrom_0 ci_0 ?_
  refine r_istore_n (pc := 1) (lv' := [(3, .int 0), (0, .ref (w.1 0)), (1, .int x1), (2, .int x2)]) g dX12_nextFrom_1 rfl rfl ?_
  refine r_sub [1, 2, 3, 0] (lv' := [(0, .ref (w.1 0)), (1, .int x1), (2, .int x2), (3, .int 0)]) rfl ?_
  exact v_X12_nextFrom_2 g hX post hR x1 x2 0 μ h
abbrev rm_X12_leastBy : Room := { frames := 3, cells := 0, slots := 0, locals := 71 }
def T_X12_leastBy (x1 : Int32) (μ : Mem) (post : Int32 → Mem → Prop) : Prop :=
  T_X12_layMost x1 μ (fun (μ2 : Mem) => vp_in 0 512 ∧ post (μ2 15 (0 : Int32).toNatClampNeg) μ2)
theorem m_X12_leastBy {w : Wd} {l : Launch} {D : va_G} {A : Nat → Prop} (x1 : Int32) (μ : Mem) (post : Int32 → Mem → Prop) (h : T_X12_leastBy x1 μ post) : MetX l D A w shM 22 yX12_leastBy cX12_leastBy 2 (some .int) rm_X12_leastBy [.ref (w.1 0), .int x1] μ (pI post) := by
  refine metX_of (by decide) rfl (lv := [(0, .ref (w.1 0)), (1, .int x1)]) rfl (fun X hX g hR => ?_)
  refine r_aload_n (pc := 0) 0 g dX12_leastBy_0 rfl ?_
  refine r_iload_n (pc := 1) 1 g dX12_leastBy_1 rfl ?_
  refine r_callVv (pc := 2) (st := []) g hX dX12_leastBy_2 (m_X12_layMost x1 μ _ h) kb_RX12_182 kv_X12_layMost shM_out sM_0 rfl rfl rfl rfl (fun μ2 h => ?_)
  refine r_aload_n (pc := 5) 0 g dX12_leastBy_5 rfl ?_
  refine r_getr (pc := 6) (μ := μ2) g dX12_leastBy_6 fa_RX12_52 shM_out sM_0 rfl ?_
  refine r_iconst (pc := 9) g dX12_leastBy_9 ci_0 ?_
  obtain ⟨b3, h⟩ := h
  refine r_iaload (pc := 10) (μ := μ2) g dX12_leastBy_10 shM_out sM_15 b3 ?_
  exact r_ireti (pc := 11) g hR dX12_leastBy_11 h
abbrev rm_X12_leastOf : Room := { frames := 4, cells := 0, slots := 0, locals := 92 }
def T_X12_leastOf (x1 : Int32) (μ : Mem) (post : Int32 → Mem → Prop) : Prop :=
  T_X12_layUnions μ (fun (μ2 : Mem) => T_X12_leastBy x1 μ2 (fun (u3 : Int32) (μ4 : Mem) => post u3 μ4))
theorem m_X12_leastOf {w : Wd} {l : Launch} {D : va_G} {A : Nat → Prop} (x1 : Int32) (μ : Mem) (post : Int32 → Mem → Prop) (h : T_X12_leastOf x1 μ post) : MetX l D A w shM 22 yX12_leastOf cX12_leastOf 2 (some .int) rm_X12_leastOf [.ref (w.1 0), .int x1] μ (pI post) := by
  refine metX_of (by decide) rfl (lv := [(0, .ref (w.1 0)), (1, .int x1)]) rfl (fun X hX g hR => ?_)
  refine r_aload_n (pc := 0) 0 g dX12_leastOf_0 rfl ?_
  refine r_callVv (pc := 1) (st := []) g hX dX12_leastOf_1 (m_X12_layUnions μ _ h) kb_RX12_185 kv_X12_layUnions shM_out sM_0 rfl rfl rfl rfl (fun μ2 h => ?_)
  refine r_aload_n (pc := 4) 0 g dX12_leastOf_4 rfl ?_
  refine r_iload_n (pc := 5) 1 g dX12_leastOf_5 rfl ?_
  refine r_callVi (pc := 6) (st := []) g hX dX12_leastOf_6 (m_X12_leastBy x1 μ2 _ h) kb_RX12_188 kv_X12_leastBy shM_out sM_0 rfl rfl rfl rfl (fun u3 μ4 h => ?_)
  exact r_ireti (pc := 9) g hR dX12_leastOf_9 h
abbrev rm_X12_best : Room := { frames := 5, cells := 0, slots := 0, locals := 113 }
def B_X12_best_83 (post : Int32 → Mem → Prop) (P83 : Int32 → Int32 → Int32 → Int32 → Int32 → Mem → Prop) (x1 : Int32) (x2 : Int32) (x3 : Int32) (x4 : Int32) (x5 : Int32) (μ : Mem) : Prop :=
  (((x1 - 10) ≤ x5 → post x4 μ) ∧ (¬ (x1 - 10) ≤ x5 → T_X12_nextFrom (x3 ||| ((1 : Int32) <<< (x4 &&& 31))) x2 μ (fun (u1 : Int32) (μ2 : Mem) => P83 x1 x2 (x3 ||| ((1 : Int32) <<< (x4 &&& 31))) u1 (x5 + 1) μ2)))
def T_X12_best_83 (post : Int32 → Mem → Prop) (x1 : Int32) (x2 : Int32) (x3 : Int32) (x4 : Int32) (x5 : Int32) (μ : Mem) : Prop :=
  ∀ P83 : Int32 → Int32 → Int32 → Int32 → Int32 → Mem → Prop, (∀ (x1 : Int32) (x2 : Int32) (x3 : Int32) (x4 : Int32) (x5 : Int32) (μ : Mem), B_X12_best_83 post P83 x1 x2 x3 x4 x5 μ → P83 x1 x2 x3 x4 x5 μ) → P83 x1 x2 x3 x4 x5 μ
theorem bv_X12_best_83 {X : Cx} {w : Wd} {l : Launch} {D : va_G} {A : Nat → Prop} (g : Gd X w RX12 cX12_best 6 rm_X12_best) (hX : atX X l D A) (post : Int32 → Mem → Prop) (hR : Rt X w shM 22 (some .int) (pI post)) (P83 : Int32 → Int32 → Int32 → Int32 → Int32 → Mem → Prop) (hP83 : ∀ (x1 : Int32) (x2 : Int32) (x3 : Int32) (x4 : Int32) (x5 : Int32) (μ : Mem), P83 x1 x2 x3 x4 x5 μ → V X 83 [(0, .ref (w.1 0)), (1, .int x1), (2, .int x2), (3, .int x3), (4, .int x4), (5, .int x5)] [] (wls w shM 22 μ)) (x1 : Int32) (x2 : Int32) (x3 : Int32) (x4 : Int32) (x5 : Int32) (μ : Mem) (h : B_X12_best_83 post P83 x1 x2 x3 x4 x5 μ) : V X 83 [(0, .ref (w.1 0)), (1, .int x1), (2, .int x2), (3, .int x3), (4, .int x4), (5, .int x5)] [] (wls w shM 22 μ) := by
  refine r_iload (pc := 83) 5 g dX12_best_83 rfl ?_
  refine r_iload_n (pc := 85) 1 g dX12_best_85 rfl ?_
  refine r_bipush (pc := 86) g dX12_best_86 cb_10 ?_
  refine r_isub (pc := 88) g dX12_best_88 ?_
  refine r_icmp_ge (pc := 89) 113 g dX12_best_89 rfl (fun q => ?_) (fun q => ?_)
  · have h := h.1 q
    refine r_iload (pc := 113) 4 g dX12_best_113 rfl ?_
    exact r_ireti (pc := 115) g hR dX12_best_115 h
  · have h := h.2 q
    refine r_iload_n (pc := 92) 3 g dX12_best_92 rfl ?_
    refine r_iconst (pc := 93) g dX12_best_93 ci_1 ?_
    refine r_iload (pc := 94) 4 g dX12_best_94 rfl ?_
    refine r_ishl (pc := 96) g dX12_best_96 ?_
    refine r_ior (pc := 97) g dX12_best_97 ?_
    refine r_istore_n (pc := 98) (lv' := [(3, .int (x3 ||| ((1 : Int32) <<< (x4 &&& 31)))), (0, .ref (w.1 0)), (1, .int x1), (2, .int x2), (4, .int x4), (5, .int x5)]) g dX12_best_98 rfl rfl ?_
    refine r_aload_n (pc := 99) 1 g dX12_best_99 rfl ?_
    refine r_iload_n (pc := 100) 0 g dX12_best_100 rfl ?_
    refine r_iload_n (pc := 101) 3 g dX12_best_101 rfl ?_
    refine r_callVi (pc := 102) (st := []) g hX dX12_best_102 (m_X12_nextFrom (x3 ||| ((1 : Int32) <<< (x4 &&& 31))) x2 μ _ h) kb_RX12_197 kv_X12_nextFrom shM_out sM_0 rfl rfl rfl rfl (fun u1 μ2 h => ?_)
    refine r_istore (pc := 105) (lv' := [(4, .int u1), (3, .int (x3 ||| ((1 : Int32) <<< (x4 &&& 31)))), (0, .ref (w.1 0)), (1, .int x1), (2, .int x2), (5, .int x5)]) g dX12_best_105 rfl rfl ?_
    refine r_iinc (pc := 107) (lv' := [(5, .int (x5 + 1)), (4, .int u1), (3, .int (x3 ||| ((1 : Int32) <<< (x4 &&& 31)))), (0, .ref (w.1 0)), (1, .int x1), (2, .int x2)]) 5 g dX12_best_107 rfl ci_1 rfl rfl ?_
    refine r_goto (pc := 110) 83 g dX12_best_110 rfl ?_
    refine r_sub [3, 4, 5, 2, 1, 0] (lv' := [(0, .ref (w.1 0)), (1, .int x1), (2, .int x2), (3, .int (x3 ||| ((1 : Int32) <<< (x4 &&& 31)))), (4, .int u1), (5, .int (x5 + 1))]) rfl ?_
    exact hP83 x1 x2 (x3 ||| ((1 : Int32) <<< (x4 &&& 31))) u1 (x5 + 1) μ2 h
theorem v_X12_best_83 {X : Cx} {w : Wd} {l : Launch} {D : va_G} {A : Nat → Prop} (g : Gd X w RX12 cX12_best 6 rm_X12_best) (hX : atX X l D A) (post : Int32 → Mem → Prop) (hR : Rt X w shM 22 (some .int) (pI post)) (x1 : Int32) (x2 : Int32) (x3 : Int32) (x4 : Int32) (x5 : Int32) (μ : Mem) (h : T_X12_best_83 post x1 x2 x3 x4 x5 μ) : V X 83 [(0, .ref (w.1 0)), (1, .int x1), (2, .int x2), (3, .int x3), (4, .int x4), (5, .int x5)] [] (wls w shM 22 μ) :=
  h (fun x1 x2 x3 x4 x5 μ => V X 83 [(0, .ref (w.1 0)), (1, .int x1), (2, .int x2), (3, .int x3), (4, .int x4), (5, .int x5)] [] (wls w shM 22 μ)) (fun x1 x2 x3 x4 x5 μ h => bv_X12_best_83 g hX post hR (fun x1 x2 x3 x4 x5 μ => V X 83 [(0, .ref (w.1 0)), (1, .int x1), (2, .int x2), (3, .int x3), (4, .int x4), (5, .int x5)] [] (wls w shM 22 μ)) (fun _ _ _ _ _ _ h => h) x1 x2 x3 x4 x5 μ h)
def T_X12_best_38 (post : Int32 → Mem → Prop) (x1 : Int32) (μ : Mem) : Prop :=
  T_X12_all μ (fun (u1 : Int32) (μ2 : Mem) => T_X12_leastOf u1 μ2 (fun (u3 : Int32) (μ4 : Mem) => ((¬ x1 = 0 → T_X12_layLong u3 μ4 (fun (μ6 : Mem) => ((¬ x1 = 1 → T_X12_nextFrom 0 u3 μ6 (fun (u7 : Int32) (μ8 : Mem) => T_X12_best_83 post x1 u3 0 u7 0 μ8)) ∧ (x1 = 1 → vp_in 0 512 ∧ post (μ6 16 (0 : Int32).toNatClampNeg) μ6)))) ∧ (x1 = 0 → post u3 μ4))))
theorem v_X12_best_38 {X : Cx} {w : Wd} {l : Launch} {D : va_G} {A : Nat → Prop} (g : Gd X w RX12 cX12_best 6 rm_X12_best) (hX : atX X l D A) (post : Int32 → Mem → Prop) (hR : Rt X w shM 22 (some .int) (pI post)) (x1 : Int32) (μ : Mem) (h : T_X12_best_38 post x1 μ) : V X 38 [(0, .ref (w.1 0)), (1, .int x1)] [] (wls w shM 22 μ) := by
  refine r_aload_n (pc := 38) 0 g dX12_best_38 rfl ?_
  refine r_aload_n (pc := 39) 0 g dX12_best_39 rfl ?_
  refine r_callVi (pc := 40) (st := [.ref (w.1 0)]) g hX dX12_best_40 (m_X12_all μ _ h) kb_RX12_134 kv_X12_all shM_out sM_0 rfl rfl rfl rfl (fun u1 μ2 h => ?_)
  refine r_callVi (pc := 43) (st := []) g hX dX12_best_43 (m_X12_leastOf u1 μ2 _ h) kb_RX12_191 kv_X12_leastOf shM_out sM_0 rfl rfl rfl rfl (fun u3 μ4 h => ?_)
  refine r_istore_n (pc := 46) (lv' := [(2, .int u3), (0, .ref (w.1 0)), (1, .int x1)]) g dX12_best_46 rfl rfl ?_
  refine r_iload_n (pc := 47) 2 g dX12_best_47 rfl ?_
  refine r_if_ne (pc := 48) 53 g dX12_best_48 rfl (fun q => ?_) (fun q => ?_)
  · have h := h.1 q
    refine r_aload_n (pc := 53) 1 g dX12_best_53 rfl ?_
    refine r_iload_n (pc := 54) 0 g dX12_best_54 rfl ?_
    refine r_callVv (pc := 55) (st := []) g hX dX12_best_55 (m_X12_layLong u3 μ4 _ h) kb_RX12_194 kv_X12_layLong shM_out sM_0 rfl rfl rfl rfl (fun μ6 h => ?_)
    refine r_iload_n (pc := 58) 2 g dX12_best_58 rfl ?_
    refine r_iconst (pc := 59) g dX12_best_59 ci_1 ?_
    refine r_icmp_ne (pc := 60) 70 g dX12_best_60 rfl (fun q => ?_) (fun q => ?_)
    · have h := h.1 q
      refine r_iconst (pc := 70) g dX12_best_70 ci_0 ?_
      refine r_istore_n (pc := 71) (lv' := [(3, .int 0), (2, .int u3), (0, .ref (w.1 0)), (1, .int x1)]) g dX12_best_71 rfl rfl ?_
      refine r_aload_n (pc := 72) 2 g dX12_best_72 rfl ?_
      refine r_iconst (pc := 73) g dX12_best_73 ci_0 ?_
      refine r_iload_n (pc := 74) 1 g dX12_best_74 rfl ?_
      refine r_callVi (pc := 75) (st := []) g hX dX12_best_75 (m_X12_nextFrom 0 u3 μ6 _ h) kb_RX12_197 kv_X12_nextFrom shM_out sM_0 rfl rfl rfl rfl (fun u7 μ8 h => ?_)
      refine r_istore (pc := 78) (lv' := [(4, .int u7), (3, .int 0), (2, .int u3), (0, .ref (w.1 0)), (1, .int x1)]) g dX12_best_78 rfl rfl ?_
      refine r_iconst (pc := 80) g dX12_best_80 ci_0 ?_
      refine r_istore (pc := 81) (lv' := [(5, .int 0), (4, .int u7), (3, .int 0), (2, .int u3), (0, .ref (w.1 0)), (1, .int x1)]) g dX12_best_81 rfl rfl ?_
      refine r_sub [4, 5, 3, 2, 1, 0] (lv' := [(0, .ref (w.1 0)), (1, .int x1), (2, .int u3), (3, .int 0), (4, .int u7), (5, .int 0)]) rfl ?_
      exact v_X12_best_83 g hX post hR x1 u3 0 u7 0 μ8 h
    · have h := h.2 q
      refine r_aload_n (pc := 63) 1 g dX12_best_63 rfl ?_
      refine r_getr (pc := 64) (μ := μ6) g dX12_best_64 fa_RX12_55 shM_out sM_0 rfl ?_
      refine r_iconst (pc := 67) g dX12_best_67 ci_0 ?_
      obtain ⟨b9, h⟩ := h
      refine r_iaload (pc := 68) (μ := μ6) g dX12_best_68 shM_out sM_16 b9 ?_
      exact r_ireti (pc := 69) g hR dX12_best_69 h
  · have h := h.2 q
    refine r_iload_n (pc := 51) 0 g dX12_best_51 rfl ?_
    exact r_ireti (pc := 52) g hR dX12_best_52 h
def T_X12_best (x1 : Int32) (μ : Mem) (post : Int32 → Mem → Prop) : Prop :=
  ((¬ (μ 0 5) = 0 → ((x1 = 0 → T_X12_best_38 post x1 μ) ∧ (¬ x1 = 0 → ((x1 = 1 → T_X12_best_38 post x1 μ) ∧ (¬ x1 = 1 → T_X12_isIn x1 10 (9 + (μ 0 5)) μ (fun (u1 : Int32) (μ2 : Mem) => ((¬ u1 = 0 → T_X12_best_38 post x1 μ2) ∧ (u1 = 0 → post (-2) μ2)))))))) ∧ ((μ 0 5) = 0 → post (-3) μ))
theorem m_X12_best {w : Wd} {l : Launch} {D : va_G} {A : Nat → Prop} (x1 : Int32) (μ : Mem) (post : Int32 → Mem → Prop) (h : T_X12_best x1 μ post) : MetX l D A w shM 22 yX12_best cX12_best 6 (some .int) rm_X12_best [.ref (w.1 0), .int x1] μ (pI post) := by
  refine metX_of (by decide) rfl (lv := [(0, .ref (w.1 0)), (1, .int x1)]) rfl (fun X hX g hR => ?_)
  refine r_aload_n (pc := 0) 0 g dX12_best_0 rfl ?_
  refine r_geti (pc := 1) (μ := μ) g dX12_best_1 fa_RX12_83 shM_out sM_0 rfl ?_
  refine r_if_ne (pc := 4) 10 g dX12_best_4 rfl (fun q => ?_) (fun q => ?_)
  · have h := h.1 q
    refine r_iload_n (pc := 10) 1 g dX12_best_10 rfl ?_
    refine r_if_eq (pc := 11) 38 g dX12_best_11 rfl (fun q => ?_) (fun q => ?_)
    · have h := h.1 q
      refine r_sub [0, 1] (lv' := [(0, .ref (w.1 0)), (1, .int x1)]) rfl ?_
      exact v_X12_best_38 g hX post hR x1 μ h
    · have h := h.2 q
      refine r_iload_n (pc := 14) 1 g dX12_best_14 rfl ?_
      refine r_iconst (pc := 15) g dX12_best_15 ci_1 ?_
      refine r_icmp_eq (pc := 16) 38 g dX12_best_16 rfl (fun q => ?_) (fun q => ?_)
      · have h := h.1 q
        refine r_sub [0, 1] (lv' := [(0, .ref (w.1 0)), (1, .int x1)]) rfl ?_
        exact v_X12_best_38 g hX post hR x1 μ h
      · have h := h.2 q
        refine r_iload_n (pc := 19) 1 g dX12_best_19 rfl ?_
        refine r_bipush (pc := 20) g dX12_best_20 cb_10 ?_
        refine r_bipush (pc := 22) g dX12_best_22 cb_9 ?_
        refine r_aload_n (pc := 24) 0 g dX12_best_24 rfl ?_
        refine r_geti (pc := 25) (μ := μ) g dX12_best_25 fa_RX12_83 shM_out sM_0 rfl ?_
        refine r_iadd (pc := 28) g dX12_best_28 ?_
        refine r_callSi (pc := 29) (st := []) g hX dX12_best_29 (m_X12_isIn x1 10 (9 + (μ 0 5)) μ _ h) kb_RX12_79 k_1097 rfl rfl rfl rfl (fun u1 μ2 h => ?_)
        refine r_if_ne (pc := 32) 38 g dX12_best_32 rfl (fun q => ?_) (fun q => ?_)
        · have h := h.1 q
          refine r_sub [0, 1] (lv' := [(0, .ref (w.1 0)), (1, .int x1)]) rfl ?_
          exact v_X12_best_38 g hX post hR x1 μ2 h
        · have h := h.2 q
          refine r_bipush (pc := 35) g dX12_best_35 cb_m2 ?_
          exact r_ireti (pc := 37) g hR dX12_best_37 h
  · have h := h.2 q
    refine r_bipush (pc := 7) g dX12_best_7 cb_m3 ?_
    exact r_ireti (pc := 9) g hR dX12_best_9 h
abbrev rm_X12_from : Room := { frames := 5, cells := 0, slots := 0, locals := 113 }
def T_X12_from_31 (post : Int32 → Mem → Prop) (μ : Mem) : Prop :=
  post (-2) μ
theorem v_X12_from_31 {X : Cx} {w : Wd} {l : Launch} {D : va_G} {A : Nat → Prop} (g : Gd X w RX12 cX12_from 6 rm_X12_from) (hX : atX X l D A) (post : Int32 → Mem → Prop) (hR : Rt X w shM 22 (some .int) (pI post)) (μ : Mem) (h : T_X12_from_31 post μ) : V X 31 [] [] (wls w shM 22 μ) := by
  refine r_bipush (pc := 31) g dX12_from_31 cb_m2 ?_
  exact r_ireti (pc := 33) g hR dX12_from_33 h
def B_X12_from_74 (post : Int32 → Mem → Prop) (P74 : Int32 → Int32 → Int32 → Int32 → Mem → Prop) (x2 : Int32) (x3 : Int32) (x4 : Int32) (x5 : Int32) (μ : Mem) : Prop :=
  ((x2 ≤ x5 → T_X12_all μ (fun (u1 : Int32) (μ2 : Mem) => T_X12_leastOf u1 μ2 (fun (u3 : Int32) (μ4 : Mem) => vp_in x4 512 ∧ T_X12_layLong (μ4 15 x4.toNatClampNeg) μ4 (fun (μ7 : Mem) => ((¬ x3 = 0 → ((¬ x3 = 1 → T_X12_nextFrom x4 (μ4 15 x4.toNatClampNeg) μ7 (fun (u8 : Int32) (μ9 : Mem) => post u8 μ9)) ∧ (x3 = 1 → vp_in x4 512 ∧ post (μ7 16 x4.toNatClampNeg) μ7))) ∧ (x3 = 0 → post (μ4 15 x4.toNatClampNeg) μ7)))))) ∧ (¬ x2 ≤ x5 → vp_in x5 9 ∧ vp_in (μ 13 x5.toNatClampNeg) 9 ∧ ((((μ 5 (μ 13 x5.toNatClampNeg).toNatClampNeg) &&& (x4 ^^^ (-1))) = 0 → P74 x2 x3 x4 (x5 + 1) μ) ∧ (¬ ((μ 5 (μ 13 x5.toNatClampNeg).toNatClampNeg) &&& (x4 ^^^ (-1))) = 0 → post (-3) μ))))
def T_X12_from_74 (post : Int32 → Mem → Prop) (x2 : Int32) (x3 : Int32) (x4 : Int32) (x5 : Int32) (μ : Mem) : Prop :=
  ∀ P74 : Int32 → Int32 → Int32 → Int32 → Mem → Prop, (∀ (x2 : Int32) (x3 : Int32) (x4 : Int32) (x5 : Int32) (μ : Mem), B_X12_from_74 post P74 x2 x3 x4 x5 μ → P74 x2 x3 x4 x5 μ) → P74 x2 x3 x4 x5 μ
theorem bv_X12_from_74 {X : Cx} {w : Wd} {l : Launch} {D : va_G} {A : Nat → Prop} (g : Gd X w RX12 cX12_from 6 rm_X12_from) (hX : atX X l D A) (post : Int32 → Mem → Prop) (hR : Rt X w shM 22 (some .int) (pI post)) (P74 : Int32 → Int32 → Int32 → Int32 → Mem → Prop) (hP74 : ∀ (x2 : Int32) (x3 : Int32) (x4 : Int32) (x5 : Int32) (μ : Mem), P74 x2 x3 x4 x5 μ → V X 74 [(0, .ref (w.1 0)), (2, .int x2), (3, .int x3), (4, .int x4), (5, .int x5)] [] (wls w shM 22 μ)) (x2 : Int32) (x3 : Int32) (x4 : Int32) (x5 : Int32) (μ : Mem) (h : B_X12_from_74 post P74 x2 x3 x4 x5 μ) : V X 74 [(0, .ref (w.1 0)), (2, .int x2), (3, .int x3), (4, .int x4), (5, .int x5)] [] (wls w shM 22 μ) := by
  refine r_iload (pc := 74) 4 g dX12_from_74 rfl ?_
  refine r_iload_n (pc := 76) 1 g dX12_from_76 rfl ?_
  refine r_icmp_ge (pc := 77) 109 g dX12_from_77 rfl (fun q => ?_) (fun q => ?_)
  · have h := h.1 q
    refine r_aload_n (pc := 109) 0 g dX12_from_109 rfl ?_
    refine r_aload_n (pc := 110) 0 g dX12_from_110 rfl ?_
    refine r_callVi (pc := 111) (st := [.ref (w.1 0)]) g hX dX12_from_111 (m_X12_all μ _ h) kb_RX12_134 kv_X12_all shM_out sM_0 rfl rfl rfl rfl (fun u1 μ2 h => ?_)
    refine r_callVi (pc := 114) (st := []) g hX dX12_from_114 (m_X12_leastOf u1 μ2 _ h) kb_RX12_191 kv_X12_leastOf shM_out sM_0 rfl rfl rfl rfl (fun u3 μ4 h => ?_)
    refine r_pop (pc := 117) g dX12_from_117 rfl ?_
    refine r_aload_n (pc := 118) 0 g dX12_from_118 rfl ?_
    refine r_getr (pc := 119) (μ := μ4) g dX12_from_119 fa_RX12_52 shM_out sM_0 rfl ?_
    refine r_iload (pc := 122) 3 g dX12_from_122 rfl ?_
    obtain ⟨b5, h⟩ := h
    refine r_iaload (pc := 124) (μ := μ4) g dX12_from_124 shM_out sM_15 b5 ?_
    refine r_istore (pc := 125) (lv' := [(5, .int (μ4 15 x4.toNatClampNeg)), (0, .ref (w.1 0)), (2, .int x2), (3, .int x3), (4, .int x4)]) g dX12_from_125 rfl rfl ?_
    refine r_aload_n (pc := 127) 1 g dX12_from_127 rfl ?_
    refine r_iload (pc := 128) 0 g dX12_from_128 rfl ?_
    refine r_callVv (pc := 130) (st := []) g hX dX12_from_130 (m_X12_layLong (μ4 15 x4.toNatClampNeg) μ4 _ h) kb_RX12_194 kv_X12_layLong shM_out sM_0 rfl rfl rfl rfl (fun μ7 h => ?_)
    refine r_iload_n (pc := 133) 3 g dX12_from_133 rfl ?_
    refine r_if_ne (pc := 134) 142 g dX12_from_134 rfl (fun q => ?_) (fun q => ?_)
    · have h := h.1 q
      refine r_iload_n (pc := 142) 3 g dX12_from_142 rfl ?_
      refine r_iconst (pc := 143) g dX12_from_143 ci_1 ?_
      refine r_icmp_ne (pc := 144) 157 g dX12_from_144 rfl (fun q => ?_) (fun q => ?_)
      · have h := h.1 q
        refine r_aload_n (pc := 157) 1 g dX12_from_157 rfl ?_
        refine r_iload (pc := 158) 4 g dX12_from_158 rfl ?_
        refine r_iload (pc := 160) 0 g dX12_from_160 rfl ?_
        refine r_callVi (pc := 162) (st := []) g hX dX12_from_162 (m_X12_nextFrom x4 (μ4 15 x4.toNatClampNeg) μ7 _ h) kb_RX12_197 kv_X12_nextFrom shM_out sM_0 rfl rfl rfl rfl (fun u8 μ9 h => ?_)
        exact r_ireti (pc := 165) g hR dX12_from_165 h
      · have h := h.2 q
        refine r_aload_n (pc := 147) 1 g dX12_from_147 rfl ?_
        refine r_getr (pc := 148) (μ := μ7) g dX12_from_148 fa_RX12_55 shM_out sM_0 rfl ?_
        refine r_iload (pc := 151) 4 g dX12_from_151 rfl ?_
        obtain ⟨b10, h⟩ := h
        refine r_iaload (pc := 153) (μ := μ7) g dX12_from_153 shM_out sM_16 b10 ?_
        refine r_goto (pc := 154) 165 g dX12_from_154 rfl ?_
        exact r_ireti (pc := 165) g hR dX12_from_165 h
    · have h := h.2 q
      refine r_iload (pc := 137) 0 g dX12_from_137 rfl ?_
      refine r_goto (pc := 139) 165 g dX12_from_139 rfl ?_
      exact r_ireti (pc := 165) g hR dX12_from_165 h
  · have h := h.2 q
    refine r_aload_n (pc := 80) 0 g dX12_from_80 rfl ?_
    refine r_getr (pc := 81) (μ := μ) g dX12_from_81 fa_RX12_22 shM_out sM_0 rfl ?_
    refine r_aload_n (pc := 84) 0 g dX12_from_84 rfl ?_
    refine r_getr (pc := 85) (μ := μ) g dX12_from_85 fa_RX12_46 shM_out sM_0 rfl ?_
    refine r_iload (pc := 88) 4 g dX12_from_88 rfl ?_
    obtain ⟨b11, h⟩ := h
    refine r_iaload (pc := 90) (μ := μ) g dX12_from_90 shM_out sM_13 b11 ?_
    obtain ⟨b12, h⟩ := h
    refine r_iaload (pc := 91) (μ := μ) g dX12_from_91 shM_out sM_5 b12 ?_
    refine r_iload (pc := 92) 3 g dX12_from_92 rfl ?_
    refine r_iconst (pc := 94) g dX12_from_94 ci_m1 ?_
    refine r_ixor (pc := 95) g dX12_from_95 ?_
    refine r_iand (pc := 96) g dX12_from_96 ?_
    refine r_if_eq (pc := 97) 103 g dX12_from_97 rfl (fun q => ?_) (fun q => ?_)
    · have h := h.1 q
      refine r_iinc (pc := 103) (lv' := [(5, .int (x5 + 1)), (0, .ref (w.1 0)), (2, .int x2), (3, .int x3), (4, .int x4)]) 4 g dX12_from_103 rfl ci_1 rfl rfl ?_
      refine r_goto (pc := 106) 74 g dX12_from_106 rfl ?_
      refine r_sub [1, 2, 3, 4, 0] (lv' := [(0, .ref (w.1 0)), (2, .int x2), (3, .int x3), (4, .int x4), (5, .int (x5 + 1))]) rfl ?_
      exact hP74 x2 x3 x4 (x5 + 1) μ h
    · have h := h.2 q
      refine r_bipush (pc := 100) g dX12_from_100 cb_m3 ?_
      exact r_ireti (pc := 102) g hR dX12_from_102 h
theorem v_X12_from_74 {X : Cx} {w : Wd} {l : Launch} {D : va_G} {A : Nat → Prop} (g : Gd X w RX12 cX12_from 6 rm_X12_from) (hX : atX X l D A) (post : Int32 → Mem → Prop) (hR : Rt X w shM 22 (some .int) (pI post)) (x2 : Int32) (x3 : Int32) (x4 : Int32) (x5 : Int32) (μ : Mem) (h : T_X12_from_74 post x2 x3 x4 x5 μ) : V X 74 [(0, .ref (w.1 0)), (2, .int x2), (3, .int x3), (4, .int x4), (5, .int x5)] [] (wls w shM 22 μ) :=
  h (fun x2 x3 x4 x5 μ => V X 74 [(0, .ref (w.1 0)), (2, .int x2), (3, .int x3), (4, .int x4), (5, .int x5)] [] (wls w shM 22 μ)) (fun x2 x3 x4 x5 μ h => bv_X12_from_74 g hX post hR (fun x2 x3 x4 x5 μ => V X 74 [(0, .ref (w.1 0)), (2, .int x2), (3, .int x3), (4, .int x4), (5, .int x5)] [] (wls w shM 22 μ)) (fun _ _ _ _ _ h => h) x2 x3 x4 x5 μ h)
def B_X12_from_45 (post : Int32 → Mem → Prop) (P45 : Int32 → Int32 → Int32 → Int32 → Mem → Prop) (x2 : Int32) (x3 : Int32) (x4 : Int32) (x5 : Int32) (μ : Mem) : Prop :=
  ((x2 ≤ x5 → T_X12_from_74 post x2 x3 x4 0 μ) ∧ (¬ x2 ≤ x5 → vp_in x5 9 ∧ P45 x2 x3 (x4 ||| ((1 : Int32) <<< ((μ 13 x5.toNatClampNeg) &&& 31))) (x5 + 1) μ))
def T_X12_from_45 (post : Int32 → Mem → Prop) (x2 : Int32) (x3 : Int32) (x4 : Int32) (x5 : Int32) (μ : Mem) : Prop :=
  ∀ P45 : Int32 → Int32 → Int32 → Int32 → Mem → Prop, (∀ (x2 : Int32) (x3 : Int32) (x4 : Int32) (x5 : Int32) (μ : Mem), B_X12_from_45 post P45 x2 x3 x4 x5 μ → P45 x2 x3 x4 x5 μ) → P45 x2 x3 x4 x5 μ
theorem bv_X12_from_45 {X : Cx} {w : Wd} {l : Launch} {D : va_G} {A : Nat → Prop} (g : Gd X w RX12 cX12_from 6 rm_X12_from) (hX : atX X l D A) (post : Int32 → Mem → Prop) (hR : Rt X w shM 22 (some .int) (pI post)) (P45 : Int32 → Int32 → Int32 → Int32 → Mem → Prop) (hP45 : ∀ (x2 : Int32) (x3 : Int32) (x4 : Int32) (x5 : Int32) (μ : Mem), P45 x2 x3 x4 x5 μ → V X 45 [(0, .ref (w.1 0)), (2, .int x2), (3, .int x3), (4, .int x4), (5, .int x5)] [] (wls w shM 22 μ)) (x2 : Int32) (x3 : Int32) (x4 : Int32) (x5 : Int32) (μ : Mem) (h : B_X12_from_45 post P45 x2 x3 x4 x5 μ) : V X 45 [(0, .ref (w.1 0)), (2, .int x2), (3, .int x3), (4, .int x4), (5, .int x5)] [] (wls w shM 22 μ) := by
  refine r_iload (pc := 45) 4 g dX12_from_45 rfl ?_
  refine r_iload_n (pc := 47) 1 g dX12_from_47 rfl ?_
  refine r_icmp_ge (pc := 48) 71 g dX12_from_48 rfl (fun q => ?_) (fun q => ?_)
  · have h := h.1 q
    refine r_iconst (pc := 71) g dX12_from_71 ci_0 ?_
    refine r_istore (pc := 72) (lv' := [(5, .int 0), (0, .ref (w.1 0)), (2, .int x2), (3, .int x3), (4, .int x4)]) g dX12_from_72 rfl rfl ?_
    refine r_sub [1, 2, 3, 4, 0] (lv' := [(0, .ref (w.1 0)), (2, .int x2), (3, .int x3), (4, .int x4), (5, .int 0)]) rfl ?_
    exact v_X12_from_74 g hX post hR x2 x3 x4 0 μ h
  · have h := h.2 q
    refine r_iload (pc := 51) 3 g dX12_from_51 rfl ?_
    refine r_iconst (pc := 53) g dX12_from_53 ci_1 ?_
    refine r_aload_n (pc := 54) 0 g dX12_from_54 rfl ?_
    refine r_getr (pc := 55) (μ := μ) g dX12_from_55 fa_RX12_46 shM_out sM_0 rfl ?_
    refine r_iload (pc := 58) 4 g dX12_from_58 rfl ?_
    obtain ⟨b1, h⟩ := h
    refine r_iaload (pc := 60) (μ := μ) g dX12_from_60 shM_out sM_13 b1 ?_
    refine r_ishl (pc := 61) g dX12_from_61 ?_
    refine r_ior (pc := 62) g dX12_from_62 ?_
    refine r_istore (pc := 63) (lv' := [(4, .int (x4 ||| ((1 : Int32) <<< ((μ 13 x5.toNatClampNeg) &&& 31)))), (0, .ref (w.1 0)), (2, .int x2), (3, .int x3), (5, .int x5)]) g dX12_from_63 rfl rfl ?_
    refine r_iinc (pc := 65) (lv' := [(5, .int (x5 + 1)), (4, .int (x4 ||| ((1 : Int32) <<< ((μ 13 x5.toNatClampNeg) &&& 31)))), (0, .ref (w.1 0)), (2, .int x2), (3, .int x3)]) 4 g dX12_from_65 rfl ci_1 rfl rfl ?_
    refine r_goto (pc := 68) 45 g dX12_from_68 rfl ?_
    refine r_sub [2, 3, 4, 1, 0] (lv' := [(0, .ref (w.1 0)), (2, .int x2), (3, .int x3), (4, .int (x4 ||| ((1 : Int32) <<< ((μ 13 x5.toNatClampNeg) &&& 31)))), (5, .int (x5 + 1))]) rfl ?_
    exact hP45 x2 x3 (x4 ||| ((1 : Int32) <<< ((μ 13 x5.toNatClampNeg) &&& 31))) (x5 + 1) μ h
theorem v_X12_from_45 {X : Cx} {w : Wd} {l : Launch} {D : va_G} {A : Nat → Prop} (g : Gd X w RX12 cX12_from 6 rm_X12_from) (hX : atX X l D A) (post : Int32 → Mem → Prop) (hR : Rt X w shM 22 (some .int) (pI post)) (x2 : Int32) (x3 : Int32) (x4 : Int32) (x5 : Int32) (μ : Mem) (h : T_X12_from_45 post x2 x3 x4 x5 μ) : V X 45 [(0, .ref (w.1 0)), (2, .int x2), (3, .int x3), (4, .int x4), (5, .int x5)] [] (wls w shM 22 μ) :=
  h (fun x2 x3 x4 x5 μ => V X 45 [(0, .ref (w.1 0)), (2, .int x2), (3, .int x3), (4, .int x4), (5, .int x5)] [] (wls w shM 22 μ)) (fun x2 x3 x4 x5 μ h => bv_X12_from_45 g hX post hR (fun x2 x3 x4 x5 μ => V X 45 [(0, .ref (w.1 0)), (2, .int x2), (3, .int x3), (4, .int x4), (5, .int x5)] [] (wls w shM 22 μ)) (fun _ _ _ _ _ h => h) x2 x3 x4 x5 μ h)
def T_X12_from (x1 : Int32) (x2 : Int32) (x3 : Int32) (μ : Mem) (post : Int32 → Mem → Prop) : Prop :=
  T_X12_isOrder x1 μ (fun (u1 : Int32) (μ2 : Mem) => ((¬ u1 = 0 → T_X12_isIn x2 0 (μ2 0 5) μ2 (fun (u3 : Int32) (μ4 : Mem) => ((u3 = 0 → T_X12_from_31 post μ4) ∧ (¬ u3 = 0 → T_X12_isIn x3 0 2 μ4 (fun (u5 : Int32) (μ6 : Mem) => ((¬ u5 = 0 → T_X12_lookAt x1 μ6 (fun (μ8 : Mem) => T_X12_from_45 post x2 x3 0 0 μ8)) ∧ (u5 = 0 → T_X12_from_31 post μ6))))))) ∧ (u1 = 0 → post (-1) μ2)))
theorem m_X12_from {w : Wd} {l : Launch} {D : va_G} {A : Nat → Prop} (x1 : Int32) (x2 : Int32) (x3 : Int32) (μ : Mem) (post : Int32 → Mem → Prop) (h : T_X12_from x1 x2 x3 μ post) : MetX l D A w shM 22 yX12_from cX12_from 6 (some .int) rm_X12_from [.ref (w.1 0), .int x1, .int x2, .int x3] μ (pI post) := by
  refine metX_of (by decide) rfl (lv := [(0, .ref (w.1 0)), (1, .int x1), (2, .int x2), (3, .int x3)]) rfl (fun X hX g hR => ?_)
  refine r_aload_n (pc := 0) 0 g dX12_from_0 rfl ?_
  refine r_iload_n (pc := 1) 1 g dX12_from_1 rfl ?_
  refine r_callVi (pc := 2) (st := []) g hX dX12_from_2 (m_X12_isOrder x1 μ _ h) kb_RX12_157 kv_X12_isOrder shM_out sM_0 rfl rfl rfl rfl (fun u1 μ2 h => ?_)
  refine r_if_ne (pc := 5) 10 g dX12_from_5 rfl (fun q => ?_) (fun q => ?_)
  · have h := h.1 q
    refine r_iload_n (pc := 10) 2 g dX12_from_10 rfl ?_
    refine r_iconst (pc := 11) g dX12_from_11 ci_0 ?_
    refine r_aload_n (pc := 12) 0 g dX12_from_12 rfl ?_
    refine r_geti (pc := 13) (μ := μ2) g dX12_from_13 fa_RX12_83 shM_out sM_0 rfl ?_
    refine r_callSi (pc := 16) (st := []) g hX dX12_from_16 (m_X12_isIn x2 0 (μ2 0 5) μ2 _ h) kb_RX12_79 k_1097 rfl rfl rfl rfl (fun u3 μ4 h => ?_)
    refine r_if_eq (pc := 19) 31 g dX12_from_19 rfl (fun q => ?_) (fun q => ?_)
    · have h := h.1 q
      refine r_sub [] (lv' := []) rfl ?_
      exact v_X12_from_31 g hX post hR μ4 h
    · have h := h.2 q
      refine r_iload_n (pc := 22) 3 g dX12_from_22 rfl ?_
      refine r_iconst (pc := 23) g dX12_from_23 ci_0 ?_
      refine r_iconst (pc := 24) g dX12_from_24 ci_2 ?_
      refine r_callSi (pc := 25) (st := []) g hX dX12_from_25 (m_X12_isIn x3 0 2 μ4 _ h) kb_RX12_79 k_1097 rfl rfl rfl rfl (fun u5 μ6 h => ?_)
      refine r_if_ne (pc := 28) 34 g dX12_from_28 rfl (fun q => ?_) (fun q => ?_)
      · have h := h.1 q
        refine r_aload_n (pc := 34) 0 g dX12_from_34 rfl ?_
        refine r_iload_n (pc := 35) 1 g dX12_from_35 rfl ?_
        refine r_callVv (pc := 36) (st := []) g hX dX12_from_36 (m_X12_lookAt x1 μ6 _ h) kb_RX12_160 kv_X12_lookAt shM_out sM_0 rfl rfl rfl rfl (fun μ8 h => ?_)
        refine r_iconst (pc := 39) g dX12_from_39 ci_0 ?_
        refine r_istore (pc := 40) (lv' := [(4, .int 0), (0, .ref (w.1 0)), (1, .int x1), (2, .int x2), (3, .int x3)]) g dX12_from_40 rfl rfl ?_
        refine r_iconst (pc := 42) g dX12_from_42 ci_0 ?_
        refine r_istore (pc := 43) (lv' := [(5, .int 0), (4, .int 0), (0, .ref (w.1 0)), (1, .int x1), (2, .int x2), (3, .int x3)]) g dX12_from_43 rfl rfl ?_
        refine r_sub [2, 4, 5, 1, 0] (lv' := [(0, .ref (w.1 0)), (2, .int x2), (3, .int x3), (4, .int 0), (5, .int 0)]) rfl ?_
        exact v_X12_from_45 g hX post hR x2 x3 0 0 μ8 h
      · have h := h.2 q
        refine r_sub [] (lv' := []) rfl ?_
        exact v_X12_from_31 g hX post hR μ6 h
  · have h := h.2 q
    refine r_iconst (pc := 8) g dX12_from_8 ci_m1 ?_
    exact r_ireti (pc := 9) g hR dX12_from_9 h
abbrev rm_X12_isBetter : Room := { frames := 3, cells := 0, slots := 0, locals := 68 }
def B_X12_isBetter_65 (r1 : Nat) (r2 : Nat) (post : Int32 → Mem → Prop) (P65 : Int32 → Mem → Prop) (x5 : Int32) (μ : Mem) : Prop :=
  (((μ 0 5) ≤ x5 → post 0 μ) ∧ (¬ (μ 0 5) ≤ x5 → shM r1 = .inl 9 ∧ vp_in x5 9 ∧ shM r2 = .inl 9 ∧ vp_in x5 9 ∧ (((μ r1 x5.toNatClampNeg) = (μ r2 x5.toNatClampNeg) → P65 (x5 + 1) μ) ∧ (¬ (μ r1 x5.toNatClampNeg) = (μ r2 x5.toNatClampNeg) → vp_in x5 9 ∧ vp_in x5 9 ∧ (((μ r2 x5.toNatClampNeg) ≤ (μ r1 x5.toNatClampNeg) → post 0 μ) ∧ (¬ (μ r2 x5.toNatClampNeg) ≤ (μ r1 x5.toNatClampNeg) → post 1 μ))))))
def T_X12_isBetter_65 (r1 : Nat) (r2 : Nat) (post : Int32 → Mem → Prop) (x5 : Int32) (μ : Mem) : Prop :=
  ∀ P65 : Int32 → Mem → Prop, (∀ (x5 : Int32) (μ : Mem), B_X12_isBetter_65 r1 r2 post P65 x5 μ → P65 x5 μ) → P65 x5 μ
theorem bv_X12_isBetter_65 {X : Cx} {w : Wd} {l : Launch} {D : va_G} {A : Nat → Prop} (r1 : Nat) (r2 : Nat) (g : Gd X w RX12 cX12_isBetter 6 rm_X12_isBetter) (hX : atX X l D A) (post : Int32 → Mem → Prop) (hR : Rt X w shM 22 (some .boolean) (pI post)) (P65 : Int32 → Mem → Prop) (hP65 : ∀ (x5 : Int32) (μ : Mem), P65 x5 μ → V X 65 [(0, .ref (w.1 0)), (1, .ref (w.1 r1)), (2, .ref (w.1 r2)), (5, .int x5)] [] (wls w shM 22 μ)) (x5 : Int32) (μ : Mem) (h : B_X12_isBetter_65 r1 r2 post P65 x5 μ) : V X 65 [(0, .ref (w.1 0)), (1, .ref (w.1 r1)), (2, .ref (w.1 r2)), (5, .int x5)] [] (wls w shM 22 μ) := by
  refine r_iload (pc := 65) 3 g dX12_isBetter_65 rfl ?_
  refine r_aload_n (pc := 67) 0 g dX12_isBetter_67 rfl ?_
  refine r_geti (pc := 68) (μ := μ) g dX12_isBetter_68 fa_RX12_83 shM_out sM_0 rfl ?_
  refine r_icmp_ge (pc := 71) 108 g dX12_isBetter_71 rfl (fun q => ?_) (fun q => ?_)
  · have h := h.1 q
    refine r_iconst (pc := 108) g dX12_isBetter_108 ci_0 ?_
    exact r_zreti (pc := 109) g hR dX12_isBetter_109 (Or.inl rfl) h
  · have h := h.2 q
    refine r_aload_n (pc := 74) 1 g dX12_isBetter_74 rfl ?_
    refine r_iload (pc := 75) 3 g dX12_isBetter_75 rfl ?_
    obtain ⟨z1, h⟩ := h
    obtain ⟨b2, h⟩ := h
    refine r_iaload (pc := 77) (μ := μ) g dX12_isBetter_77 shM_out z1 b2 ?_
    refine r_aload_n (pc := 78) 2 g dX12_isBetter_78 rfl ?_
    refine r_iload (pc := 79) 3 g dX12_isBetter_79 rfl ?_
    obtain ⟨z3, h⟩ := h
    obtain ⟨b4, h⟩ := h
    refine r_iaload (pc := 81) (μ := μ) g dX12_isBetter_81 shM_out z3 b4 ?_
    refine r_icmp_eq (pc := 82) 102 g dX12_isBetter_82 rfl (fun q => ?_) (fun q => ?_)
    · have h := h.1 q
      refine r_iinc (pc := 102) (lv' := [(5, .int (x5 + 1)), (0, .ref (w.1 0)), (1, .ref (w.1 r1)), (2, .ref (w.1 r2))]) 3 g dX12_isBetter_102 rfl ci_1 rfl rfl ?_
      refine r_goto (pc := 105) 65 g dX12_isBetter_105 rfl ?_
      refine r_sub [1, 2, 3, 0] (lv' := [(0, .ref (w.1 0)), (1, .ref (w.1 r1)), (2, .ref (w.1 r2)), (5, .int (x5 + 1))]) rfl ?_
      exact hP65 (x5 + 1) μ h
    · have h := h.2 q
      refine r_aload_n (pc := 85) 1 g dX12_isBetter_85 rfl ?_
      refine r_iload (pc := 86) 3 g dX12_isBetter_86 rfl ?_
      obtain ⟨b5, h⟩ := h
      refine r_iaload (pc := 88) (μ := μ) g dX12_isBetter_88 shM_out z1 b5 ?_
      refine r_aload_n (pc := 89) 2 g dX12_isBetter_89 rfl ?_
      refine r_iload (pc := 90) 3 g dX12_isBetter_90 rfl ?_
      obtain ⟨b6, h⟩ := h
      refine r_iaload (pc := 92) (μ := μ) g dX12_isBetter_92 shM_out z3 b6 ?_
      refine r_icmp_ge (pc := 93) 100 g dX12_isBetter_93 rfl (fun q => ?_) (fun q => ?_)
      · have h := h.1 q
        refine r_iconst (pc := 100) g dX12_isBetter_100 ci_0 ?_
        exact r_zreti (pc := 101) g hR dX12_isBetter_101 (Or.inl rfl) h
      · have h := h.2 q
        refine r_iconst (pc := 96) g dX12_isBetter_96 ci_1 ?_
        refine r_goto (pc := 97) 101 g dX12_isBetter_97 rfl ?_
        exact r_zreti (pc := 101) g hR dX12_isBetter_101 (Or.inr rfl) h
theorem v_X12_isBetter_65 {X : Cx} {w : Wd} {l : Launch} {D : va_G} {A : Nat → Prop} (r1 : Nat) (r2 : Nat) (g : Gd X w RX12 cX12_isBetter 6 rm_X12_isBetter) (hX : atX X l D A) (post : Int32 → Mem → Prop) (hR : Rt X w shM 22 (some .boolean) (pI post)) (x5 : Int32) (μ : Mem) (h : T_X12_isBetter_65 r1 r2 post x5 μ) : V X 65 [(0, .ref (w.1 0)), (1, .ref (w.1 r1)), (2, .ref (w.1 r2)), (5, .int x5)] [] (wls w shM 22 μ) :=
  h (fun x5 μ => V X 65 [(0, .ref (w.1 0)), (1, .ref (w.1 r1)), (2, .ref (w.1 r2)), (5, .int x5)] [] (wls w shM 22 μ)) (fun x5 μ h => bv_X12_isBetter_65 r1 r2 g hX post hR (fun x5 μ => V X 65 [(0, .ref (w.1 0)), (1, .ref (w.1 r1)), (2, .ref (w.1 r2)), (5, .int x5)] [] (wls w shM 22 μ)) (fun _ _ h => h) x5 μ h)
def T_X12_isBetter (r1 : Nat) (r2 : Nat) (μ : Mem) (post : Int32 → Mem → Prop) : Prop :=
  T_X12_mostOf r1 μ (fun (u1 : Int32) (μ2 : Mem) => T_X12_mostOf r2 μ2 (fun (u3 : Int32) (μ4 : Mem) => ((u1 = u3 → T_X12_longOf r1 μ4 (fun (u5 : Int32) (μ6 : Mem) => T_X12_longOf r2 μ6 (fun (u7 : Int32) (μ8 : Mem) => ((u5 = u7 → T_X12_isBetter_65 r1 r2 post 0 μ8) ∧ (¬ u5 = u7 → ((u7 ≤ u5 → post 0 μ8) ∧ (¬ u7 ≤ u5 → post 1 μ8))))))) ∧ (¬ u1 = u3 → ((u3 ≤ u1 → post 0 μ4) ∧ (¬ u3 ≤ u1 → post 1 μ4))))))
theorem m_X12_isBetter {w : Wd} {l : Launch} {D : va_G} {A : Nat → Prop} (r1 : Nat) (r2 : Nat) (μ : Mem) (post : Int32 → Mem → Prop) (h : T_X12_isBetter r1 r2 μ post) : MetX l D A w shM 22 yX12_isBetter cX12_isBetter 6 (some .boolean) rm_X12_isBetter [.ref (w.1 0), .ref (w.1 r1), .ref (w.1 r2)] μ (pI post) := by
  refine metX_of (by decide) rfl (lv := [(0, .ref (w.1 0)), (1, .ref (w.1 r1)), (2, .ref (w.1 r2))]) rfl (fun X hX g hR => ?_)
  refine r_aload_n (pc := 0) 0 g dX12_isBetter_0 rfl ?_
  refine r_aload_n (pc := 1) 1 g dX12_isBetter_1 rfl ?_
  refine r_callVi (pc := 2) (st := []) g hX dX12_isBetter_2 (m_X12_mostOf r1 μ _ h) kb_RX12_164 kv_X12_mostOf shM_out sM_0 rfl rfl rfl rfl (fun u1 μ2 h => ?_)
  refine r_istore_n (pc := 5) (lv' := [(3, .int u1), (0, .ref (w.1 0)), (1, .ref (w.1 r1)), (2, .ref (w.1 r2))]) g dX12_isBetter_5 rfl rfl ?_
  refine r_aload_n (pc := 6) 1 g dX12_isBetter_6 rfl ?_
  refine r_aload_n (pc := 7) 3 g dX12_isBetter_7 rfl ?_
  refine r_callVi (pc := 8) (st := []) g hX dX12_isBetter_8 (m_X12_mostOf r2 μ2 _ h) kb_RX12_164 kv_X12_mostOf shM_out sM_0 rfl rfl rfl rfl (fun u3 μ4 h => ?_)
  refine r_istore (pc := 11) (lv' := [(4, .int u3), (3, .int u1), (0, .ref (w.1 0)), (1, .ref (w.1 r1)), (2, .ref (w.1 r2))]) g dX12_isBetter_11 rfl rfl ?_
  refine r_iload_n (pc := 13) 1 g dX12_isBetter_13 rfl ?_
  refine r_iload (pc := 14) 0 g dX12_isBetter_14 rfl ?_
  refine r_icmp_eq (pc := 16) 31 g dX12_isBetter_16 rfl (fun q => ?_) (fun q => ?_)
  · have h := h.1 q
    refine r_aload_n (pc := 31) 2 g dX12_isBetter_31 rfl ?_
    refine r_aload_n (pc := 32) 3 g dX12_isBetter_32 rfl ?_
    refine r_callVi (pc := 33) (st := []) g hX dX12_isBetter_33 (m_X12_longOf r1 μ4 _ h) kb_RX12_168 kv_X12_longOf shM_out sM_0 rfl rfl rfl rfl (fun u5 μ6 h => ?_)
    refine r_istore_n (pc := 36) (lv' := [(3, .int u5), (4, .int u3), (0, .ref (w.1 0)), (1, .ref (w.1 r1)), (2, .ref (w.1 r2))]) g dX12_isBetter_36 rfl rfl ?_
    refine r_aload_n (pc := 37) 2 g dX12_isBetter_37 rfl ?_
    refine r_aload_n (pc := 38) 4 g dX12_isBetter_38 rfl ?_
    refine r_callVi (pc := 39) (st := []) g hX dX12_isBetter_39 (m_X12_longOf r2 μ6 _ h) kb_RX12_168 kv_X12_longOf shM_out sM_0 rfl rfl rfl rfl (fun u7 μ8 h => ?_)
    refine r_istore (pc := 42) (lv' := [(4, .int u7), (3, .int u5), (0, .ref (w.1 0)), (1, .ref (w.1 r1)), (2, .ref (w.1 r2))]) g dX12_isBetter_42 rfl rfl ?_
    refine r_iload_n (pc := 44) 1 g dX12_isBetter_44 rfl ?_
    refine r_iload (pc := 45) 0 g dX12_isBetter_45 rfl ?_
    refine r_icmp_eq (pc := 47) 62 g dX12_isBetter_47 rfl (fun q => ?_) (fun q => ?_)
    · have h := h.1 q
      refine r_iconst (pc := 62) g dX12_isBetter_62 ci_0 ?_
      refine r_istore (pc := 63) (lv' := [(5, .int 0), (4, .int u7), (3, .int u5), (0, .ref (w.1 0)), (1, .ref (w.1 r1)), (2, .ref (w.1 r2))]) g dX12_isBetter_63 rfl rfl ?_
      refine r_sub [3, 4, 5, 0] (lv' := [(0, .ref (w.1 0)), (1, .ref (w.1 r1)), (2, .ref (w.1 r2)), (5, .int 0)]) rfl ?_
      exact v_X12_isBetter_65 r1 r2 g hX post hR 0 μ8 h
    · have h := h.2 q
      refine r_iload_n (pc := 50) 1 g dX12_isBetter_50 rfl ?_
      refine r_iload (pc := 51) 0 g dX12_isBetter_51 rfl ?_
      refine r_icmp_ge (pc := 53) 60 g dX12_isBetter_53 rfl (fun q => ?_) (fun q => ?_)
      · have h := h.1 q
        refine r_iconst (pc := 60) g dX12_isBetter_60 ci_0 ?_
        exact r_zreti (pc := 61) g hR dX12_isBetter_61 (Or.inl rfl) h
      · have h := h.2 q
        refine r_iconst (pc := 56) g dX12_isBetter_56 ci_1 ?_
        refine r_goto (pc := 57) 61 g dX12_isBetter_57 rfl ?_
        exact r_zreti (pc := 61) g hR dX12_isBetter_61 (Or.inr rfl) h
  · have h := h.2 q
    refine r_iload_n (pc := 19) 1 g dX12_isBetter_19 rfl ?_
    refine r_iload (pc := 20) 0 g dX12_isBetter_20 rfl ?_
    refine r_icmp_ge (pc := 22) 29 g dX12_isBetter_22 rfl (fun q => ?_) (fun q => ?_)
    · have h := h.1 q
      refine r_iconst (pc := 29) g dX12_isBetter_29 ci_0 ?_
      exact r_zreti (pc := 30) g hR dX12_isBetter_30 (Or.inl rfl) h
    · have h := h.2 q
      refine r_iconst (pc := 25) g dX12_isBetter_25 ci_1 ?_
      refine r_goto (pc := 26) 30 g dX12_isBetter_26 rfl ?_
      exact r_zreti (pc := 30) g hR dX12_isBetter_30 (Or.inr rfl) h
abbrev rm_X12_better : Room := { frames := 4, cells := 0, slots := 0, locals := 93 }
def B_X12_better_25 (post : Int32 → Mem → Prop) (P25 : Int32 → Int32 → Mem → Prop) (x2 : Int32) (x3 : Int32) (μ : Mem) : Prop :=
  (((μ 0 5) ≤ x3 → T_X12_isBetter 13 18 μ (fun (u1 : Int32) (μ2 : Mem) => ((u1 = 0 → post 0 μ2) ∧ (¬ u1 = 0 → post 1 μ2)))) ∧ (¬ (μ 0 5) ≤ x3 → vp_in ((9 * x2) + x3) 72 ∧ vp_in x3 9 ∧ P25 x2 (x3 + 1) (mset μ 18 x3.toNatClampNeg (μ 12 ((9 * x2) + x3).toNatClampNeg))))
def T_X12_better_25 (post : Int32 → Mem → Prop) (x2 : Int32) (x3 : Int32) (μ : Mem) : Prop :=
  ∀ P25 : Int32 → Int32 → Mem → Prop, (∀ (x2 : Int32) (x3 : Int32) (μ : Mem), B_X12_better_25 post P25 x2 x3 μ → P25 x2 x3 μ) → P25 x2 x3 μ
theorem bv_X12_better_25 {X : Cx} {w : Wd} {l : Launch} {D : va_G} {A : Nat → Prop} (g : Gd X w RX12 cX12_better 4 rm_X12_better) (hX : atX X l D A) (post : Int32 → Mem → Prop) (hR : Rt X w shM 22 (some .int) (pI post)) (P25 : Int32 → Int32 → Mem → Prop) (hP25 : ∀ (x2 : Int32) (x3 : Int32) (μ : Mem), P25 x2 x3 μ → V X 25 [(0, .ref (w.1 0)), (2, .int x2), (3, .int x3)] [] (wls w shM 22 μ)) (x2 : Int32) (x3 : Int32) (μ : Mem) (h : B_X12_better_25 post P25 x2 x3 μ) : V X 25 [(0, .ref (w.1 0)), (2, .int x2), (3, .int x3)] [] (wls w shM 22 μ) := by
  refine r_iload_n (pc := 25) 2 g dX12_better_25 rfl ?_
  refine r_aload_n (pc := 26) 0 g dX12_better_26 rfl ?_
  refine r_geti (pc := 27) (μ := μ) g dX12_better_27 fa_RX12_83 shM_out sM_0 rfl ?_
  refine r_icmp_ge (pc := 30) 56 g dX12_better_30 rfl (fun q => ?_) (fun q => ?_)
  · have h := h.1 q
    refine r_aload_n (pc := 56) 0 g dX12_better_56 rfl ?_
    refine r_aload_n (pc := 57) 0 g dX12_better_57 rfl ?_
    refine r_getr (pc := 58) (μ := μ) g dX12_better_58 fa_RX12_46 shM_out sM_0 rfl ?_
    refine r_aload_n (pc := 61) 0 g dX12_better_61 rfl ?_
    refine r_getr (pc := 62) (μ := μ) g dX12_better_62 fa_RX12_61 shM_out sM_0 rfl ?_
    refine r_callVi (pc := 65) (st := []) g hX dX12_better_65 (m_X12_isBetter 13 18 μ _ h) kb_RX12_201 kv_X12_isBetter shM_out sM_0 rfl rfl rfl rfl (fun u1 μ2 h => ?_)
    refine r_if_eq (pc := 68) 75 g dX12_better_68 rfl (fun q => ?_) (fun q => ?_)
    · have h := h.1 q
      refine r_iconst (pc := 75) g dX12_better_75 ci_0 ?_
      exact r_ireti (pc := 76) g hR dX12_better_76 h
    · have h := h.2 q
      refine r_iconst (pc := 71) g dX12_better_71 ci_1 ?_
      refine r_goto (pc := 72) 76 g dX12_better_72 rfl ?_
      exact r_ireti (pc := 76) g hR dX12_better_76 h
  · have h := h.2 q
    refine r_aload_n (pc := 33) 0 g dX12_better_33 rfl ?_
    refine r_getr (pc := 34) (μ := μ) g dX12_better_34 fa_RX12_61 shM_out sM_0 rfl ?_
    refine r_iload_n (pc := 37) 2 g dX12_better_37 rfl ?_
    refine r_aload_n (pc := 38) 0 g dX12_better_38 rfl ?_
    refine r_getr (pc := 39) (μ := μ) g dX12_better_39 fa_RX12_43 shM_out sM_0 rfl ?_
    refine r_bipush (pc := 42) g dX12_better_42 cb_9 ?_
    refine r_iload_n (pc := 44) 1 g dX12_better_44 rfl ?_
    refine r_imul (pc := 45) g dX12_better_45 ?_
    refine r_iload_n (pc := 46) 2 g dX12_better_46 rfl ?_
    refine r_iadd (pc := 47) g dX12_better_47 ?_
    obtain ⟨b3, h⟩ := h
    refine r_iaload (pc := 48) (μ := μ) g dX12_better_48 shM_out sM_12 b3 ?_
    obtain ⟨b4, h⟩ := h
    refine r_iastore (pc := 49) (μ := μ) g dX12_better_49 shM_out sM_18 b4 ?_
    refine r_iinc (pc := 50) (lv' := [(3, .int (x3 + 1)), (0, .ref (w.1 0)), (2, .int x2)]) 2 g dX12_better_50 rfl ci_1 rfl rfl ?_
    refine r_goto (pc := 53) 25 g dX12_better_53 rfl ?_
    refine r_sub [1, 2, 0] (lv' := [(0, .ref (w.1 0)), (2, .int x2), (3, .int (x3 + 1))]) rfl ?_
    exact hP25 x2 (x3 + 1) (mset μ 18 x3.toNatClampNeg (μ 12 ((9 * x2) + x3).toNatClampNeg)) h
theorem v_X12_better_25 {X : Cx} {w : Wd} {l : Launch} {D : va_G} {A : Nat → Prop} (g : Gd X w RX12 cX12_better 4 rm_X12_better) (hX : atX X l D A) (post : Int32 → Mem → Prop) (hR : Rt X w shM 22 (some .int) (pI post)) (x2 : Int32) (x3 : Int32) (μ : Mem) (h : T_X12_better_25 post x2 x3 μ) : V X 25 [(0, .ref (w.1 0)), (2, .int x2), (3, .int x3)] [] (wls w shM 22 μ) :=
  h (fun x2 x3 μ => V X 25 [(0, .ref (w.1 0)), (2, .int x2), (3, .int x3)] [] (wls w shM 22 μ)) (fun x2 x3 μ h => bv_X12_better_25 g hX post hR (fun x2 x3 μ => V X 25 [(0, .ref (w.1 0)), (2, .int x2), (3, .int x3)] [] (wls w shM 22 μ)) (fun _ _ _ h => h) x2 x3 μ h)
def T_X12_better (x1 : Int32) (x2 : Int32) (μ : Mem) (post : Int32 → Mem → Prop) : Prop :=
  T_X12_isOrder x1 μ (fun (u1 : Int32) (μ2 : Mem) => ((u1 = 0 → post (-1) μ2) ∧ (¬ u1 = 0 → T_X12_isOrder x2 μ2 (fun (u3 : Int32) (μ4 : Mem) => ((¬ u3 = 0 → T_X12_lookAt x1 μ4 (fun (μ6 : Mem) => T_X12_better_25 post x2 0 μ6)) ∧ (u3 = 0 → post (-1) μ4))))))
theorem m_X12_better {w : Wd} {l : Launch} {D : va_G} {A : Nat → Prop} (x1 : Int32) (x2 : Int32) (μ : Mem) (post : Int32 → Mem → Prop) (h : T_X12_better x1 x2 μ post) : MetX l D A w shM 22 yX12_better cX12_better 4 (some .int) rm_X12_better [.ref (w.1 0), .int x1, .int x2] μ (pI post) := by
  refine metX_of (by decide) rfl (lv := [(0, .ref (w.1 0)), (1, .int x1), (2, .int x2)]) rfl (fun X hX g hR => ?_)
  refine r_aload_n (pc := 0) 0 g dX12_better_0 rfl ?_
  refine r_iload_n (pc := 1) 1 g dX12_better_1 rfl ?_
  refine r_callVi (pc := 2) (st := []) g hX dX12_better_2 (m_X12_isOrder x1 μ _ h) kb_RX12_157 kv_X12_isOrder shM_out sM_0 rfl rfl rfl rfl (fun u1 μ2 h => ?_)
  refine r_if_eq (pc := 5) 16 g dX12_better_5 rfl (fun q => ?_) (fun q => ?_)
  · have h := h.1 q
    refine r_iconst (pc := 16) g dX12_better_16 ci_m1 ?_
    exact r_ireti (pc := 17) g hR dX12_better_17 h
  · have h := h.2 q
    refine r_aload_n (pc := 8) 0 g dX12_better_8 rfl ?_
    refine r_iload_n (pc := 9) 2 g dX12_better_9 rfl ?_
    refine r_callVi (pc := 10) (st := []) g hX dX12_better_10 (m_X12_isOrder x2 μ2 _ h) kb_RX12_157 kv_X12_isOrder shM_out sM_0 rfl rfl rfl rfl (fun u3 μ4 h => ?_)
    refine r_if_ne (pc := 13) 18 g dX12_better_13 rfl (fun q => ?_) (fun q => ?_)
    · have h := h.1 q
      refine r_aload_n (pc := 18) 0 g dX12_better_18 rfl ?_
      refine r_iload_n (pc := 19) 1 g dX12_better_19 rfl ?_
      refine r_callVv (pc := 20) (st := []) g hX dX12_better_20 (m_X12_lookAt x1 μ4 _ h) kb_RX12_160 kv_X12_lookAt shM_out sM_0 rfl rfl rfl rfl (fun μ6 h => ?_)
      refine r_iconst (pc := 23) g dX12_better_23 ci_0 ?_
      refine r_istore_n (pc := 24) (lv' := [(3, .int 0), (0, .ref (w.1 0)), (1, .int x1), (2, .int x2)]) g dX12_better_24 rfl rfl ?_
      refine r_sub [1, 3, 0] (lv' := [(0, .ref (w.1 0)), (2, .int x2), (3, .int 0)]) rfl ?_
      exact v_X12_better_25 g hX post hR x2 0 μ6 h
    · have h := h.2 q
      refine r_iconst (pc := 16) g dX12_better_16 ci_m1 ?_
      exact r_ireti (pc := 17) g hR dX12_better_17 h
abbrev rm_X12_isClosed : Room := { frames := 1, cells := 0, slots := 0, locals := 21 }
def B_X12_isClosed_2 (post : Int32 → Mem → Prop) (P2 : Int32 → Int32 → Mem → Prop) (x1 : Int32) (x2 : Int32) (μ : Mem) : Prop :=
  (((μ 0 5) ≤ x2 → post 1 μ) ∧ (¬ (μ 0 5) ≤ x2 → T_X12_has x1 x2 μ (fun (u1 : Int32) (μ2 : Mem) => ((u1 = 0 → P2 x1 (x2 + 1) μ2) ∧ (¬ u1 = 0 → vp_in x2 9 ∧ ((((μ2 5 x2.toNatClampNeg) &&& (x1 ^^^ (-1))) = 0 → P2 x1 (x2 + 1) μ2) ∧ (¬ ((μ2 5 x2.toNatClampNeg) &&& (x1 ^^^ (-1))) = 0 → post 0 μ2)))))))
def T_X12_isClosed_2 (post : Int32 → Mem → Prop) (x1 : Int32) (x2 : Int32) (μ : Mem) : Prop :=
  ∀ P2 : Int32 → Int32 → Mem → Prop, (∀ (x1 : Int32) (x2 : Int32) (μ : Mem), B_X12_isClosed_2 post P2 x1 x2 μ → P2 x1 x2 μ) → P2 x1 x2 μ
theorem bv_X12_isClosed_2 {X : Cx} {w : Wd} {l : Launch} {D : va_G} {A : Nat → Prop} (g : Gd X w RX12 cX12_isClosed 3 rm_X12_isClosed) (hX : atX X l D A) (post : Int32 → Mem → Prop) (hR : Rt X w shM 22 (some .boolean) (pI post)) (P2 : Int32 → Int32 → Mem → Prop) (hP2 : ∀ (x1 : Int32) (x2 : Int32) (μ : Mem), P2 x1 x2 μ → V X 2 [(0, .ref (w.1 0)), (1, .int x1), (2, .int x2)] [] (wls w shM 22 μ)) (x1 : Int32) (x2 : Int32) (μ : Mem) (h : B_X12_isClosed_2 post P2 x1 x2 μ) : V X 2 [(0, .ref (w.1 0)), (1, .int x1), (2, .int x2)] [] (wls w shM 22 μ) := by
  refine r_iload_n (pc := 2) 2 g dX12_isClosed_2 rfl ?_
  refine r_aload_n (pc := 3) 0 g dX12_isClosed_3 rfl ?_
  refine r_geti (pc := 4) (μ := μ) g dX12_isClosed_4 fa_RX12_83 shM_out sM_0 rfl ?_
  refine r_icmp_ge (pc := 7) 39 g dX12_isClosed_7 rfl (fun q => ?_) (fun q => ?_)
  · have h := h.1 q
    refine r_iconst (pc := 39) g dX12_isClosed_39 ci_1 ?_
    exact r_zreti (pc := 40) g hR dX12_isClosed_40 (Or.inr rfl) h
  · have h := h.2 q
    refine r_iload_n (pc := 10) 1 g dX12_isClosed_10 rfl ?_
    refine r_iload_n (pc := 11) 2 g dX12_isClosed_11 rfl ?_
    refine r_callSi (pc := 12) (st := []) g hX dX12_isClosed_12 (m_X12_has x1 x2 μ _ h) kb_RX12_96 k_1123 rfl rfl rfl rfl (fun u1 μ2 h => ?_)
    refine r_if_eq (pc := 15) 33 g dX12_isClosed_15 rfl (fun q => ?_) (fun q => ?_)
    · have h := h.1 q
      refine r_iinc (pc := 33) (lv' := [(2, .int (x2 + 1)), (0, .ref (w.1 0)), (1, .int x1)]) 2 g dX12_isClosed_33 rfl ci_1 rfl rfl ?_
      refine r_goto (pc := 36) 2 g dX12_isClosed_36 rfl ?_
      refine r_sub [1, 2, 0] (lv' := [(0, .ref (w.1 0)), (1, .int x1), (2, .int (x2 + 1))]) rfl ?_
      exact hP2 x1 (x2 + 1) μ2 h
    · have h := h.2 q
      refine r_aload_n (pc := 18) 0 g dX12_isClosed_18 rfl ?_
      refine r_getr (pc := 19) (μ := μ2) g dX12_isClosed_19 fa_RX12_22 shM_out sM_0 rfl ?_
      refine r_iload_n (pc := 22) 2 g dX12_isClosed_22 rfl ?_
      obtain ⟨b3, h⟩ := h
      refine r_iaload (pc := 23) (μ := μ2) g dX12_isClosed_23 shM_out sM_5 b3 ?_
      refine r_iload_n (pc := 24) 1 g dX12_isClosed_24 rfl ?_
      refine r_iconst (pc := 25) g dX12_isClosed_25 ci_m1 ?_
      refine r_ixor (pc := 26) g dX12_isClosed_26 ?_
      refine r_iand (pc := 27) g dX12_isClosed_27 ?_
      refine r_if_eq (pc := 28) 33 g dX12_isClosed_28 rfl (fun q => ?_) (fun q => ?_)
      · have h := h.1 q
        refine r_iinc (pc := 33) (lv' := [(2, .int (x2 + 1)), (0, .ref (w.1 0)), (1, .int x1)]) 2 g dX12_isClosed_33 rfl ci_1 rfl rfl ?_
        refine r_goto (pc := 36) 2 g dX12_isClosed_36 rfl ?_
        refine r_sub [1, 2, 0] (lv' := [(0, .ref (w.1 0)), (1, .int x1), (2, .int (x2 + 1))]) rfl ?_
        exact hP2 x1 (x2 + 1) μ2 h
      · have h := h.2 q
        refine r_iconst (pc := 31) g dX12_isClosed_31 ci_0 ?_
        exact r_zreti (pc := 32) g hR dX12_isClosed_32 (Or.inl rfl) h
theorem v_X12_isClosed_2 {X : Cx} {w : Wd} {l : Launch} {D : va_G} {A : Nat → Prop} (g : Gd X w RX12 cX12_isClosed 3 rm_X12_isClosed) (hX : atX X l D A) (post : Int32 → Mem → Prop) (hR : Rt X w shM 22 (some .boolean) (pI post)) (x1 : Int32) (x2 : Int32) (μ : Mem) (h : T_X12_isClosed_2 post x1 x2 μ) : V X 2 [(0, .ref (w.1 0)), (1, .int x1), (2, .int x2)] [] (wls w shM 22 μ) :=
  h (fun x1 x2 μ => V X 2 [(0, .ref (w.1 0)), (1, .int x1), (2, .int x2)] [] (wls w shM 22 μ)) (fun x1 x2 μ h => bv_X12_isClosed_2 g hX post hR (fun x1 x2 μ => V X 2 [(0, .ref (w.1 0)), (1, .int x1), (2, .int x2)] [] (wls w shM 22 μ)) (fun _ _ _ h => h) x1 x2 μ h)
def T_X12_isClosed (x1 : Int32) (μ : Mem) (post : Int32 → Mem → Prop) : Prop :=
  T_X12_isClosed_2 post x1 0 μ
theorem m_X12_isClosed {w : Wd} {l : Launch} {D : va_G} {A : Nat → Prop} (x1 : Int32) (μ : Mem) (post : Int32 → Mem → Prop) (h : T_X12_isClosed x1 μ post) : MetX l D A w shM 22 yX12_isClosed cX12_isClosed 3 (some .boolean) rm_X12_isClosed [.ref (w.1 0), .int x1] μ (pI post) := by
  refine metX_of (by decide) rfl (lv := [(0, .ref (w.1 0)), (1, .int x1)]) rfl (fun X hX g hR => ?_)
  refine r_iconst (pc := 0) g dX12_isClosed_0 ci_0 ?_
  refine r_istore_n (pc := 1) (lv' := [(2, .int 0), (0, .ref (w.1 0)), (1, .int x1)]) g dX12_isClosed_1 rfl rfl ?_
  refine r_sub [1, 2, 0] (lv' := [(0, .ref (w.1 0)), (1, .int x1), (2, .int 0)]) rfl ?_
  exact v_X12_isClosed_2 g hX post hR x1 0 μ h
abbrev rm_X12_crossOf : Room := { frames := 2, cells := 0, slots := 0, locals := 44 }
def T_X12_crossOf_65 (post : Int32 → Mem → Prop) (P5 : Int32 → Int32 → Int32 → Mem → Prop) (x1 : Int32) (x3 : Int32) (s0 : Int32) (μ : Mem) : Prop :=
  P5 x1 s0 (x3 + 1) μ
theorem v_X12_crossOf_65 {X : Cx} {w : Wd} {l : Launch} {D : va_G} {A : Nat → Prop} (g : Gd X w RX12 cX12_crossOf 5 rm_X12_crossOf) (hX : atX X l D A) (post : Int32 → Mem → Prop) (hR : Rt X w shM 22 (some .int) (pI post)) (P5 : Int32 → Int32 → Int32 → Mem → Prop) (hP5 : ∀ (x1 : Int32) (x2 : Int32) (x3 : Int32) (μ : Mem), P5 x1 x2 x3 μ → V X 5 [(0, .ref (w.1 0)), (1, .int x1), (2, .int x2), (3, .int x3)] [] (wls w shM 22 μ)) (x1 : Int32) (x3 : Int32) (s0 : Int32) (μ : Mem) (h : T_X12_crossOf_65 post P5 x1 x3 s0 μ) : V X 65 [(0, .ref (w.1 0)), (1, .int x1), (3, .int x3)] [.int s0] (wls w shM 22 μ) := by
  refine r_istore_n (pc := 65) (lv' := [(2, .int s0), (0, .ref (w.1 0)), (1, .int x1), (3, .int x3)]) g dX12_crossOf_65 rfl rfl ?_
  refine r_iinc (pc := 66) (lv' := [(3, .int (x3 + 1)), (2, .int s0), (0, .ref (w.1 0)), (1, .int x1)]) 3 g dX12_crossOf_66 rfl ci_1 rfl rfl ?_
  refine r_goto (pc := 69) 5 g dX12_crossOf_69 rfl ?_
  refine r_sub [2, 3, 1, 0] (lv' := [(0, .ref (w.1 0)), (1, .int x1), (2, .int s0), (3, .int (x3 + 1))]) rfl ?_
  exact hP5 x1 s0 (x3 + 1) μ h
def B_X12_crossOf_5 (post : Int32 → Mem → Prop) (P5 : Int32 → Int32 → Int32 → Mem → Prop) (x1 : Int32) (x2 : Int32) (x3 : Int32) (μ : Mem) : Prop :=
  T_X12_all μ (fun (u1 : Int32) (μ2 : Mem) => ((u1 < x3 → post x2 μ2) ∧ (¬ u1 < x3 → T_X12_bitsOf x3 μ2 (fun (u3 : Int32) (μ4 : Mem) => ((¬ u3 = x1 → P5 x1 x2 (x3 + 1) μ4) ∧ (u3 = x1 → T_X12_isClosed x3 μ4 (fun (u5 : Int32) (μ6 : Mem) => ((u5 = 0 → P5 x1 x2 (x3 + 1) μ6) ∧ (¬ u5 = 0 → T_X12_needsOf x3 μ6 (fun (u7 : Int32) (μ8 : Mem) => T_X12_all μ8 (fun (u9 : Int32) (μ10 : Mem) => T_X12_needsOf (u9 &&& (x3 ^^^ (-1))) μ10 (fun (u11 : Int32) (μ12 : Mem) => T_X12_sizeOf (u7 &&& u11) μ12 (fun (u13 : Int32) (μ14 : Mem) => ((x2 ≤ u13 → T_X12_crossOf_65 post P5 x1 x3 x2 μ14) ∧ (¬ x2 ≤ u13 → T_X12_crossOf_65 post P5 x1 x3 u13 μ14)))))))))))))))
def T_X12_crossOf_5 (post : Int32 → Mem → Prop) (x1 : Int32) (x2 : Int32) (x3 : Int32) (μ : Mem) : Prop :=
  ∀ P5 : Int32 → Int32 → Int32 → Mem → Prop, (∀ (x1 : Int32) (x2 : Int32) (x3 : Int32) (μ : Mem), B_X12_crossOf_5 post P5 x1 x2 x3 μ → P5 x1 x2 x3 μ) → P5 x1 x2 x3 μ
theorem bv_X12_crossOf_5 {X : Cx} {w : Wd} {l : Launch} {D : va_G} {A : Nat → Prop} (g : Gd X w RX12 cX12_crossOf 5 rm_X12_crossOf) (hX : atX X l D A) (post : Int32 → Mem → Prop) (hR : Rt X w shM 22 (some .int) (pI post)) (P5 : Int32 → Int32 → Int32 → Mem → Prop) (hP5 : ∀ (x1 : Int32) (x2 : Int32) (x3 : Int32) (μ : Mem), P5 x1 x2 x3 μ → V X 5 [(0, .ref (w.1 0)), (1, .int x1), (2, .int x2), (3, .int x3)] [] (wls w shM 22 μ)) (x1 : Int32) (x2 : Int32) (x3 : Int32) (μ : Mem) (h : B_X12_crossOf_5 post P5 x1 x2 x3 μ) : V X 5 [(0, .ref (w.1 0)), (1, .int x1), (2, .int x2), (3, .int x3)] [] (wls w shM 22 μ) := by
  refine r_iload_n (pc := 5) 3 g dX12_crossOf_5 rfl ?_
  refine r_aload_n (pc := 6) 0 g dX12_crossOf_6 rfl ?_
  refine r_callVi (pc := 7) (st := [.int x3]) g hX dX12_crossOf_7 (m_X12_all μ _ h) kb_RX12_134 kv_X12_all shM_out sM_0 rfl rfl rfl rfl (fun u1 μ2 h => ?_)
  refine r_icmp_gt (pc := 10) 72 g dX12_crossOf_10 rfl (fun q => ?_) (fun q => ?_)
  · have h := h.1 q
    refine r_iload_n (pc := 72) 2 g dX12_crossOf_72 rfl ?_
    exact r_ireti (pc := 73) g hR dX12_crossOf_73 h
  · have h := h.2 q
    refine r_iload_n (pc := 13) 3 g dX12_crossOf_13 rfl ?_
    refine r_callSi (pc := 14) (st := []) g hX dX12_crossOf_14 (m_X12_bitsOf x3 μ2 _ h) kb_RX12_205 k_1259 rfl rfl rfl rfl (fun u3 μ4 h => ?_)
    refine r_iload_n (pc := 17) 1 g dX12_crossOf_17 rfl ?_
    refine r_icmp_ne (pc := 18) 66 g dX12_crossOf_18 rfl (fun q => ?_) (fun q => ?_)
    · have h := h.1 q
      refine r_iinc (pc := 66) (lv' := [(3, .int (x3 + 1)), (0, .ref (w.1 0)), (1, .int x1), (2, .int x2)]) 3 g dX12_crossOf_66 rfl ci_1 rfl rfl ?_
      refine r_goto (pc := 69) 5 g dX12_crossOf_69 rfl ?_
      refine r_sub [1, 2, 3, 0] (lv' := [(0, .ref (w.1 0)), (1, .int x1), (2, .int x2), (3, .int (x3 + 1))]) rfl ?_
      exact hP5 x1 x2 (x3 + 1) μ4 h
    · have h := h.2 q
      refine r_aload_n (pc := 21) 0 g dX12_crossOf_21 rfl ?_
      refine r_iload_n (pc := 22) 3 g dX12_crossOf_22 rfl ?_
      refine r_callVi (pc := 23) (st := []) g hX dX12_crossOf_23 (m_X12_isClosed x3 μ4 _ h) kb_RX12_208 kv_X12_isClosed shM_out sM_0 rfl rfl rfl rfl (fun u5 μ6 h => ?_)
      refine r_if_eq (pc := 26) 66 g dX12_crossOf_26 rfl (fun q => ?_) (fun q => ?_)
      · have h := h.1 q
        refine r_iinc (pc := 66) (lv' := [(3, .int (x3 + 1)), (0, .ref (w.1 0)), (1, .int x1), (2, .int x2)]) 3 g dX12_crossOf_66 rfl ci_1 rfl rfl ?_
        refine r_goto (pc := 69) 5 g dX12_crossOf_69 rfl ?_
        refine r_sub [1, 2, 3, 0] (lv' := [(0, .ref (w.1 0)), (1, .int x1), (2, .int x2), (3, .int (x3 + 1))]) rfl ?_
        exact hP5 x1 x2 (x3 + 1) μ6 h
      · have h := h.2 q
        refine r_aload_n (pc := 29) 0 g dX12_crossOf_29 rfl ?_
        refine r_aload_n (pc := 30) 0 g dX12_crossOf_30 rfl ?_
        refine r_iload_n (pc := 31) 3 g dX12_crossOf_31 rfl ?_
        refine r_callVi (pc := 32) (st := [.ref (w.1 0)]) g hX dX12_crossOf_32 (m_X12_needsOf x3 μ6 _ h) kb_RX12_171 kv_X12_needsOf shM_out sM_0 rfl rfl rfl rfl (fun u7 μ8 h => ?_)
        refine r_aload_n (pc := 35) 0 g dX12_crossOf_35 rfl ?_
        refine r_aload_n (pc := 36) 0 g dX12_crossOf_36 rfl ?_
        refine r_callVi (pc := 37) (st := [.ref (w.1 0), .int u7, .ref (w.1 0)]) g hX dX12_crossOf_37 (m_X12_all μ8 _ h) kb_RX12_134 kv_X12_all shM_out sM_0 rfl rfl rfl rfl (fun u9 μ10 h => ?_)
        refine r_iload_n (pc := 40) 3 g dX12_crossOf_40 rfl ?_
        refine r_iconst (pc := 41) g dX12_crossOf_41 ci_m1 ?_
        refine r_ixor (pc := 42) g dX12_crossOf_42 ?_
        refine r_iand (pc := 43) g dX12_crossOf_43 ?_
        refine r_callVi (pc := 44) (st := [.int u7, .ref (w.1 0)]) g hX dX12_crossOf_44 (m_X12_needsOf (u9 &&& (x3 ^^^ (-1))) μ10 _ h) kb_RX12_171 kv_X12_needsOf shM_out sM_0 rfl rfl rfl rfl (fun u11 μ12 h => ?_)
        refine r_iand (pc := 47) g dX12_crossOf_47 ?_
        refine r_callVi (pc := 48) (st := []) g hX dX12_crossOf_48 (m_X12_sizeOf (u7 &&& u11) μ12 _ h) kb_RX12_147 kv_X12_sizeOf shM_out sM_0 rfl rfl rfl rfl (fun u13 μ14 h => ?_)
        refine r_istore (pc := 51) (lv' := [(4, .int u13), (0, .ref (w.1 0)), (1, .int x1), (2, .int x2), (3, .int x3)]) g dX12_crossOf_51 rfl rfl ?_
        refine r_iload (pc := 53) 0 g dX12_crossOf_53 rfl ?_
        refine r_iload_n (pc := 55) 3 g dX12_crossOf_55 rfl ?_
        refine r_icmp_ge (pc := 56) 64 g dX12_crossOf_56 rfl (fun q => ?_) (fun q => ?_)
        · have h := h.1 q
          refine r_iload_n (pc := 64) 3 g dX12_crossOf_64 rfl ?_
          refine r_sub [1, 2, 4] (lv' := [(0, .ref (w.1 0)), (1, .int x1), (3, .int x3)]) rfl ?_
          exact v_X12_crossOf_65 g hX post hR P5 hP5 x1 x3 x2 μ14 h
        · have h := h.2 q
          refine r_iload (pc := 59) 0 g dX12_crossOf_59 rfl ?_
          refine r_goto (pc := 61) 65 g dX12_crossOf_61 rfl ?_
          refine r_sub [1, 2, 4] (lv' := [(0, .ref (w.1 0)), (1, .int x1), (3, .int x3)]) rfl ?_
          exact v_X12_crossOf_65 g hX post hR P5 hP5 x1 x3 u13 μ14 h
theorem v_X12_crossOf_5 {X : Cx} {w : Wd} {l : Launch} {D : va_G} {A : Nat → Prop} (g : Gd X w RX12 cX12_crossOf 5 rm_X12_crossOf) (hX : atX X l D A) (post : Int32 → Mem → Prop) (hR : Rt X w shM 22 (some .int) (pI post)) (x1 : Int32) (x2 : Int32) (x3 : Int32) (μ : Mem) (h : T_X12_crossOf_5 post x1 x2 x3 μ) : V X 5 [(0, .ref (w.1 0)), (1, .int x1), (2, .int x2), (3, .int x3)] [] (wls w shM 22 μ) :=
  h (fun x1 x2 x3 μ => V X 5 [(0, .ref (w.1 0)), (1, .int x1), (2, .int x2), (3, .int x3)] [] (wls w shM 22 μ)) (fun x1 x2 x3 μ h => bv_X12_crossOf_5 g hX post hR (fun x1 x2 x3 μ => V X 5 [(0, .ref (w.1 0)), (1, .int x1), (2, .int x2), (3, .int x3)] [] (wls w shM 22 μ)) (fun _ _ _ _ h => h) x1 x2 x3 μ h)
def T_X12_crossOf (x1 : Int32) (μ : Mem) (post : Int32 → Mem → Prop) : Prop :=
  T_X12_crossOf_5 post x1 1000000 0 μ
theorem m_X12_crossOf {w : Wd} {l : Launch} {D : va_G} {A : Nat → Prop} (x1 : Int32) (μ : Mem) (post : Int32 → Mem → Prop) (h : T_X12_crossOf x1 μ post) : MetX l D A w shM 22 yX12_crossOf cX12_crossOf 5 (some .int) rm_X12_crossOf [.ref (w.1 0), .int x1] μ (pI post) := by
  refine metX_of (by decide) rfl (lv := [(0, .ref (w.1 0)), (1, .int x1)]) rfl (fun X hX g hR => ?_)
  refine r_ldc (pc := 0) g dX12_crossOf_0 k_1221 ?_
  refine r_istore_n (pc := 2) (lv' := [(2, .int 1000000), (0, .ref (w.1 0)), (1, .int x1)]) g dX12_crossOf_2 rfl rfl ?_
  refine r_iconst (pc := 3) g dX12_crossOf_3 ci_0 ?_
  refine r_istore_n (pc := 4) (lv' := [(3, .int 0), (2, .int 1000000), (0, .ref (w.1 0)), (1, .int x1)]) g dX12_crossOf_4 rfl rfl ?_
  refine r_sub [2, 3, 1, 0] (lv' := [(0, .ref (w.1 0)), (1, .int x1), (2, .int 1000000), (3, .int 0)]) rfl ?_
  exact v_X12_crossOf_5 g hX post hR x1 1000000 0 μ h
abbrev rm_X12_cross : Room := { frames := 3, cells := 0, slots := 0, locals := 68 }
def T_X12_cross (x1 : Int32) (μ : Mem) (post : Int32 → Mem → Prop) : Prop :=
  T_X12_isIn x1 0 (μ 0 5) μ (fun (u1 : Int32) (μ2 : Mem) => ((u1 = 0 → post (-2) μ2) ∧ (¬ u1 = 0 → T_X12_crossOf x1 μ2 (fun (u3 : Int32) (μ4 : Mem) => post u3 μ4))))
theorem m_X12_cross {w : Wd} {l : Launch} {D : va_G} {A : Nat → Prop} (x1 : Int32) (μ : Mem) (post : Int32 → Mem → Prop) (h : T_X12_cross x1 μ post) : MetX l D A w shM 22 yX12_cross cX12_cross 2 (some .int) rm_X12_cross [.ref (w.1 0), .int x1] μ (pI post) := by
  refine metX_of (by decide) rfl (lv := [(0, .ref (w.1 0)), (1, .int x1)]) rfl (fun X hX g hR => ?_)
  refine r_iload_n (pc := 0) 1 g dX12_cross_0 rfl ?_
  refine r_iconst (pc := 1) g dX12_cross_1 ci_0 ?_
  refine r_aload_n (pc := 2) 0 g dX12_cross_2 rfl ?_
  refine r_geti (pc := 3) (μ := μ) g dX12_cross_3 fa_RX12_83 shM_out sM_0 rfl ?_
  refine r_callSi (pc := 6) (st := []) g hX dX12_cross_6 (m_X12_isIn x1 0 (μ 0 5) μ _ h) kb_RX12_79 k_1097 rfl rfl rfl rfl (fun u1 μ2 h => ?_)
  refine r_if_eq (pc := 9) 20 g dX12_cross_9 rfl (fun q => ?_) (fun q => ?_)
  · have h := h.1 q
    refine r_bipush (pc := 20) g dX12_cross_20 cb_m2 ?_
    exact r_ireti (pc := 22) g hR dX12_cross_22 h
  · have h := h.2 q
    refine r_aload_n (pc := 12) 0 g dX12_cross_12 rfl ?_
    refine r_iload_n (pc := 13) 1 g dX12_cross_13 rfl ?_
    refine r_callVi (pc := 14) (st := []) g hX dX12_cross_14 (m_X12_crossOf x1 μ2 _ h) kb_RX12_211 kv_X12_crossOf shM_out sM_0 rfl rfl rfl rfl (fun u3 μ4 h => ?_)
    refine r_goto (pc := 17) 22 g dX12_cross_17 rfl ?_
    exact r_ireti (pc := 22) g hR dX12_cross_22 h
