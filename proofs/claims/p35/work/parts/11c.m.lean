theorem dX12_share_0 : decode cX12_share 0 = .ok (.iconst 0, 1) := by decide +kernel
theorem dX12_share_1 : decode cX12_share 1 = .ok (.istore_n 3, 1) := by decide +kernel
theorem dX12_share_2 : decode cX12_share 2 = .ok (.iload_n 3, 1) := by decide +kernel
theorem dX12_share_3 : decode cX12_share 3 = .ok (.aload_n 0, 1) := by decide +kernel
theorem dX12_share_4 : decode cX12_share 4 = .ok (.getfield 83, 3) := by decide +kernel
theorem dX12_share_7 : decode cX12_share 7 = .ok (.if_icmp .ge 37, 3) := by decide +kernel
theorem dX12_share_10 : decode cX12_share 10 = .ok (.aload_n 0, 1) := by decide +kernel
theorem dX12_share_11 : decode cX12_share 11 = .ok (.getfield 19, 3) := by decide +kernel
theorem dX12_share_14 : decode cX12_share 14 = .ok (.iload_n 3, 1) := by decide +kernel
theorem dX12_share_15 : decode cX12_share 15 = .ok (.iaload, 1) := by decide +kernel
theorem dX12_share_16 : decode cX12_share 16 = .ok (.iload_n 1, 1) := by decide +kernel
theorem dX12_share_17 : decode cX12_share 17 = .ok (.invokestatic 96, 3) := by decide +kernel
theorem dX12_share_20 : decode cX12_share 20 = .ok (.ifCond .eq 18, 3) := by decide +kernel
theorem dX12_share_23 : decode cX12_share 23 = .ok (.aload_n 0, 1) := by decide +kernel
theorem dX12_share_24 : decode cX12_share 24 = .ok (.getfield 19, 3) := by decide +kernel
theorem dX12_share_27 : decode cX12_share 27 = .ok (.iload_n 3, 1) := by decide +kernel
theorem dX12_share_28 : decode cX12_share 28 = .ok (.iaload, 1) := by decide +kernel
theorem dX12_share_29 : decode cX12_share 29 = .ok (.iload_n 2, 1) := by decide +kernel
theorem dX12_share_30 : decode cX12_share 30 = .ok (.invokestatic 96, 3) := by decide +kernel
theorem dX12_share_33 : decode cX12_share 33 = .ok (.ifCond .eq 5, 3) := by decide +kernel
theorem dX12_share_36 : decode cX12_share 36 = .ok (.iconst 1, 1) := by decide +kernel
theorem dX12_share_37 : decode cX12_share 37 = .ok (.ireturn, 1) := by decide +kernel
theorem dX12_share_38 : decode cX12_share 38 = .ok (.iinc 3 1, 3) := by decide +kernel
theorem dX12_share_41 : decode cX12_share 41 = .ok (.goto (-39), 3) := by decide +kernel
theorem dX12_share_44 : decode cX12_share 44 = .ok (.iconst 0, 1) := by decide +kernel
theorem dX12_share_45 : decode cX12_share 45 = .ok (.ireturn, 1) := by decide +kernel
theorem dX12_isKnot_0 : decode cX12_isKnot 0 = .ok (.iconst 0, 1) := by decide +kernel
theorem dX12_isKnot_1 : decode cX12_isKnot 1 = .ok (.istore_n 2, 1) := by decide +kernel
theorem dX12_isKnot_2 : decode cX12_isKnot 2 = .ok (.iload_n 2, 1) := by decide +kernel
theorem dX12_isKnot_3 : decode cX12_isKnot 3 = .ok (.bipush 10, 2) := by decide +kernel
theorem dX12_isKnot_5 : decode cX12_isKnot 5 = .ok (.if_icmp .ge 49, 3) := by decide +kernel
theorem dX12_isKnot_8 : decode cX12_isKnot 8 = .ok (.iconst 0, 1) := by decide +kernel
theorem dX12_isKnot_9 : decode cX12_isKnot 9 = .ok (.istore_n 3, 1) := by decide +kernel
theorem dX12_isKnot_10 : decode cX12_isKnot 10 = .ok (.iload_n 3, 1) := by decide +kernel
theorem dX12_isKnot_11 : decode cX12_isKnot 11 = .ok (.iload_n 2, 1) := by decide +kernel
theorem dX12_isKnot_12 : decode cX12_isKnot 12 = .ok (.if_icmp .gt 36, 3) := by decide +kernel
theorem dX12_isKnot_15 : decode cX12_isKnot 15 = .ok (.iload_n 1, 1) := by decide +kernel
theorem dX12_isKnot_16 : decode cX12_isKnot 16 = .ok (.iload_n 2, 1) := by decide +kernel
theorem dX12_isKnot_17 : decode cX12_isKnot 17 = .ok (.invokestatic 96, 3) := by decide +kernel
theorem dX12_isKnot_20 : decode cX12_isKnot 20 = .ok (.ifCond .eq 22, 3) := by decide +kernel
theorem dX12_isKnot_23 : decode cX12_isKnot 23 = .ok (.iload_n 1, 1) := by decide +kernel
theorem dX12_isKnot_24 : decode cX12_isKnot 24 = .ok (.iload_n 3, 1) := by decide +kernel
theorem dX12_isKnot_25 : decode cX12_isKnot 25 = .ok (.invokestatic 96, 3) := by decide +kernel
theorem dX12_isKnot_28 : decode cX12_isKnot 28 = .ok (.ifCond .eq 14, 3) := by decide +kernel
theorem dX12_isKnot_31 : decode cX12_isKnot 31 = .ok (.aload_n 0, 1) := by decide +kernel
theorem dX12_isKnot_32 : decode cX12_isKnot 32 = .ok (.iload_n 2, 1) := by decide +kernel
theorem dX12_isKnot_33 : decode cX12_isKnot 33 = .ok (.iload_n 3, 1) := by decide +kernel
theorem dX12_isKnot_34 : decode cX12_isKnot 34 = .ok (.invokevirtual 214, 3) := by decide +kernel
theorem dX12_isKnot_37 : decode cX12_isKnot 37 = .ok (.ifCond .ne 5, 3) := by decide +kernel
theorem dX12_isKnot_40 : decode cX12_isKnot 40 = .ok (.iconst 0, 1) := by decide +kernel
theorem dX12_isKnot_41 : decode cX12_isKnot 41 = .ok (.ireturn, 1) := by decide +kernel
theorem dX12_isKnot_42 : decode cX12_isKnot 42 = .ok (.iinc 3 1, 3) := by decide +kernel
theorem dX12_isKnot_45 : decode cX12_isKnot 45 = .ok (.goto (-35), 3) := by decide +kernel
theorem dX12_isKnot_48 : decode cX12_isKnot 48 = .ok (.iinc 2 1, 3) := by decide +kernel
theorem dX12_isKnot_51 : decode cX12_isKnot 51 = .ok (.goto (-49), 3) := by decide +kernel
theorem dX12_isKnot_54 : decode cX12_isKnot 54 = .ok (.iconst 1, 1) := by decide +kernel
theorem dX12_isKnot_55 : decode cX12_isKnot 55 = .ok (.ireturn, 1) := by decide +kernel
theorem dX12_knotOf_0 : decode cX12_knotOf 0 = .ok (.iconst 0, 1) := by decide +kernel
theorem dX12_knotOf_1 : decode cX12_knotOf 1 = .ok (.istore_n 1, 1) := by decide +kernel
theorem dX12_knotOf_2 : decode cX12_knotOf 2 = .ok (.iconst 0, 1) := by decide +kernel
theorem dX12_knotOf_3 : decode cX12_knotOf 3 = .ok (.istore_n 2, 1) := by decide +kernel
theorem dX12_knotOf_4 : decode cX12_knotOf 4 = .ok (.iconst 1, 1) := by decide +kernel
theorem dX12_knotOf_5 : decode cX12_knotOf 5 = .ok (.istore_n 3, 1) := by decide +kernel
theorem dX12_knotOf_6 : decode cX12_knotOf 6 = .ok (.iload_n 3, 1) := by decide +kernel
theorem dX12_knotOf_7 : decode cX12_knotOf 7 = .ok (.sipush 1024, 3) := by decide +kernel
theorem dX12_knotOf_10 : decode cX12_knotOf 10 = .ok (.if_icmp .ge 35, 3) := by decide +kernel
theorem dX12_knotOf_13 : decode cX12_knotOf 13 = .ok (.aload_n 0, 1) := by decide +kernel
theorem dX12_knotOf_14 : decode cX12_knotOf 14 = .ok (.iload_n 3, 1) := by decide +kernel
theorem dX12_knotOf_15 : decode cX12_knotOf 15 = .ok (.invokevirtual 147, 3) := by decide +kernel
theorem dX12_knotOf_18 : decode cX12_knotOf 18 = .ok (.istore 4, 2) := by decide +kernel
theorem dX12_knotOf_20 : decode cX12_knotOf 20 = .ok (.iload 4, 2) := by decide +kernel
theorem dX12_knotOf_22 : decode cX12_knotOf 22 = .ok (.iload_n 2, 1) := by decide +kernel
theorem dX12_knotOf_23 : decode cX12_knotOf 23 = .ok (.if_icmp .le 16, 3) := by decide +kernel
theorem dX12_knotOf_26 : decode cX12_knotOf 26 = .ok (.aload_n 0, 1) := by decide +kernel
theorem dX12_knotOf_27 : decode cX12_knotOf 27 = .ok (.iload_n 3, 1) := by decide +kernel
theorem dX12_knotOf_28 : decode cX12_knotOf 28 = .ok (.invokevirtual 217, 3) := by decide +kernel
theorem dX12_knotOf_31 : decode cX12_knotOf 31 = .ok (.ifCond .eq 8, 3) := by decide +kernel
theorem dX12_knotOf_34 : decode cX12_knotOf 34 = .ok (.iload_n 3, 1) := by decide +kernel
theorem dX12_knotOf_35 : decode cX12_knotOf 35 = .ok (.istore_n 1, 1) := by decide +kernel
theorem dX12_knotOf_36 : decode cX12_knotOf 36 = .ok (.iload 4, 2) := by decide +kernel
theorem dX12_knotOf_38 : decode cX12_knotOf 38 = .ok (.istore_n 2, 1) := by decide +kernel
theorem dX12_knotOf_39 : decode cX12_knotOf 39 = .ok (.iinc 3 1, 3) := by decide +kernel
theorem dX12_knotOf_42 : decode cX12_knotOf 42 = .ok (.goto (-36), 3) := by decide +kernel
theorem dX12_knotOf_45 : decode cX12_knotOf 45 = .ok (.iload_n 1, 1) := by decide +kernel
theorem dX12_knotOf_46 : decode cX12_knotOf 46 = .ok (.ireturn, 1) := by decide +kernel
theorem dX12_knot_0 : decode cX12_knot 0 = .ok (.iload_n 1, 1) := by decide +kernel
theorem dX12_knot_1 : decode cX12_knot 1 = .ok (.iconst 0, 1) := by decide +kernel
theorem dX12_knot_2 : decode cX12_knot 2 = .ok (.iconst 1, 1) := by decide +kernel
theorem dX12_knot_3 : decode cX12_knot 3 = .ok (.invokestatic 79, 3) := by decide +kernel
theorem dX12_knot_6 : decode cX12_knot 6 = .ok (.ifCond .ne 6, 3) := by decide +kernel
theorem dX12_knot_9 : decode cX12_knot 9 = .ok (.bipush (-2), 2) := by decide +kernel
theorem dX12_knot_11 : decode cX12_knot 11 = .ok (.ireturn, 1) := by decide +kernel
theorem dX12_knot_12 : decode cX12_knot 12 = .ok (.aload_n 0, 1) := by decide +kernel
theorem dX12_knot_13 : decode cX12_knot 13 = .ok (.invokevirtual 220, 3) := by decide +kernel
theorem dX12_knot_16 : decode cX12_knot 16 = .ok (.istore_n 2, 1) := by decide +kernel
theorem dX12_knot_17 : decode cX12_knot 17 = .ok (.iload_n 1, 1) := by decide +kernel
theorem dX12_knot_18 : decode cX12_knot 18 = .ok (.ifCond .ne 7, 3) := by decide +kernel
theorem dX12_knot_21 : decode cX12_knot 21 = .ok (.iload_n 2, 1) := by decide +kernel
theorem dX12_knot_22 : decode cX12_knot 22 = .ok (.goto 8, 3) := by decide +kernel
theorem dX12_knot_25 : decode cX12_knot 25 = .ok (.aload_n 0, 1) := by decide +kernel
theorem dX12_knot_26 : decode cX12_knot 26 = .ok (.iload_n 2, 1) := by decide +kernel
theorem dX12_knot_27 : decode cX12_knot 27 = .ok (.invokevirtual 147, 3) := by decide +kernel
theorem dX12_knot_30 : decode cX12_knot 30 = .ok (.ireturn, 1) := by decide +kernel
theorem dX12_bound_0 : decode cX12_bound 0 = .ok (.aload_n 0, 1) := by decide +kernel
theorem dX12_bound_1 : decode cX12_bound 1 = .ok (.aload_n 0, 1) := by decide +kernel
theorem dX12_bound_2 : decode cX12_bound 2 = .ok (.invokevirtual 220, 3) := by decide +kernel
theorem dX12_bound_5 : decode cX12_bound 5 = .ok (.invokevirtual 147, 3) := by decide +kernel
theorem dX12_bound_8 : decode cX12_bound 8 = .ok (.istore_n 1, 1) := by decide +kernel
theorem dX12_bound_9 : decode cX12_bound 9 = .ok (.iconst 0, 1) := by decide +kernel
theorem dX12_bound_10 : decode cX12_bound 10 = .ok (.istore_n 2, 1) := by decide +kernel
theorem dX12_bound_11 : decode cX12_bound 11 = .ok (.iload_n 2, 1) := by decide +kernel
theorem dX12_bound_12 : decode cX12_bound 12 = .ok (.aload_n 0, 1) := by decide +kernel
theorem dX12_bound_13 : decode cX12_bound 13 = .ok (.getfield 83, 3) := by decide +kernel
theorem dX12_bound_16 : decode cX12_bound 16 = .ok (.if_icmp .ge 31, 3) := by decide +kernel
theorem dX12_bound_19 : decode cX12_bound 19 = .ok (.aload_n 0, 1) := by decide +kernel
theorem dX12_bound_20 : decode cX12_bound 20 = .ok (.aload_n 0, 1) := by decide +kernel
theorem dX12_bound_21 : decode cX12_bound 21 = .ok (.getfield 19, 3) := by decide +kernel
theorem dX12_bound_24 : decode cX12_bound 24 = .ok (.iload_n 2, 1) := by decide +kernel
theorem dX12_bound_25 : decode cX12_bound 25 = .ok (.iaload, 1) := by decide +kernel
theorem dX12_bound_26 : decode cX12_bound 26 = .ok (.invokevirtual 147, 3) := by decide +kernel
theorem dX12_bound_29 : decode cX12_bound 29 = .ok (.istore_n 3, 1) := by decide +kernel
theorem dX12_bound_30 : decode cX12_bound 30 = .ok (.iload_n 3, 1) := by decide +kernel
theorem dX12_bound_31 : decode cX12_bound 31 = .ok (.iload_n 1, 1) := by decide +kernel
theorem dX12_bound_32 : decode cX12_bound 32 = .ok (.if_icmp .le 7, 3) := by decide +kernel
theorem dX12_bound_35 : decode cX12_bound 35 = .ok (.iload_n 3, 1) := by decide +kernel
theorem dX12_bound_36 : decode cX12_bound 36 = .ok (.goto 4, 3) := by decide +kernel
theorem dX12_bound_39 : decode cX12_bound 39 = .ok (.iload_n 1, 1) := by decide +kernel
theorem dX12_bound_40 : decode cX12_bound 40 = .ok (.istore_n 1, 1) := by decide +kernel
theorem dX12_bound_41 : decode cX12_bound 41 = .ok (.iinc 2 1, 3) := by decide +kernel
theorem dX12_bound_44 : decode cX12_bound 44 = .ok (.goto (-33), 3) := by decide +kernel
theorem dX12_bound_47 : decode cX12_bound 47 = .ok (.iconst 0, 1) := by decide +kernel
theorem dX12_bound_48 : decode cX12_bound 48 = .ok (.istore_n 2, 1) := by decide +kernel
theorem dX12_bound_49 : decode cX12_bound 49 = .ok (.iload_n 2, 1) := by decide +kernel
theorem dX12_bound_50 : decode cX12_bound 50 = .ok (.aload_n 0, 1) := by decide +kernel
theorem dX12_bound_51 : decode cX12_bound 51 = .ok (.getfield 83, 3) := by decide +kernel
theorem dX12_bound_54 : decode cX12_bound 54 = .ok (.if_icmp .gt 26, 3) := by decide +kernel
theorem dX12_bound_57 : decode cX12_bound 57 = .ok (.aload_n 0, 1) := by decide +kernel
theorem dX12_bound_58 : decode cX12_bound 58 = .ok (.iload_n 2, 1) := by decide +kernel
theorem dX12_bound_59 : decode cX12_bound 59 = .ok (.invokevirtual 211, 3) := by decide +kernel
theorem dX12_bound_62 : decode cX12_bound 62 = .ok (.istore_n 3, 1) := by decide +kernel
theorem dX12_bound_63 : decode cX12_bound 63 = .ok (.iload_n 3, 1) := by decide +kernel
theorem dX12_bound_64 : decode cX12_bound 64 = .ok (.iload_n 1, 1) := by decide +kernel
theorem dX12_bound_65 : decode cX12_bound 65 = .ok (.if_icmp .le 7, 3) := by decide +kernel
theorem dX12_bound_68 : decode cX12_bound 68 = .ok (.iload_n 3, 1) := by decide +kernel
theorem dX12_bound_69 : decode cX12_bound 69 = .ok (.goto 4, 3) := by decide +kernel
theorem dX12_bound_72 : decode cX12_bound 72 = .ok (.iload_n 1, 1) := by decide +kernel
theorem dX12_bound_73 : decode cX12_bound 73 = .ok (.istore_n 1, 1) := by decide +kernel
theorem dX12_bound_74 : decode cX12_bound 74 = .ok (.iinc 2 1, 3) := by decide +kernel
theorem dX12_bound_77 : decode cX12_bound 77 = .ok (.goto (-28), 3) := by decide +kernel
theorem dX12_bound_80 : decode cX12_bound 80 = .ok (.iload_n 1, 1) := by decide +kernel
theorem dX12_bound_81 : decode cX12_bound 81 = .ok (.ireturn, 1) := by decide +kernel
theorem dX12_layParts_0 : decode cX12_layParts 0 = .ok (.iconst 0, 1) := by decide +kernel
theorem dX12_layParts_1 : decode cX12_layParts 1 = .ok (.istore_n 1, 1) := by decide +kernel
theorem dX12_layParts_2 : decode cX12_layParts 2 = .ok (.iload_n 1, 1) := by decide +kernel
theorem dX12_layParts_3 : decode cX12_layParts 3 = .ok (.aload_n 0, 1) := by decide +kernel
theorem dX12_layParts_4 : decode cX12_layParts 4 = .ok (.getfield 83, 3) := by decide +kernel
theorem dX12_layParts_7 : decode cX12_layParts 7 = .ok (.if_icmp .ge 16, 3) := by decide +kernel
theorem dX12_layParts_10 : decode cX12_layParts 10 = .ok (.aload_n 0, 1) := by decide +kernel
theorem dX12_layParts_11 : decode cX12_layParts 11 = .ok (.getfield 64, 3) := by decide +kernel
theorem dX12_layParts_14 : decode cX12_layParts 14 = .ok (.iload_n 1, 1) := by decide +kernel
theorem dX12_layParts_15 : decode cX12_layParts 15 = .ok (.iload_n 1, 1) := by decide +kernel
theorem dX12_layParts_16 : decode cX12_layParts 16 = .ok (.iastore, 1) := by decide +kernel
theorem dX12_layParts_17 : decode cX12_layParts 17 = .ok (.iinc 1 1, 3) := by decide +kernel
theorem dX12_layParts_20 : decode cX12_layParts 20 = .ok (.goto (-18), 3) := by decide +kernel
theorem dX12_layParts_23 : decode cX12_layParts 23 = .ok (.iconst 1, 1) := by decide +kernel
theorem dX12_layParts_24 : decode cX12_layParts 24 = .ok (.istore_n 1, 1) := by decide +kernel
theorem dX12_layParts_25 : decode cX12_layParts 25 = .ok (.iload_n 1, 1) := by decide +kernel
theorem dX12_layParts_26 : decode cX12_layParts 26 = .ok (.ifCond .eq 85, 3) := by decide +kernel
theorem dX12_layParts_29 : decode cX12_layParts 29 = .ok (.iconst 0, 1) := by decide +kernel
theorem dX12_layParts_30 : decode cX12_layParts 30 = .ok (.istore_n 1, 1) := by decide +kernel
theorem dX12_layParts_31 : decode cX12_layParts 31 = .ok (.iconst 0, 1) := by decide +kernel
theorem dX12_layParts_32 : decode cX12_layParts 32 = .ok (.istore_n 2, 1) := by decide +kernel
theorem dX12_layParts_33 : decode cX12_layParts 33 = .ok (.iload_n 2, 1) := by decide +kernel
theorem dX12_layParts_34 : decode cX12_layParts 34 = .ok (.aload_n 0, 1) := by decide +kernel
theorem dX12_layParts_35 : decode cX12_layParts 35 = .ok (.getfield 83, 3) := by decide +kernel
theorem dX12_layParts_38 : decode cX12_layParts 38 = .ok (.if_icmp .ge 70, 3) := by decide +kernel
theorem dX12_layParts_41 : decode cX12_layParts 41 = .ok (.iconst 0, 1) := by decide +kernel
theorem dX12_layParts_42 : decode cX12_layParts 42 = .ok (.istore_n 3, 1) := by decide +kernel
theorem dX12_layParts_43 : decode cX12_layParts 43 = .ok (.iload_n 3, 1) := by decide +kernel
theorem dX12_layParts_44 : decode cX12_layParts 44 = .ok (.aload_n 0, 1) := by decide +kernel
theorem dX12_layParts_45 : decode cX12_layParts 45 = .ok (.getfield 83, 3) := by decide +kernel
theorem dX12_layParts_48 : decode cX12_layParts 48 = .ok (.if_icmp .ge 54, 3) := by decide +kernel
theorem dX12_layParts_51 : decode cX12_layParts 51 = .ok (.aload_n 0, 1) := by decide +kernel
theorem dX12_layParts_52 : decode cX12_layParts 52 = .ok (.getfield 19, 3) := by decide +kernel
theorem dX12_layParts_55 : decode cX12_layParts 55 = .ok (.iload_n 2, 1) := by decide +kernel
theorem dX12_layParts_56 : decode cX12_layParts 56 = .ok (.iaload, 1) := by decide +kernel
theorem dX12_layParts_57 : decode cX12_layParts 57 = .ok (.aload_n 0, 1) := by decide +kernel
theorem dX12_layParts_58 : decode cX12_layParts 58 = .ok (.getfield 19, 3) := by decide +kernel
theorem dX12_layParts_61 : decode cX12_layParts 61 = .ok (.iload_n 3, 1) := by decide +kernel
theorem dX12_layParts_62 : decode cX12_layParts 62 = .ok (.iaload, 1) := by decide +kernel
theorem dX12_layParts_63 : decode cX12_layParts 63 = .ok (.iand, 1) := by decide +kernel
theorem dX12_layParts_64 : decode cX12_layParts 64 = .ok (.ifCond .eq 32, 3) := by decide +kernel
theorem dX12_layParts_67 : decode cX12_layParts 67 = .ok (.aload_n 0, 1) := by decide +kernel
theorem dX12_layParts_68 : decode cX12_layParts 68 = .ok (.getfield 64, 3) := by decide +kernel
theorem dX12_layParts_71 : decode cX12_layParts 71 = .ok (.iload_n 3, 1) := by decide +kernel
theorem dX12_layParts_72 : decode cX12_layParts 72 = .ok (.iaload, 1) := by decide +kernel
theorem dX12_layParts_73 : decode cX12_layParts 73 = .ok (.aload_n 0, 1) := by decide +kernel
theorem dX12_layParts_74 : decode cX12_layParts 74 = .ok (.getfield 64, 3) := by decide +kernel
theorem dX12_layParts_77 : decode cX12_layParts 77 = .ok (.iload_n 2, 1) := by decide +kernel
theorem dX12_layParts_78 : decode cX12_layParts 78 = .ok (.iaload, 1) := by decide +kernel
theorem dX12_layParts_79 : decode cX12_layParts 79 = .ok (.if_icmp .ge 17, 3) := by decide +kernel
theorem dX12_layParts_82 : decode cX12_layParts 82 = .ok (.aload_n 0, 1) := by decide +kernel
theorem dX12_layParts_83 : decode cX12_layParts 83 = .ok (.getfield 64, 3) := by decide +kernel
theorem dX12_layParts_86 : decode cX12_layParts 86 = .ok (.iload_n 2, 1) := by decide +kernel
theorem dX12_layParts_87 : decode cX12_layParts 87 = .ok (.aload_n 0, 1) := by decide +kernel
theorem dX12_layParts_88 : decode cX12_layParts 88 = .ok (.getfield 64, 3) := by decide +kernel
theorem dX12_layParts_91 : decode cX12_layParts 91 = .ok (.iload_n 3, 1) := by decide +kernel
theorem dX12_layParts_92 : decode cX12_layParts 92 = .ok (.iaload, 1) := by decide +kernel
theorem dX12_layParts_93 : decode cX12_layParts 93 = .ok (.iastore, 1) := by decide +kernel
theorem dX12_layParts_94 : decode cX12_layParts 94 = .ok (.iconst 1, 1) := by decide +kernel
theorem dX12_layParts_95 : decode cX12_layParts 95 = .ok (.istore_n 1, 1) := by decide +kernel
theorem dX12_layParts_96 : decode cX12_layParts 96 = .ok (.iinc 3 1, 3) := by decide +kernel
theorem dX12_layParts_99 : decode cX12_layParts 99 = .ok (.goto (-56), 3) := by decide +kernel
theorem dX12_layParts_102 : decode cX12_layParts 102 = .ok (.iinc 2 1, 3) := by decide +kernel
theorem dX12_layParts_105 : decode cX12_layParts 105 = .ok (.goto (-72), 3) := by decide +kernel
theorem dX12_layParts_108 : decode cX12_layParts 108 = .ok (.goto (-83), 3) := by decide +kernel
theorem dX12_layParts_111 : decode cX12_layParts 111 = .ok (.return_, 1) := by decide +kernel
theorem dX12_part_0 : decode cX12_part 0 = .ok (.iload_n 1, 1) := by decide +kernel
theorem dX12_part_1 : decode cX12_part 1 = .ok (.iconst (-1), 1) := by decide +kernel
theorem dX12_part_2 : decode cX12_part 2 = .ok (.if_icmp .eq 13, 3) := by decide +kernel
theorem dX12_part_5 : decode cX12_part 5 = .ok (.aload_n 0, 1) := by decide +kernel
theorem dX12_part_6 : decode cX12_part 6 = .ok (.iload_n 1, 1) := by decide +kernel
theorem dX12_part_7 : decode cX12_part 7 = .ok (.invokevirtual 137, 3) := by decide +kernel
theorem dX12_part_10 : decode cX12_part 10 = .ok (.ifCond .ne 5, 3) := by decide +kernel
theorem dX12_part_13 : decode cX12_part 13 = .ok (.iconst (-1), 1) := by decide +kernel
theorem dX12_part_14 : decode cX12_part 14 = .ok (.ireturn, 1) := by decide +kernel
theorem dX12_part_15 : decode cX12_part 15 = .ok (.aload_n 0, 1) := by decide +kernel
theorem dX12_part_16 : decode cX12_part 16 = .ok (.invokevirtual 223, 3) := by decide +kernel
theorem dX12_part_19 : decode cX12_part 19 = .ok (.iload_n 1, 1) := by decide +kernel
theorem dX12_part_20 : decode cX12_part 20 = .ok (.ifCond .lt 10, 3) := by decide +kernel
theorem dX12_part_23 : decode cX12_part 23 = .ok (.aload_n 0, 1) := by decide +kernel
theorem dX12_part_24 : decode cX12_part 24 = .ok (.getfield 64, 3) := by decide +kernel
theorem dX12_part_27 : decode cX12_part 27 = .ok (.iload_n 1, 1) := by decide +kernel
theorem dX12_part_28 : decode cX12_part 28 = .ok (.iaload, 1) := by decide +kernel
theorem dX12_part_29 : decode cX12_part 29 = .ok (.ireturn, 1) := by decide +kernel
theorem dX12_part_30 : decode cX12_part 30 = .ok (.iconst 0, 1) := by decide +kernel
theorem dX12_part_31 : decode cX12_part 31 = .ok (.istore_n 2, 1) := by decide +kernel
theorem dX12_part_32 : decode cX12_part 32 = .ok (.iconst 0, 1) := by decide +kernel
theorem dX12_part_33 : decode cX12_part 33 = .ok (.istore_n 3, 1) := by decide +kernel
theorem dX12_part_34 : decode cX12_part 34 = .ok (.iload_n 3, 1) := by decide +kernel
theorem dX12_part_35 : decode cX12_part 35 = .ok (.aload_n 0, 1) := by decide +kernel
theorem dX12_part_36 : decode cX12_part 36 = .ok (.getfield 83, 3) := by decide +kernel
theorem dX12_part_39 : decode cX12_part 39 = .ok (.if_icmp .ge 27, 3) := by decide +kernel
theorem dX12_part_42 : decode cX12_part 42 = .ok (.iload_n 2, 1) := by decide +kernel
theorem dX12_part_43 : decode cX12_part 43 = .ok (.aload_n 0, 1) := by decide +kernel
theorem dX12_part_44 : decode cX12_part 44 = .ok (.getfield 64, 3) := by decide +kernel
theorem dX12_part_47 : decode cX12_part 47 = .ok (.iload_n 3, 1) := by decide +kernel
theorem dX12_part_48 : decode cX12_part 48 = .ok (.iaload, 1) := by decide +kernel
theorem dX12_part_49 : decode cX12_part 49 = .ok (.iload_n 3, 1) := by decide +kernel
theorem dX12_part_50 : decode cX12_part 50 = .ok (.if_icmp .ne 7, 3) := by decide +kernel
theorem dX12_part_53 : decode cX12_part 53 = .ok (.iconst 1, 1) := by decide +kernel
theorem dX12_part_54 : decode cX12_part 54 = .ok (.goto 4, 3) := by decide +kernel
theorem dX12_part_57 : decode cX12_part 57 = .ok (.iconst 0, 1) := by decide +kernel
theorem dX12_part_58 : decode cX12_part 58 = .ok (.iadd, 1) := by decide +kernel
theorem dX12_part_59 : decode cX12_part 59 = .ok (.istore_n 2, 1) := by decide +kernel
theorem dX12_part_60 : decode cX12_part 60 = .ok (.iinc 3 1, 3) := by decide +kernel
theorem dX12_part_63 : decode cX12_part 63 = .ok (.goto (-29), 3) := by decide +kernel
theorem dX12_part_66 : decode cX12_part 66 = .ok (.iload_n 2, 1) := by decide +kernel
theorem dX12_part_67 : decode cX12_part 67 = .ok (.ireturn, 1) := by decide +kernel
theorem dX12_within_0 : decode cX12_within 0 = .ok (.iconst 0, 1) := by decide +kernel
theorem dX12_within_1 : decode cX12_within 1 = .ok (.istore_n 1, 1) := by decide +kernel
theorem dX12_within_2 : decode cX12_within 2 = .ok (.iconst 0, 1) := by decide +kernel
theorem dX12_within_3 : decode cX12_within 3 = .ok (.istore_n 2, 1) := by decide +kernel
theorem dX12_within_4 : decode cX12_within 4 = .ok (.iload_n 2, 1) := by decide +kernel
theorem dX12_within_5 : decode cX12_within 5 = .ok (.aload_n 0, 1) := by decide +kernel
theorem dX12_within_6 : decode cX12_within 6 = .ok (.getfield 83, 3) := by decide +kernel
theorem dX12_within_9 : decode cX12_within 9 = .ok (.if_icmp .ge 90, 3) := by decide +kernel
theorem dX12_within_12 : decode cX12_within 12 = .ok (.iconst 0, 1) := by decide +kernel
theorem dX12_within_13 : decode cX12_within 13 = .ok (.istore_n 3, 1) := by decide +kernel
theorem dX12_within_14 : decode cX12_within 14 = .ok (.iload_n 3, 1) := by decide +kernel
theorem dX12_within_15 : decode cX12_within 15 = .ok (.aload_n 0, 1) := by decide +kernel
theorem dX12_within_16 : decode cX12_within 16 = .ok (.getfield 83, 3) := by decide +kernel
theorem dX12_within_19 : decode cX12_within 19 = .ok (.if_icmp .ge 74, 3) := by decide +kernel
theorem dX12_within_22 : decode cX12_within 22 = .ok (.iload_n 2, 1) := by decide +kernel
theorem dX12_within_23 : decode cX12_within 23 = .ok (.iload_n 3, 1) := by decide +kernel
theorem dX12_within_24 : decode cX12_within 24 = .ok (.if_icmp .eq 45, 3) := by decide +kernel
theorem dX12_within_27 : decode cX12_within 27 = .ok (.aload_n 0, 1) := by decide +kernel
theorem dX12_within_28 : decode cX12_within 28 = .ok (.getfield 19, 3) := by decide +kernel
theorem dX12_within_31 : decode cX12_within 31 = .ok (.iload_n 2, 1) := by decide +kernel
theorem dX12_within_32 : decode cX12_within 32 = .ok (.iaload, 1) := by decide +kernel
theorem dX12_within_33 : decode cX12_within 33 = .ok (.aload_n 0, 1) := by decide +kernel
theorem dX12_within_34 : decode cX12_within 34 = .ok (.getfield 19, 3) := by decide +kernel
theorem dX12_within_37 : decode cX12_within 37 = .ok (.iload_n 3, 1) := by decide +kernel
theorem dX12_within_38 : decode cX12_within 38 = .ok (.iaload, 1) := by decide +kernel
theorem dX12_within_39 : decode cX12_within 39 = .ok (.iconst (-1), 1) := by decide +kernel
theorem dX12_within_40 : decode cX12_within 40 = .ok (.ixor, 1) := by decide +kernel
theorem dX12_within_41 : decode cX12_within 41 = .ok (.iand, 1) := by decide +kernel
theorem dX12_within_42 : decode cX12_within 42 = .ok (.ifCond .ne 27, 3) := by decide +kernel
theorem dX12_within_45 : decode cX12_within 45 = .ok (.aload_n 0, 1) := by decide +kernel
theorem dX12_within_46 : decode cX12_within 46 = .ok (.getfield 19, 3) := by decide +kernel
theorem dX12_within_49 : decode cX12_within 49 = .ok (.iload_n 2, 1) := by decide +kernel
theorem dX12_within_50 : decode cX12_within 50 = .ok (.iaload, 1) := by decide +kernel
theorem dX12_within_51 : decode cX12_within 51 = .ok (.aload_n 0, 1) := by decide +kernel
theorem dX12_within_52 : decode cX12_within 52 = .ok (.getfield 19, 3) := by decide +kernel
theorem dX12_within_55 : decode cX12_within 55 = .ok (.iload_n 3, 1) := by decide +kernel
theorem dX12_within_56 : decode cX12_within 56 = .ok (.iaload, 1) := by decide +kernel
theorem dX12_within_57 : decode cX12_within 57 = .ok (.if_icmp .ne 8, 3) := by decide +kernel
theorem dX12_within_60 : decode cX12_within 60 = .ok (.iload_n 3, 1) := by decide +kernel
theorem dX12_within_61 : decode cX12_within 61 = .ok (.iload_n 2, 1) := by decide +kernel
theorem dX12_within_62 : decode cX12_within 62 = .ok (.if_icmp .ge 7, 3) := by decide +kernel
theorem dX12_within_65 : decode cX12_within 65 = .ok (.iconst 1, 1) := by decide +kernel
theorem dX12_within_66 : decode cX12_within 66 = .ok (.goto 4, 3) := by decide +kernel
theorem dX12_within_69 : decode cX12_within 69 = .ok (.iconst 0, 1) := by decide +kernel
theorem dX12_within_70 : decode cX12_within 70 = .ok (.istore 4, 2) := by decide +kernel
theorem dX12_within_72 : decode cX12_within 72 = .ok (.iload_n 1, 1) := by decide +kernel
theorem dX12_within_73 : decode cX12_within 73 = .ok (.iload 4, 2) := by decide +kernel
theorem dX12_within_75 : decode cX12_within 75 = .ok (.ifCond .eq 9, 3) := by decide +kernel
theorem dX12_within_78 : decode cX12_within 78 = .ok (.iconst 1, 1) := by decide +kernel
theorem dX12_within_79 : decode cX12_within 79 = .ok (.iload_n 2, 1) := by decide +kernel
theorem dX12_within_80 : decode cX12_within 80 = .ok (.ishl, 1) := by decide +kernel
theorem dX12_within_81 : decode cX12_within 81 = .ok (.goto 4, 3) := by decide +kernel
theorem dX12_within_84 : decode cX12_within 84 = .ok (.iconst 0, 1) := by decide +kernel
theorem dX12_within_85 : decode cX12_within 85 = .ok (.ior, 1) := by decide +kernel
theorem dX12_within_86 : decode cX12_within 86 = .ok (.istore_n 1, 1) := by decide +kernel
theorem dX12_within_87 : decode cX12_within 87 = .ok (.iinc 3 1, 3) := by decide +kernel
theorem dX12_within_90 : decode cX12_within 90 = .ok (.goto (-76), 3) := by decide +kernel
theorem dX12_within_93 : decode cX12_within 93 = .ok (.iinc 2 1, 3) := by decide +kernel
theorem dX12_within_96 : decode cX12_within 96 = .ok (.goto (-92), 3) := by decide +kernel
theorem dX12_within_99 : decode cX12_within 99 = .ok (.iload_n 1, 1) := by decide +kernel
theorem dX12_within_100 : decode cX12_within 100 = .ok (.ireturn, 1) := by decide +kernel
theorem dX12_dislikes_0 : decode cX12_dislikes 0 = .ok (.aload_n 0, 1) := by decide +kernel
theorem dX12_dislikes_1 : decode cX12_dislikes 1 = .ok (.aload_n 0, 1) := by decide +kernel
theorem dX12_dislikes_2 : decode cX12_dislikes 2 = .ok (.getfield 19, 3) := by decide +kernel
theorem dX12_dislikes_5 : decode cX12_dislikes 5 = .ok (.iload_n 3, 1) := by decide +kernel
theorem dX12_dislikes_6 : decode cX12_dislikes 6 = .ok (.iaload, 1) := by decide +kernel
theorem dX12_dislikes_7 : decode cX12_dislikes 7 = .ok (.aload_n 0, 1) := by decide +kernel
theorem dX12_dislikes_8 : decode cX12_dislikes 8 = .ok (.aload_n 0, 1) := by decide +kernel
theorem dX12_dislikes_9 : decode cX12_dislikes 9 = .ok (.invokevirtual 134, 3) := by decide +kernel
theorem dX12_dislikes_12 : decode cX12_dislikes 12 = .ok (.iload_n 2, 1) := by decide +kernel
theorem dX12_dislikes_13 : decode cX12_dislikes 13 = .ok (.iconst (-1), 1) := by decide +kernel
theorem dX12_dislikes_14 : decode cX12_dislikes 14 = .ok (.ixor, 1) := by decide +kernel
theorem dX12_dislikes_15 : decode cX12_dislikes 15 = .ok (.iand, 1) := by decide +kernel
theorem dX12_dislikes_16 : decode cX12_dislikes 16 = .ok (.iconst 1, 1) := by decide +kernel
theorem dX12_dislikes_17 : decode cX12_dislikes 17 = .ok (.iload_n 3, 1) := by decide +kernel
theorem dX12_dislikes_18 : decode cX12_dislikes 18 = .ok (.ishl, 1) := by decide +kernel
theorem dX12_dislikes_19 : decode cX12_dislikes 19 = .ok (.iconst (-1), 1) := by decide +kernel
theorem dX12_dislikes_20 : decode cX12_dislikes 20 = .ok (.ixor, 1) := by decide +kernel
theorem dX12_dislikes_21 : decode cX12_dislikes 21 = .ok (.iand, 1) := by decide +kernel
theorem dX12_dislikes_22 : decode cX12_dislikes 22 = .ok (.invokevirtual 171, 3) := by decide +kernel
theorem dX12_dislikes_25 : decode cX12_dislikes 25 = .ok (.iconst (-1), 1) := by decide +kernel
theorem dX12_dislikes_26 : decode cX12_dislikes 26 = .ok (.ixor, 1) := by decide +kernel
theorem dX12_dislikes_27 : decode cX12_dislikes 27 = .ok (.iand, 1) := by decide +kernel
theorem dX12_dislikes_28 : decode cX12_dislikes 28 = .ok (.invokevirtual 147, 3) := by decide +kernel
theorem dX12_dislikes_31 : decode cX12_dislikes 31 = .ok (.istore 4, 2) := by decide +kernel
theorem dX12_dislikes_33 : decode cX12_dislikes 33 = .ok (.aload_n 0, 1) := by decide +kernel
theorem dX12_dislikes_34 : decode cX12_dislikes 34 = .ok (.aload_n 0, 1) := by decide +kernel
theorem dX12_dislikes_35 : decode cX12_dislikes 35 = .ok (.getfield 19, 3) := by decide +kernel
theorem dX12_dislikes_38 : decode cX12_dislikes 38 = .ok (.iload_n 3, 1) := by decide +kernel
theorem dX12_dislikes_39 : decode cX12_dislikes 39 = .ok (.iaload, 1) := by decide +kernel
theorem dX12_dislikes_40 : decode cX12_dislikes 40 = .ok (.aload_n 0, 1) := by decide +kernel
theorem dX12_dislikes_41 : decode cX12_dislikes 41 = .ok (.iload_n 2, 1) := by decide +kernel
theorem dX12_dislikes_42 : decode cX12_dislikes 42 = .ok (.invokevirtual 171, 3) := by decide +kernel
theorem dX12_dislikes_45 : decode cX12_dislikes 45 = .ok (.iconst (-1), 1) := by decide +kernel
theorem dX12_dislikes_46 : decode cX12_dislikes 46 = .ok (.ixor, 1) := by decide +kernel
theorem dX12_dislikes_47 : decode cX12_dislikes 47 = .ok (.iand, 1) := by decide +kernel
theorem dX12_dislikes_48 : decode cX12_dislikes 48 = .ok (.invokevirtual 147, 3) := by decide +kernel
theorem dX12_dislikes_51 : decode cX12_dislikes 51 = .ok (.istore 5, 2) := by decide +kernel
theorem dX12_dislikes_53 : decode cX12_dislikes 53 = .ok (.iload_n 1, 1) := by decide +kernel
theorem dX12_dislikes_54 : decode cX12_dislikes 54 = .ok (.ifCond .ne 9, 3) := by decide +kernel
theorem dX12_dislikes_57 : decode cX12_dislikes 57 = .ok (.iload 4, 2) := by decide +kernel
theorem dX12_dislikes_59 : decode cX12_dislikes 59 = .ok (.ineg, 1) := by decide +kernel
theorem dX12_dislikes_60 : decode cX12_dislikes 60 = .ok (.goto 18, 3) := by decide +kernel
theorem dX12_dislikes_63 : decode cX12_dislikes 63 = .ok (.iload_n 1, 1) := by decide +kernel
theorem dX12_dislikes_64 : decode cX12_dislikes 64 = .ok (.iconst 1, 1) := by decide +kernel
theorem dX12_dislikes_65 : decode cX12_dislikes 65 = .ok (.if_icmp .ne 8, 3) := by decide +kernel
theorem dX12_dislikes_68 : decode cX12_dislikes 68 = .ok (.iload 5, 2) := by decide +kernel
theorem dX12_dislikes_70 : decode cX12_dislikes 70 = .ok (.goto 8, 3) := by decide +kernel
theorem dX12_dislikes_73 : decode cX12_dislikes 73 = .ok (.iload 5, 2) := by decide +kernel
theorem dX12_dislikes_75 : decode cX12_dislikes 75 = .ok (.iload 4, 2) := by decide +kernel
theorem dX12_dislikes_77 : decode cX12_dislikes 77 = .ok (.isub, 1) := by decide +kernel
theorem dX12_dislikes_78 : decode cX12_dislikes 78 = .ok (.ireturn, 1) := by decide +kernel
theorem dX12_chosen_0 : decode cX12_chosen 0 = .ok (.bipush (-9), 2) := by decide +kernel
theorem dX12_chosen_2 : decode cX12_chosen 2 = .ok (.istore 4, 2) := by decide +kernel
theorem dX12_chosen_4 : decode cX12_chosen 4 = .ok (.iload_n 2, 1) := by decide +kernel
theorem dX12_chosen_5 : decode cX12_chosen 5 = .ok (.istore 5, 2) := by decide +kernel
theorem dX12_chosen_7 : decode cX12_chosen 7 = .ok (.iconst 0, 1) := by decide +kernel
theorem dX12_chosen_8 : decode cX12_chosen 8 = .ok (.istore 6, 2) := by decide +kernel
theorem dX12_chosen_10 : decode cX12_chosen 10 = .ok (.iload 6, 2) := by decide +kernel
theorem dX12_chosen_12 : decode cX12_chosen 12 = .ok (.aload_n 0, 1) := by decide +kernel
theorem dX12_chosen_13 : decode cX12_chosen 13 = .ok (.getfield 83, 3) := by decide +kernel
theorem dX12_chosen_16 : decode cX12_chosen 16 = .ok (.if_icmp .ge 64, 3) := by decide +kernel
theorem dX12_chosen_19 : decode cX12_chosen 19 = .ok (.iload 5, 2) := by decide +kernel
theorem dX12_chosen_21 : decode cX12_chosen 21 = .ok (.ifCond .le 59, 3) := by decide +kernel
theorem dX12_chosen_24 : decode cX12_chosen 24 = .ok (.aload_n 0, 1) := by decide +kernel
theorem dX12_chosen_25 : decode cX12_chosen 25 = .ok (.aload_n 0, 1) := by decide +kernel
theorem dX12_chosen_26 : decode cX12_chosen 26 = .ok (.invokevirtual 134, 3) := by decide +kernel
theorem dX12_chosen_29 : decode cX12_chosen 29 = .ok (.iload_n 3, 1) := by decide +kernel
theorem dX12_chosen_30 : decode cX12_chosen 30 = .ok (.iload 6, 2) := by decide +kernel
theorem dX12_chosen_32 : decode cX12_chosen 32 = .ok (.invokevirtual 175, 3) := by decide +kernel
theorem dX12_chosen_35 : decode cX12_chosen 35 = .ok (.ifCond .ne 6, 3) := by decide +kernel
theorem dX12_chosen_38 : decode cX12_chosen 38 = .ok (.goto 36, 3) := by decide +kernel
theorem dX12_chosen_41 : decode cX12_chosen 41 = .ok (.iinc 5 (-1), 3) := by decide +kernel
theorem dX12_chosen_44 : decode cX12_chosen 44 = .ok (.iload 4, 2) := by decide +kernel
theorem dX12_chosen_46 : decode cX12_chosen 46 = .ok (.bipush (-9), 2) := by decide +kernel
theorem dX12_chosen_48 : decode cX12_chosen 48 = .ok (.if_icmp .eq 22, 3) := by decide +kernel
theorem dX12_chosen_51 : decode cX12_chosen 51 = .ok (.aload_n 0, 1) := by decide +kernel
theorem dX12_chosen_52 : decode cX12_chosen 52 = .ok (.iload_n 1, 1) := by decide +kernel
theorem dX12_chosen_53 : decode cX12_chosen 53 = .ok (.iload_n 3, 1) := by decide +kernel
theorem dX12_chosen_54 : decode cX12_chosen 54 = .ok (.iload 6, 2) := by decide +kernel
theorem dX12_chosen_56 : decode cX12_chosen 56 = .ok (.invokevirtual 226, 3) := by decide +kernel
theorem dX12_chosen_59 : decode cX12_chosen 59 = .ok (.aload_n 0, 1) := by decide +kernel
theorem dX12_chosen_60 : decode cX12_chosen 60 = .ok (.iload_n 1, 1) := by decide +kernel
theorem dX12_chosen_61 : decode cX12_chosen 61 = .ok (.iload_n 3, 1) := by decide +kernel
theorem dX12_chosen_62 : decode cX12_chosen 62 = .ok (.iload 4, 2) := by decide +kernel
theorem dX12_chosen_64 : decode cX12_chosen 64 = .ok (.invokevirtual 226, 3) := by decide +kernel
theorem dX12_chosen_67 : decode cX12_chosen 67 = .ok (.if_icmp .ge 7, 3) := by decide +kernel
theorem dX12_chosen_70 : decode cX12_chosen 70 = .ok (.iload 6, 2) := by decide +kernel
theorem dX12_chosen_72 : decode cX12_chosen 72 = .ok (.istore 4, 2) := by decide +kernel
theorem dX12_chosen_74 : decode cX12_chosen 74 = .ok (.iinc 6 1, 3) := by decide +kernel
theorem dX12_chosen_77 : decode cX12_chosen 77 = .ok (.goto (-67), 3) := by decide +kernel
theorem dX12_chosen_80 : decode cX12_chosen 80 = .ok (.iload 4, 2) := by decide +kernel
theorem dX12_chosen_82 : decode cX12_chosen 82 = .ok (.ireturn, 1) := by decide +kernel
theorem dX12_build_0 : decode cX12_build 0 = .ok (.iload_n 1, 1) := by decide +kernel
theorem dX12_build_1 : decode cX12_build 1 = .ok (.iconst 0, 1) := by decide +kernel
theorem dX12_build_2 : decode cX12_build 2 = .ok (.iconst 2, 1) := by decide +kernel
theorem dX12_build_3 : decode cX12_build 3 = .ok (.invokestatic 79, 3) := by decide +kernel
theorem dX12_build_6 : decode cX12_build 6 = .ok (.ifCond .eq 13, 3) := by decide +kernel
theorem dX12_build_9 : decode cX12_build 9 = .ok (.iload_n 2, 1) := by decide +kernel
theorem dX12_build_10 : decode cX12_build 10 = .ok (.iconst 1, 1) := by decide +kernel
theorem dX12_build_11 : decode cX12_build 11 = .ok (.bipush 9, 2) := by decide +kernel
theorem dX12_build_13 : decode cX12_build 13 = .ok (.invokestatic 79, 3) := by decide +kernel
theorem dX12_build_16 : decode cX12_build 16 = .ok (.ifCond .ne 6, 3) := by decide +kernel
theorem dX12_build_19 : decode cX12_build 19 = .ok (.bipush (-2), 2) := by decide +kernel
theorem dX12_build_21 : decode cX12_build 21 = .ok (.ireturn, 1) := by decide +kernel
theorem dX12_build_22 : decode cX12_build 22 = .ok (.aload_n 0, 1) := by decide +kernel
theorem dX12_build_23 : decode cX12_build 23 = .ok (.getfield 83, 3) := by decide +kernel
theorem dX12_build_26 : decode cX12_build 26 = .ok (.ifCond .ne 6, 3) := by decide +kernel
theorem dX12_build_29 : decode cX12_build 29 = .ok (.bipush (-3), 2) := by decide +kernel
theorem dX12_build_31 : decode cX12_build 31 = .ok (.ireturn, 1) := by decide +kernel
theorem dX12_build_32 : decode cX12_build 32 = .ok (.iconst 0, 1) := by decide +kernel
theorem dX12_build_33 : decode cX12_build 33 = .ok (.istore_n 3, 1) := by decide +kernel
theorem dX12_build_34 : decode cX12_build 34 = .ok (.iconst 0, 1) := by decide +kernel
theorem dX12_build_35 : decode cX12_build 35 = .ok (.istore 4, 2) := by decide +kernel
theorem dX12_build_37 : decode cX12_build 37 = .ok (.iload 4, 2) := by decide +kernel
theorem dX12_build_39 : decode cX12_build 39 = .ok (.aload_n 0, 1) := by decide +kernel
theorem dX12_build_40 : decode cX12_build 40 = .ok (.getfield 83, 3) := by decide +kernel
theorem dX12_build_43 : decode cX12_build 43 = .ok (.if_icmp .ge 35, 3) := by decide +kernel
theorem dX12_build_46 : decode cX12_build 46 = .ok (.aload_n 0, 1) := by decide +kernel
theorem dX12_build_47 : decode cX12_build 47 = .ok (.getfield 46, 3) := by decide +kernel
theorem dX12_build_50 : decode cX12_build 50 = .ok (.iload 4, 2) := by decide +kernel
theorem dX12_build_52 : decode cX12_build 52 = .ok (.aload_n 0, 1) := by decide +kernel
theorem dX12_build_53 : decode cX12_build 53 = .ok (.iload_n 1, 1) := by decide +kernel
theorem dX12_build_54 : decode cX12_build 54 = .ok (.iload_n 2, 1) := by decide +kernel
theorem dX12_build_55 : decode cX12_build 55 = .ok (.iload_n 3, 1) := by decide +kernel
theorem dX12_build_56 : decode cX12_build 56 = .ok (.invokevirtual 229, 3) := by decide +kernel
theorem dX12_build_59 : decode cX12_build 59 = .ok (.iastore, 1) := by decide +kernel
theorem dX12_build_60 : decode cX12_build 60 = .ok (.iload_n 3, 1) := by decide +kernel
theorem dX12_build_61 : decode cX12_build 61 = .ok (.iconst 1, 1) := by decide +kernel
theorem dX12_build_62 : decode cX12_build 62 = .ok (.aload_n 0, 1) := by decide +kernel
theorem dX12_build_63 : decode cX12_build 63 = .ok (.getfield 46, 3) := by decide +kernel
theorem dX12_build_66 : decode cX12_build 66 = .ok (.iload 4, 2) := by decide +kernel
theorem dX12_build_68 : decode cX12_build 68 = .ok (.iaload, 1) := by decide +kernel
theorem dX12_build_69 : decode cX12_build 69 = .ok (.ishl, 1) := by decide +kernel
theorem dX12_build_70 : decode cX12_build 70 = .ok (.ior, 1) := by decide +kernel
theorem dX12_build_71 : decode cX12_build 71 = .ok (.istore_n 3, 1) := by decide +kernel
theorem dX12_build_72 : decode cX12_build 72 = .ok (.iinc 4 1, 3) := by decide +kernel
theorem dX12_build_75 : decode cX12_build 75 = .ok (.goto (-38), 3) := by decide +kernel
theorem dX12_build_78 : decode cX12_build 78 = .ok (.aload_n 0, 1) := by decide +kernel
theorem dX12_build_79 : decode cX12_build 79 = .ok (.iconst 1, 1) := by decide +kernel
theorem dX12_build_80 : decode cX12_build 80 = .ok (.invokevirtual 154, 3) := by decide +kernel
theorem dX12_build_83 : decode cX12_build 83 = .ok (.ireturn, 1) := by decide +kernel
theorem dX12_layMoved_0 : decode cX12_layMoved 0 = .ok (.iconst 0, 1) := by decide +kernel
theorem dX12_layMoved_1 : decode cX12_layMoved 1 = .ok (.istore_n 3, 1) := by decide +kernel
theorem dX12_layMoved_2 : decode cX12_layMoved 2 = .ok (.iload_n 3, 1) := by decide +kernel
theorem dX12_layMoved_3 : decode cX12_layMoved 3 = .ok (.aload_n 0, 1) := by decide +kernel
theorem dX12_layMoved_4 : decode cX12_layMoved 4 = .ok (.getfield 83, 3) := by decide +kernel
theorem dX12_layMoved_7 : decode cX12_layMoved 7 = .ok (.if_icmp .ge 21, 3) := by decide +kernel
theorem dX12_layMoved_10 : decode cX12_layMoved 10 = .ok (.aload_n 0, 1) := by decide +kernel
theorem dX12_layMoved_11 : decode cX12_layMoved 11 = .ok (.getfield 61, 3) := by decide +kernel
theorem dX12_layMoved_14 : decode cX12_layMoved 14 = .ok (.iload_n 3, 1) := by decide +kernel
theorem dX12_layMoved_15 : decode cX12_layMoved 15 = .ok (.aload_n 0, 1) := by decide +kernel
theorem dX12_layMoved_16 : decode cX12_layMoved 16 = .ok (.getfield 46, 3) := by decide +kernel
theorem dX12_layMoved_19 : decode cX12_layMoved 19 = .ok (.iload_n 3, 1) := by decide +kernel
theorem dX12_layMoved_20 : decode cX12_layMoved 20 = .ok (.iaload, 1) := by decide +kernel
theorem dX12_layMoved_21 : decode cX12_layMoved 21 = .ok (.iastore, 1) := by decide +kernel
theorem dX12_layMoved_22 : decode cX12_layMoved 22 = .ok (.iinc 3 1, 3) := by decide +kernel
theorem dX12_layMoved_25 : decode cX12_layMoved 25 = .ok (.goto (-23), 3) := by decide +kernel
theorem dX12_layMoved_28 : decode cX12_layMoved 28 = .ok (.aload_n 0, 1) := by decide +kernel
theorem dX12_layMoved_29 : decode cX12_layMoved 29 = .ok (.getfield 46, 3) := by decide +kernel
theorem dX12_layMoved_32 : decode cX12_layMoved 32 = .ok (.iload_n 1, 1) := by decide +kernel
theorem dX12_layMoved_33 : decode cX12_layMoved 33 = .ok (.iaload, 1) := by decide +kernel
theorem dX12_layMoved_34 : decode cX12_layMoved 34 = .ok (.istore_n 3, 1) := by decide +kernel
theorem dX12_layMoved_35 : decode cX12_layMoved 35 = .ok (.iload_n 1, 1) := by decide +kernel
theorem dX12_layMoved_36 : decode cX12_layMoved 36 = .ok (.istore 4, 2) := by decide +kernel
theorem dX12_layMoved_38 : decode cX12_layMoved 38 = .ok (.iload 4, 2) := by decide +kernel
theorem dX12_layMoved_40 : decode cX12_layMoved 40 = .ok (.iload_n 2, 1) := by decide +kernel
theorem dX12_layMoved_41 : decode cX12_layMoved 41 = .ok (.if_icmp .ge 25, 3) := by decide +kernel
theorem dX12_layMoved_44 : decode cX12_layMoved 44 = .ok (.aload_n 0, 1) := by decide +kernel
theorem dX12_layMoved_45 : decode cX12_layMoved 45 = .ok (.getfield 61, 3) := by decide +kernel
theorem dX12_layMoved_48 : decode cX12_layMoved 48 = .ok (.iload 4, 2) := by decide +kernel
theorem dX12_layMoved_50 : decode cX12_layMoved 50 = .ok (.aload_n 0, 1) := by decide +kernel
theorem dX12_layMoved_51 : decode cX12_layMoved 51 = .ok (.getfield 46, 3) := by decide +kernel
theorem dX12_layMoved_54 : decode cX12_layMoved 54 = .ok (.iload 4, 2) := by decide +kernel
theorem dX12_layMoved_56 : decode cX12_layMoved 56 = .ok (.iconst 1, 1) := by decide +kernel
theorem dX12_layMoved_57 : decode cX12_layMoved 57 = .ok (.iadd, 1) := by decide +kernel
theorem dX12_layMoved_58 : decode cX12_layMoved 58 = .ok (.iaload, 1) := by decide +kernel
theorem dX12_layMoved_59 : decode cX12_layMoved 59 = .ok (.iastore, 1) := by decide +kernel
theorem dX12_layMoved_60 : decode cX12_layMoved 60 = .ok (.iinc 4 1, 3) := by decide +kernel
theorem dX12_layMoved_63 : decode cX12_layMoved 63 = .ok (.goto (-25), 3) := by decide +kernel
theorem dX12_layMoved_66 : decode cX12_layMoved 66 = .ok (.iload_n 1, 1) := by decide +kernel
theorem dX12_layMoved_67 : decode cX12_layMoved 67 = .ok (.istore 4, 2) := by decide +kernel
theorem dX12_layMoved_69 : decode cX12_layMoved 69 = .ok (.iload 4, 2) := by decide +kernel
theorem dX12_layMoved_71 : decode cX12_layMoved 71 = .ok (.iload_n 2, 1) := by decide +kernel
theorem dX12_layMoved_72 : decode cX12_layMoved 72 = .ok (.if_icmp .le 25, 3) := by decide +kernel
theorem dX12_layMoved_75 : decode cX12_layMoved 75 = .ok (.aload_n 0, 1) := by decide +kernel
theorem dX12_layMoved_76 : decode cX12_layMoved 76 = .ok (.getfield 61, 3) := by decide +kernel
theorem dX12_layMoved_79 : decode cX12_layMoved 79 = .ok (.iload 4, 2) := by decide +kernel
theorem dX12_layMoved_81 : decode cX12_layMoved 81 = .ok (.aload_n 0, 1) := by decide +kernel
theorem dX12_layMoved_82 : decode cX12_layMoved 82 = .ok (.getfield 46, 3) := by decide +kernel
theorem dX12_layMoved_85 : decode cX12_layMoved 85 = .ok (.iload 4, 2) := by decide +kernel
theorem dX12_layMoved_87 : decode cX12_layMoved 87 = .ok (.iconst 1, 1) := by decide +kernel
theorem dX12_layMoved_88 : decode cX12_layMoved 88 = .ok (.isub, 1) := by decide +kernel
theorem dX12_layMoved_89 : decode cX12_layMoved 89 = .ok (.iaload, 1) := by decide +kernel
theorem dX12_layMoved_90 : decode cX12_layMoved 90 = .ok (.iastore, 1) := by decide +kernel
theorem dX12_layMoved_91 : decode cX12_layMoved 91 = .ok (.iinc 4 (-1), 3) := by decide +kernel
theorem dX12_layMoved_94 : decode cX12_layMoved 94 = .ok (.goto (-25), 3) := by decide +kernel
theorem dX12_layMoved_97 : decode cX12_layMoved 97 = .ok (.aload_n 0, 1) := by decide +kernel
theorem dX12_layMoved_98 : decode cX12_layMoved 98 = .ok (.getfield 61, 3) := by decide +kernel
theorem dX12_layMoved_101 : decode cX12_layMoved 101 = .ok (.iload_n 2, 1) := by decide +kernel
theorem dX12_layMoved_102 : decode cX12_layMoved 102 = .ok (.iload_n 3, 1) := by decide +kernel
theorem dX12_layMoved_103 : decode cX12_layMoved 103 = .ok (.iastore, 1) := by decide +kernel
theorem dX12_layMoved_104 : decode cX12_layMoved 104 = .ok (.return_, 1) := by decide +kernel
theorem dX12_moveOnce_0 : decode cX12_moveOnce 0 = .ok (.iconst 0, 1) := by decide +kernel
theorem dX12_moveOnce_1 : decode cX12_moveOnce 1 = .ok (.istore_n 1, 1) := by decide +kernel
theorem dX12_moveOnce_2 : decode cX12_moveOnce 2 = .ok (.iload_n 1, 1) := by decide +kernel
theorem dX12_moveOnce_3 : decode cX12_moveOnce 3 = .ok (.aload_n 0, 1) := by decide +kernel
theorem dX12_moveOnce_4 : decode cX12_moveOnce 4 = .ok (.getfield 83, 3) := by decide +kernel
theorem dX12_moveOnce_7 : decode cX12_moveOnce 7 = .ok (.if_icmp .ge 95, 3) := by decide +kernel
theorem dX12_moveOnce_10 : decode cX12_moveOnce 10 = .ok (.iconst 0, 1) := by decide +kernel
theorem dX12_moveOnce_11 : decode cX12_moveOnce 11 = .ok (.istore_n 2, 1) := by decide +kernel
theorem dX12_moveOnce_12 : decode cX12_moveOnce 12 = .ok (.iload_n 2, 1) := by decide +kernel
theorem dX12_moveOnce_13 : decode cX12_moveOnce 13 = .ok (.aload_n 0, 1) := by decide +kernel
theorem dX12_moveOnce_14 : decode cX12_moveOnce 14 = .ok (.getfield 83, 3) := by decide +kernel
theorem dX12_moveOnce_17 : decode cX12_moveOnce 17 = .ok (.if_icmp .ge 79, 3) := by decide +kernel
theorem dX12_moveOnce_20 : decode cX12_moveOnce 20 = .ok (.iload_n 1, 1) := by decide +kernel
theorem dX12_moveOnce_21 : decode cX12_moveOnce 21 = .ok (.iload_n 2, 1) := by decide +kernel
theorem dX12_moveOnce_22 : decode cX12_moveOnce 22 = .ok (.if_icmp .ne 6, 3) := by decide +kernel
theorem dX12_moveOnce_25 : decode cX12_moveOnce 25 = .ok (.goto 65, 3) := by decide +kernel
theorem dX12_moveOnce_28 : decode cX12_moveOnce 28 = .ok (.aload_n 0, 1) := by decide +kernel
theorem dX12_moveOnce_29 : decode cX12_moveOnce 29 = .ok (.iload_n 1, 1) := by decide +kernel
theorem dX12_moveOnce_30 : decode cX12_moveOnce 30 = .ok (.iload_n 2, 1) := by decide +kernel
theorem dX12_moveOnce_31 : decode cX12_moveOnce 31 = .ok (.invokevirtual 232, 3) := by decide +kernel
theorem dX12_moveOnce_34 : decode cX12_moveOnce 34 = .ok (.aload_n 0, 1) := by decide +kernel
theorem dX12_moveOnce_35 : decode cX12_moveOnce 35 = .ok (.aload_n 0, 1) := by decide +kernel
theorem dX12_moveOnce_36 : decode cX12_moveOnce 36 = .ok (.getfield 61, 3) := by decide +kernel
theorem dX12_moveOnce_39 : decode cX12_moveOnce 39 = .ok (.invokevirtual 150, 3) := by decide +kernel
theorem dX12_moveOnce_42 : decode cX12_moveOnce 42 = .ok (.ifCond .eq 48, 3) := by decide +kernel
theorem dX12_moveOnce_45 : decode cX12_moveOnce 45 = .ok (.aload_n 0, 1) := by decide +kernel
theorem dX12_moveOnce_46 : decode cX12_moveOnce 46 = .ok (.aload_n 0, 1) := by decide +kernel
theorem dX12_moveOnce_47 : decode cX12_moveOnce 47 = .ok (.getfield 61, 3) := by decide +kernel
theorem dX12_moveOnce_50 : decode cX12_moveOnce 50 = .ok (.aload_n 0, 1) := by decide +kernel
theorem dX12_moveOnce_51 : decode cX12_moveOnce 51 = .ok (.getfield 46, 3) := by decide +kernel
theorem dX12_moveOnce_54 : decode cX12_moveOnce 54 = .ok (.invokevirtual 201, 3) := by decide +kernel
theorem dX12_moveOnce_57 : decode cX12_moveOnce 57 = .ok (.ifCond .eq 33, 3) := by decide +kernel
theorem dX12_moveOnce_60 : decode cX12_moveOnce 60 = .ok (.iconst 0, 1) := by decide +kernel
theorem dX12_moveOnce_61 : decode cX12_moveOnce 61 = .ok (.istore_n 3, 1) := by decide +kernel
theorem dX12_moveOnce_62 : decode cX12_moveOnce 62 = .ok (.iload_n 3, 1) := by decide +kernel
theorem dX12_moveOnce_63 : decode cX12_moveOnce 63 = .ok (.aload_n 0, 1) := by decide +kernel
theorem dX12_moveOnce_64 : decode cX12_moveOnce 64 = .ok (.getfield 83, 3) := by decide +kernel
theorem dX12_moveOnce_67 : decode cX12_moveOnce 67 = .ok (.if_icmp .ge 21, 3) := by decide +kernel
theorem dX12_moveOnce_70 : decode cX12_moveOnce 70 = .ok (.aload_n 0, 1) := by decide +kernel
theorem dX12_moveOnce_71 : decode cX12_moveOnce 71 = .ok (.getfield 46, 3) := by decide +kernel
theorem dX12_moveOnce_74 : decode cX12_moveOnce 74 = .ok (.iload_n 3, 1) := by decide +kernel
theorem dX12_moveOnce_75 : decode cX12_moveOnce 75 = .ok (.aload_n 0, 1) := by decide +kernel
theorem dX12_moveOnce_76 : decode cX12_moveOnce 76 = .ok (.getfield 61, 3) := by decide +kernel
theorem dX12_moveOnce_79 : decode cX12_moveOnce 79 = .ok (.iload_n 3, 1) := by decide +kernel
theorem dX12_moveOnce_80 : decode cX12_moveOnce 80 = .ok (.iaload, 1) := by decide +kernel
theorem dX12_moveOnce_81 : decode cX12_moveOnce 81 = .ok (.iastore, 1) := by decide +kernel
theorem dX12_moveOnce_82 : decode cX12_moveOnce 82 = .ok (.iinc 3 1, 3) := by decide +kernel
theorem dX12_moveOnce_85 : decode cX12_moveOnce 85 = .ok (.goto (-23), 3) := by decide +kernel
theorem dX12_moveOnce_88 : decode cX12_moveOnce 88 = .ok (.iconst 1, 1) := by decide +kernel
theorem dX12_moveOnce_89 : decode cX12_moveOnce 89 = .ok (.ireturn, 1) := by decide +kernel
theorem dX12_moveOnce_90 : decode cX12_moveOnce 90 = .ok (.iinc 2 1, 3) := by decide +kernel
theorem dX12_moveOnce_93 : decode cX12_moveOnce 93 = .ok (.goto (-81), 3) := by decide +kernel
theorem dX12_moveOnce_96 : decode cX12_moveOnce 96 = .ok (.iinc 1 1, 3) := by decide +kernel
theorem dX12_moveOnce_99 : decode cX12_moveOnce 99 = .ok (.goto (-97), 3) := by decide +kernel
theorem dX12_moveOnce_102 : decode cX12_moveOnce 102 = .ok (.iconst 0, 1) := by decide +kernel
theorem dX12_moveOnce_103 : decode cX12_moveOnce 103 = .ok (.ireturn, 1) := by decide +kernel
theorem dX12_move_0 : decode cX12_move 0 = .ok (.aload_n 0, 1) := by decide +kernel
theorem dX12_move_1 : decode cX12_move 1 = .ok (.iload_n 1, 1) := by decide +kernel
theorem dX12_move_2 : decode cX12_move 2 = .ok (.invokevirtual 157, 3) := by decide +kernel
theorem dX12_move_5 : decode cX12_move 5 = .ok (.ifCond .ne 5, 3) := by decide +kernel
theorem dX12_move_8 : decode cX12_move 8 = .ok (.iconst (-1), 1) := by decide +kernel
theorem dX12_move_9 : decode cX12_move 9 = .ok (.ireturn, 1) := by decide +kernel
theorem dX12_move_10 : decode cX12_move 10 = .ok (.aload_n 0, 1) := by decide +kernel
theorem dX12_move_11 : decode cX12_move 11 = .ok (.iload_n 1, 1) := by decide +kernel
theorem dX12_move_12 : decode cX12_move 12 = .ok (.invokevirtual 160, 3) := by decide +kernel
theorem dX12_move_15 : decode cX12_move 15 = .ok (.aload_n 0, 1) := by decide +kernel
theorem dX12_move_16 : decode cX12_move 16 = .ok (.aload_n 0, 1) := by decide +kernel
theorem dX12_move_17 : decode cX12_move 17 = .ok (.getfield 46, 3) := by decide +kernel
theorem dX12_move_20 : decode cX12_move 20 = .ok (.invokevirtual 150, 3) := by decide +kernel
theorem dX12_move_23 : decode cX12_move 23 = .ok (.ifCond .ne 6, 3) := by decide +kernel
theorem dX12_move_26 : decode cX12_move 26 = .ok (.bipush (-3), 2) := by decide +kernel
theorem dX12_move_28 : decode cX12_move 28 = .ok (.ireturn, 1) := by decide +kernel
theorem dX12_move_29 : decode cX12_move 29 = .ok (.iconst 1, 1) := by decide +kernel
theorem dX12_move_30 : decode cX12_move 30 = .ok (.istore_n 2, 1) := by decide +kernel
theorem dX12_move_31 : decode cX12_move 31 = .ok (.iload_n 2, 1) := by decide +kernel
theorem dX12_move_32 : decode cX12_move 32 = .ok (.ifCond .eq 11, 3) := by decide +kernel
theorem dX12_move_35 : decode cX12_move 35 = .ok (.aload_n 0, 1) := by decide +kernel
theorem dX12_move_36 : decode cX12_move 36 = .ok (.invokevirtual 236, 3) := by decide +kernel
theorem dX12_move_39 : decode cX12_move 39 = .ok (.istore_n 2, 1) := by decide +kernel
theorem dX12_move_40 : decode cX12_move 40 = .ok (.goto (-9), 3) := by decide +kernel
theorem dX12_move_43 : decode cX12_move 43 = .ok (.aload_n 0, 1) := by decide +kernel
theorem dX12_move_44 : decode cX12_move 44 = .ok (.iconst 1, 1) := by decide +kernel
theorem dX12_move_45 : decode cX12_move 45 = .ok (.invokevirtual 154, 3) := by decide +kernel
theorem dX12_move_48 : decode cX12_move 48 = .ok (.ireturn, 1) := by decide +kernel
theorem dX12_moves_0 : decode cX12_moves 0 = .ok (.aload_n 0, 1) := by decide +kernel
theorem dX12_moves_1 : decode cX12_moves 1 = .ok (.iload_n 1, 1) := by decide +kernel
theorem dX12_moves_2 : decode cX12_moves 2 = .ok (.invokevirtual 157, 3) := by decide +kernel
theorem dX12_moves_5 : decode cX12_moves 5 = .ok (.ifCond .ne 5, 3) := by decide +kernel
theorem dX12_moves_8 : decode cX12_moves 8 = .ok (.iconst (-1), 1) := by decide +kernel
theorem dX12_moves_9 : decode cX12_moves 9 = .ok (.ireturn, 1) := by decide +kernel
theorem dX12_moves_10 : decode cX12_moves 10 = .ok (.aload_n 0, 1) := by decide +kernel
theorem dX12_moves_11 : decode cX12_moves 11 = .ok (.iload_n 1, 1) := by decide +kernel
theorem dX12_moves_12 : decode cX12_moves 12 = .ok (.invokevirtual 160, 3) := by decide +kernel
theorem dX12_moves_15 : decode cX12_moves 15 = .ok (.aload_n 0, 1) := by decide +kernel
theorem dX12_moves_16 : decode cX12_moves 16 = .ok (.aload_n 0, 1) := by decide +kernel
theorem dX12_moves_17 : decode cX12_moves 17 = .ok (.getfield 46, 3) := by decide +kernel
theorem dX12_moves_20 : decode cX12_moves 20 = .ok (.invokevirtual 150, 3) := by decide +kernel
theorem dX12_moves_23 : decode cX12_moves 23 = .ok (.ifCond .ne 6, 3) := by decide +kernel
theorem dX12_moves_26 : decode cX12_moves 26 = .ok (.bipush (-3), 2) := by decide +kernel
theorem dX12_moves_28 : decode cX12_moves 28 = .ok (.ireturn, 1) := by decide +kernel
theorem dX12_moves_29 : decode cX12_moves 29 = .ok (.iconst 0, 1) := by decide +kernel
theorem dX12_moves_30 : decode cX12_moves 30 = .ok (.istore_n 2, 1) := by decide +kernel
theorem dX12_moves_31 : decode cX12_moves 31 = .ok (.aload_n 0, 1) := by decide +kernel
theorem dX12_moves_32 : decode cX12_moves 32 = .ok (.invokevirtual 236, 3) := by decide +kernel
theorem dX12_moves_35 : decode cX12_moves 35 = .ok (.ifCond .eq 9, 3) := by decide +kernel
theorem dX12_moves_38 : decode cX12_moves 38 = .ok (.iinc 2 1, 3) := by decide +kernel
theorem dX12_moves_41 : decode cX12_moves 41 = .ok (.goto (-10), 3) := by decide +kernel
theorem dX12_moves_44 : decode cX12_moves 44 = .ok (.iload_n 2, 1) := by decide +kernel
theorem dX12_moves_45 : decode cX12_moves 45 = .ok (.ireturn, 1) := by decide +kernel
theorem dX12_betweenAt_0 : decode cX12_betweenAt 0 = .ok (.aload_n 0, 1) := by decide +kernel
theorem dX12_betweenAt_1 : decode cX12_betweenAt 1 = .ok (.aload_n 0, 1) := by decide +kernel
theorem dX12_betweenAt_2 : decode cX12_betweenAt 2 = .ok (.getfield 46, 3) := by decide +kernel
theorem dX12_betweenAt_5 : decode cX12_betweenAt 5 = .ok (.iload_n 1, 1) := by decide +kernel
theorem dX12_betweenAt_6 : decode cX12_betweenAt 6 = .ok (.invokevirtual 143, 3) := by decide +kernel
theorem dX12_betweenAt_9 : decode cX12_betweenAt 9 = .ok (.aload_n 0, 1) := by decide +kernel
theorem dX12_betweenAt_10 : decode cX12_betweenAt 10 = .ok (.getfield 19, 3) := by decide +kernel
theorem dX12_betweenAt_13 : decode cX12_betweenAt 13 = .ok (.aload_n 0, 1) := by decide +kernel
theorem dX12_betweenAt_14 : decode cX12_betweenAt 14 = .ok (.getfield 46, 3) := by decide +kernel
theorem dX12_betweenAt_17 : decode cX12_betweenAt 17 = .ok (.iload_n 1, 1) := by decide +kernel
theorem dX12_betweenAt_18 : decode cX12_betweenAt 18 = .ok (.iaload, 1) := by decide +kernel
theorem dX12_betweenAt_19 : decode cX12_betweenAt 19 = .ok (.iaload, 1) := by decide +kernel
theorem dX12_betweenAt_20 : decode cX12_betweenAt 20 = .ok (.iconst (-1), 1) := by decide +kernel
theorem dX12_betweenAt_21 : decode cX12_betweenAt 21 = .ok (.ixor, 1) := by decide +kernel
theorem dX12_betweenAt_22 : decode cX12_betweenAt 22 = .ok (.iand, 1) := by decide +kernel
theorem dX12_betweenAt_23 : decode cX12_betweenAt 23 = .ok (.ireturn, 1) := by decide +kernel
theorem dX12_priceOf_0 : decode cX12_priceOf 0 = .ok (.iconst 0, 1) := by decide +kernel
theorem dX12_priceOf_1 : decode cX12_priceOf 1 = .ok (.istore_n 2, 1) := by decide +kernel
theorem dX12_priceOf_2 : decode cX12_priceOf 2 = .ok (.iconst 0, 1) := by decide +kernel
theorem dX12_priceOf_3 : decode cX12_priceOf 3 = .ok (.istore_n 3, 1) := by decide +kernel
theorem dX12_priceOf_4 : decode cX12_priceOf 4 = .ok (.iload_n 3, 1) := by decide +kernel
theorem dX12_priceOf_5 : decode cX12_priceOf 5 = .ok (.bipush 10, 2) := by decide +kernel
theorem dX12_priceOf_7 : decode cX12_priceOf 7 = .ok (.if_icmp .ge 30, 3) := by decide +kernel
theorem dX12_priceOf_10 : decode cX12_priceOf 10 = .ok (.iload_n 2, 1) := by decide +kernel
theorem dX12_priceOf_11 : decode cX12_priceOf 11 = .ok (.iload_n 1, 1) := by decide +kernel
theorem dX12_priceOf_12 : decode cX12_priceOf 12 = .ok (.iload_n 3, 1) := by decide +kernel
theorem dX12_priceOf_13 : decode cX12_priceOf 13 = .ok (.invokestatic 96, 3) := by decide +kernel
theorem dX12_priceOf_16 : decode cX12_priceOf 16 = .ok (.ifCond .eq 12, 3) := by decide +kernel
theorem dX12_priceOf_19 : decode cX12_priceOf 19 = .ok (.aload_n 0, 1) := by decide +kernel
theorem dX12_priceOf_20 : decode cX12_priceOf 20 = .ok (.getfield 28, 3) := by decide +kernel
theorem dX12_priceOf_23 : decode cX12_priceOf 23 = .ok (.iload_n 3, 1) := by decide +kernel
theorem dX12_priceOf_24 : decode cX12_priceOf 24 = .ok (.iaload, 1) := by decide +kernel
theorem dX12_priceOf_25 : decode cX12_priceOf 25 = .ok (.goto 4, 3) := by decide +kernel
theorem dX12_priceOf_28 : decode cX12_priceOf 28 = .ok (.iconst 0, 1) := by decide +kernel
theorem dX12_priceOf_29 : decode cX12_priceOf 29 = .ok (.iadd, 1) := by decide +kernel
theorem dX12_priceOf_30 : decode cX12_priceOf 30 = .ok (.istore_n 2, 1) := by decide +kernel
theorem dX12_priceOf_31 : decode cX12_priceOf 31 = .ok (.iinc 3 1, 3) := by decide +kernel
theorem dX12_priceOf_34 : decode cX12_priceOf 34 = .ok (.goto (-30), 3) := by decide +kernel
theorem dX12_priceOf_37 : decode cX12_priceOf 37 = .ok (.iload_n 2, 1) := by decide +kernel
theorem dX12_priceOf_38 : decode cX12_priceOf 38 = .ok (.ireturn, 1) := by decide +kernel
theorem dX12_cheapestWith_0 : decode cX12_cheapestWith 0 = .ok (.iconst 0, 1) := by decide +kernel
theorem dX12_cheapestWith_1 : decode cX12_cheapestWith 1 = .ok (.istore_n 2, 1) := by decide +kernel
theorem dX12_cheapestWith_2 : decode cX12_cheapestWith 2 = .ok (.iload_n 2, 1) := by decide +kernel
theorem dX12_cheapestWith_3 : decode cX12_cheapestWith 3 = .ok (.sipush 1024, 3) := by decide +kernel
theorem dX12_cheapestWith_6 : decode cX12_cheapestWith 6 = .ok (.if_icmp .ge 25, 3) := by decide +kernel
theorem dX12_cheapestWith_9 : decode cX12_cheapestWith 9 = .ok (.aload_n 0, 1) := by decide +kernel
theorem dX12_cheapestWith_10 : decode cX12_cheapestWith 10 = .ok (.getfield 67, 3) := by decide +kernel
theorem dX12_cheapestWith_13 : decode cX12_cheapestWith 13 = .ok (.iload_n 2, 1) := by decide +kernel
theorem dX12_cheapestWith_14 : decode cX12_cheapestWith 14 = .ok (.iload_n 2, 1) := by decide +kernel
theorem dX12_cheapestWith_15 : decode cX12_cheapestWith 15 = .ok (.ifCond .ne 7, 3) := by decide +kernel
theorem dX12_cheapestWith_18 : decode cX12_cheapestWith 18 = .ok (.iconst 0, 1) := by decide +kernel
theorem dX12_cheapestWith_19 : decode cX12_cheapestWith 19 = .ok (.goto 5, 3) := by decide +kernel
theorem dX12_cheapestWith_22 : decode cX12_cheapestWith 22 = .ok (.ldc 174, 2) := by decide +kernel
theorem dX12_cheapestWith_24 : decode cX12_cheapestWith 24 = .ok (.iastore, 1) := by decide +kernel
theorem dX12_cheapestWith_25 : decode cX12_cheapestWith 25 = .ok (.iinc 2 1, 3) := by decide +kernel
theorem dX12_cheapestWith_28 : decode cX12_cheapestWith 28 = .ok (.goto (-26), 3) := by decide +kernel
theorem dX12_cheapestWith_31 : decode cX12_cheapestWith 31 = .ok (.iconst 0, 1) := by decide +kernel
theorem dX12_cheapestWith_32 : decode cX12_cheapestWith 32 = .ok (.istore_n 2, 1) := by decide +kernel
theorem dX12_cheapestWith_33 : decode cX12_cheapestWith 33 = .ok (.iconst 0, 1) := by decide +kernel
theorem dX12_cheapestWith_34 : decode cX12_cheapestWith 34 = .ok (.istore_n 3, 1) := by decide +kernel
theorem dX12_cheapestWith_35 : decode cX12_cheapestWith 35 = .ok (.iload_n 3, 1) := by decide +kernel
theorem dX12_cheapestWith_36 : decode cX12_cheapestWith 36 = .ok (.aload_n 0, 1) := by decide +kernel
theorem dX12_cheapestWith_37 : decode cX12_cheapestWith 37 = .ok (.getfield 83, 3) := by decide +kernel
theorem dX12_cheapestWith_40 : decode cX12_cheapestWith 40 = .ok (.if_icmp .ge 271, 3) := by decide +kernel
theorem dX12_cheapestWith_43 : decode cX12_cheapestWith 43 = .ok (.aload_n 0, 1) := by decide +kernel
theorem dX12_cheapestWith_44 : decode cX12_cheapestWith 44 = .ok (.getfield 46, 3) := by decide +kernel
theorem dX12_cheapestWith_47 : decode cX12_cheapestWith 47 = .ok (.iload_n 3, 1) := by decide +kernel
theorem dX12_cheapestWith_48 : decode cX12_cheapestWith 48 = .ok (.iaload, 1) := by decide +kernel
theorem dX12_cheapestWith_49 : decode cX12_cheapestWith 49 = .ok (.istore 4, 2) := by decide +kernel
theorem dX12_cheapestWith_51 : decode cX12_cheapestWith 51 = .ok (.aload_n 0, 1) := by decide +kernel
theorem dX12_cheapestWith_52 : decode cX12_cheapestWith 52 = .ok (.aload_n 0, 1) := by decide +kernel
theorem dX12_cheapestWith_53 : decode cX12_cheapestWith 53 = .ok (.getfield 19, 3) := by decide +kernel
theorem dX12_cheapestWith_56 : decode cX12_cheapestWith 56 = .ok (.iload 4, 2) := by decide +kernel
theorem dX12_cheapestWith_58 : decode cX12_cheapestWith 58 = .ok (.iaload, 1) := by decide +kernel
theorem dX12_cheapestWith_59 : decode cX12_cheapestWith 59 = .ok (.invokevirtual 147, 3) := by decide +kernel
theorem dX12_cheapestWith_62 : decode cX12_cheapestWith 62 = .ok (.iload_n 1, 1) := by decide +kernel
theorem dX12_cheapestWith_63 : decode cX12_cheapestWith 63 = .ok (.if_icmp .le 6, 3) := by decide +kernel
theorem dX12_cheapestWith_66 : decode cX12_cheapestWith 66 = .ok (.bipush (-9), 2) := by decide +kernel
theorem dX12_cheapestWith_68 : decode cX12_cheapestWith 68 = .ok (.ireturn, 1) := by decide +kernel
theorem dX12_cheapestWith_69 : decode cX12_cheapestWith 69 = .ok (.aload_n 0, 1) := by decide +kernel
theorem dX12_cheapestWith_70 : decode cX12_cheapestWith 70 = .ok (.iload_n 3, 1) := by decide +kernel
theorem dX12_cheapestWith_71 : decode cX12_cheapestWith 71 = .ok (.invokevirtual 239, 3) := by decide +kernel
theorem dX12_cheapestWith_74 : decode cX12_cheapestWith 74 = .ok (.istore 5, 2) := by decide +kernel
theorem dX12_cheapestWith_76 : decode cX12_cheapestWith 76 = .ok (.iconst 0, 1) := by decide +kernel
theorem dX12_cheapestWith_77 : decode cX12_cheapestWith 77 = .ok (.istore 6, 2) := by decide +kernel
theorem dX12_cheapestWith_79 : decode cX12_cheapestWith 79 = .ok (.iload 6, 2) := by decide +kernel
theorem dX12_cheapestWith_81 : decode cX12_cheapestWith 81 = .ok (.sipush 1024, 3) := by decide +kernel
theorem dX12_cheapestWith_84 : decode cX12_cheapestWith 84 = .ok (.if_icmp .ge 18, 3) := by decide +kernel
theorem dX12_cheapestWith_87 : decode cX12_cheapestWith 87 = .ok (.aload_n 0, 1) := by decide +kernel
theorem dX12_cheapestWith_88 : decode cX12_cheapestWith 88 = .ok (.getfield 70, 3) := by decide +kernel
theorem dX12_cheapestWith_91 : decode cX12_cheapestWith 91 = .ok (.iload 6, 2) := by decide +kernel
theorem dX12_cheapestWith_93 : decode cX12_cheapestWith 93 = .ok (.ldc 174, 2) := by decide +kernel
theorem dX12_cheapestWith_95 : decode cX12_cheapestWith 95 = .ok (.iastore, 1) := by decide +kernel
theorem dX12_cheapestWith_96 : decode cX12_cheapestWith 96 = .ok (.iinc 6 1, 3) := by decide +kernel
theorem dX12_cheapestWith_99 : decode cX12_cheapestWith 99 = .ok (.goto (-20), 3) := by decide +kernel
theorem dX12_cheapestWith_102 : decode cX12_cheapestWith 102 = .ok (.iconst 0, 1) := by decide +kernel
theorem dX12_cheapestWith_103 : decode cX12_cheapestWith 103 = .ok (.istore 6, 2) := by decide +kernel
theorem dX12_cheapestWith_105 : decode cX12_cheapestWith 105 = .ok (.iload 6, 2) := by decide +kernel
theorem dX12_cheapestWith_107 : decode cX12_cheapestWith 107 = .ok (.sipush 1024, 3) := by decide +kernel
theorem dX12_cheapestWith_110 : decode cX12_cheapestWith 110 = .ok (.if_icmp .ge 154, 3) := by decide +kernel
theorem dX12_cheapestWith_113 : decode cX12_cheapestWith 113 = .ok (.aload_n 0, 1) := by decide +kernel
theorem dX12_cheapestWith_114 : decode cX12_cheapestWith 114 = .ok (.getfield 67, 3) := by decide +kernel
theorem dX12_cheapestWith_117 : decode cX12_cheapestWith 117 = .ok (.iload 6, 2) := by decide +kernel
theorem dX12_cheapestWith_119 : decode cX12_cheapestWith 119 = .ok (.iaload, 1) := by decide +kernel
theorem dX12_cheapestWith_120 : decode cX12_cheapestWith 120 = .ok (.ldc 174, 2) := by decide +kernel
theorem dX12_cheapestWith_122 : decode cX12_cheapestWith 122 = .ok (.if_icmp .ne 6, 3) := by decide +kernel
theorem dX12_cheapestWith_125 : decode cX12_cheapestWith 125 = .ok (.goto 133, 3) := by decide +kernel
theorem dX12_cheapestWith_128 : decode cX12_cheapestWith 128 = .ok (.iload 6, 2) := by decide +kernel
theorem dX12_cheapestWith_130 : decode cX12_cheapestWith 130 = .ok (.iload_n 3, 1) := by decide +kernel
theorem dX12_cheapestWith_131 : decode cX12_cheapestWith 131 = .ok (.ifCond .ne 7, 3) := by decide +kernel
theorem dX12_cheapestWith_134 : decode cX12_cheapestWith 134 = .ok (.iconst 0, 1) := by decide +kernel
theorem dX12_cheapestWith_135 : decode cX12_cheapestWith 135 = .ok (.goto 16, 3) := by decide +kernel
theorem dX12_cheapestWith_138 : decode cX12_cheapestWith 138 = .ok (.aload_n 0, 1) := by decide +kernel
theorem dX12_cheapestWith_139 : decode cX12_cheapestWith 139 = .ok (.getfield 19, 3) := by decide +kernel
theorem dX12_cheapestWith_142 : decode cX12_cheapestWith 142 = .ok (.aload_n 0, 1) := by decide +kernel
theorem dX12_cheapestWith_143 : decode cX12_cheapestWith 143 = .ok (.getfield 46, 3) := by decide +kernel
theorem dX12_cheapestWith_146 : decode cX12_cheapestWith 146 = .ok (.iload_n 3, 1) := by decide +kernel
theorem dX12_cheapestWith_147 : decode cX12_cheapestWith 147 = .ok (.iconst 1, 1) := by decide +kernel
theorem dX12_cheapestWith_148 : decode cX12_cheapestWith 148 = .ok (.isub, 1) := by decide +kernel
theorem dX12_cheapestWith_149 : decode cX12_cheapestWith 149 = .ok (.iaload, 1) := by decide +kernel
theorem dX12_cheapestWith_150 : decode cX12_cheapestWith 150 = .ok (.iaload, 1) := by decide +kernel
theorem dX12_cheapestWith_151 : decode cX12_cheapestWith 151 = .ok (.ior, 1) := by decide +kernel
theorem dX12_cheapestWith_152 : decode cX12_cheapestWith 152 = .ok (.istore 7, 2) := by decide +kernel
theorem dX12_cheapestWith_154 : decode cX12_cheapestWith 154 = .ok (.aload_n 0, 1) := by decide +kernel
theorem dX12_cheapestWith_155 : decode cX12_cheapestWith 155 = .ok (.getfield 67, 3) := by decide +kernel
theorem dX12_cheapestWith_158 : decode cX12_cheapestWith 158 = .ok (.iload 6, 2) := by decide +kernel
theorem dX12_cheapestWith_160 : decode cX12_cheapestWith 160 = .ok (.iaload, 1) := by decide +kernel
theorem dX12_cheapestWith_161 : decode cX12_cheapestWith 161 = .ok (.aload_n 0, 1) := by decide +kernel
theorem dX12_cheapestWith_162 : decode cX12_cheapestWith 162 = .ok (.aload_n 0, 1) := by decide +kernel
theorem dX12_cheapestWith_163 : decode cX12_cheapestWith 163 = .ok (.getfield 19, 3) := by decide +kernel
theorem dX12_cheapestWith_166 : decode cX12_cheapestWith 166 = .ok (.iload 4, 2) := by decide +kernel
theorem dX12_cheapestWith_168 : decode cX12_cheapestWith 168 = .ok (.iaload, 1) := by decide +kernel
theorem dX12_cheapestWith_169 : decode cX12_cheapestWith 169 = .ok (.iload_n 2, 1) := by decide +kernel
theorem dX12_cheapestWith_170 : decode cX12_cheapestWith 170 = .ok (.iand, 1) := by decide +kernel
theorem dX12_cheapestWith_171 : decode cX12_cheapestWith 171 = .ok (.iload 7, 2) := by decide +kernel
theorem dX12_cheapestWith_173 : decode cX12_cheapestWith 173 = .ok (.iconst (-1), 1) := by decide +kernel
theorem dX12_cheapestWith_174 : decode cX12_cheapestWith 174 = .ok (.ixor, 1) := by decide +kernel
theorem dX12_cheapestWith_175 : decode cX12_cheapestWith 175 = .ok (.iand, 1) := by decide +kernel
theorem dX12_cheapestWith_176 : decode cX12_cheapestWith 176 = .ok (.invokevirtual 242, 3) := by decide +kernel
theorem dX12_cheapestWith_179 : decode cX12_cheapestWith 179 = .ok (.iadd, 1) := by decide +kernel
theorem dX12_cheapestWith_180 : decode cX12_cheapestWith 180 = .ok (.istore 8, 2) := by decide +kernel
theorem dX12_cheapestWith_182 : decode cX12_cheapestWith 182 = .ok (.iload 7, 2) := by decide +kernel
theorem dX12_cheapestWith_184 : decode cX12_cheapestWith 184 = .ok (.iload 5, 2) := by decide +kernel
theorem dX12_cheapestWith_186 : decode cX12_cheapestWith 186 = .ok (.iand, 1) := by decide +kernel
theorem dX12_cheapestWith_187 : decode cX12_cheapestWith 187 = .ok (.istore 9, 2) := by decide +kernel
theorem dX12_cheapestWith_189 : decode cX12_cheapestWith 189 = .ok (.iload 9, 2) := by decide +kernel
theorem dX12_cheapestWith_191 : decode cX12_cheapestWith 191 = .ok (.istore 10, 2) := by decide +kernel
theorem dX12_cheapestWith_193 : decode cX12_cheapestWith 193 = .ok (.iload 10, 2) := by decide +kernel
theorem dX12_cheapestWith_195 : decode cX12_cheapestWith 195 = .ok (.ifCond .lt 63, 3) := by decide +kernel
theorem dX12_cheapestWith_198 : decode cX12_cheapestWith 198 = .ok (.aload_n 0, 1) := by decide +kernel
theorem dX12_cheapestWith_199 : decode cX12_cheapestWith 199 = .ok (.iload 10, 2) := by decide +kernel
theorem dX12_cheapestWith_201 : decode cX12_cheapestWith 201 = .ok (.aload_n 0, 1) := by decide +kernel
theorem dX12_cheapestWith_202 : decode cX12_cheapestWith 202 = .ok (.getfield 19, 3) := by decide +kernel
theorem dX12_cheapestWith_205 : decode cX12_cheapestWith 205 = .ok (.iload 4, 2) := by decide +kernel
theorem dX12_cheapestWith_207 : decode cX12_cheapestWith 207 = .ok (.iaload, 1) := by decide +kernel
theorem dX12_cheapestWith_208 : decode cX12_cheapestWith 208 = .ok (.ior, 1) := by decide +kernel
theorem dX12_cheapestWith_209 : decode cX12_cheapestWith 209 = .ok (.invokevirtual 147, 3) := by decide +kernel
theorem dX12_cheapestWith_212 : decode cX12_cheapestWith 212 = .ok (.iload_n 1, 1) := by decide +kernel
theorem dX12_cheapestWith_213 : decode cX12_cheapestWith 213 = .ok (.if_icmp .gt 24, 3) := by decide +kernel
theorem dX12_cheapestWith_216 : decode cX12_cheapestWith 216 = .ok (.iload 8, 2) := by decide +kernel
theorem dX12_cheapestWith_218 : decode cX12_cheapestWith 218 = .ok (.aload_n 0, 1) := by decide +kernel
theorem dX12_cheapestWith_219 : decode cX12_cheapestWith 219 = .ok (.getfield 70, 3) := by decide +kernel
theorem dX12_cheapestWith_222 : decode cX12_cheapestWith 222 = .ok (.iload 10, 2) := by decide +kernel
theorem dX12_cheapestWith_224 : decode cX12_cheapestWith 224 = .ok (.iaload, 1) := by decide +kernel
theorem dX12_cheapestWith_225 : decode cX12_cheapestWith 225 = .ok (.if_icmp .ge 12, 3) := by decide +kernel
theorem dX12_cheapestWith_228 : decode cX12_cheapestWith 228 = .ok (.aload_n 0, 1) := by decide +kernel
theorem dX12_cheapestWith_229 : decode cX12_cheapestWith 229 = .ok (.getfield 70, 3) := by decide +kernel
theorem dX12_cheapestWith_232 : decode cX12_cheapestWith 232 = .ok (.iload 10, 2) := by decide +kernel
theorem dX12_cheapestWith_234 : decode cX12_cheapestWith 234 = .ok (.iload 8, 2) := by decide +kernel
theorem dX12_cheapestWith_236 : decode cX12_cheapestWith 236 = .ok (.iastore, 1) := by decide +kernel
theorem dX12_cheapestWith_237 : decode cX12_cheapestWith 237 = .ok (.iload 10, 2) := by decide +kernel
theorem dX12_cheapestWith_239 : decode cX12_cheapestWith 239 = .ok (.ifCond .ne 7, 3) := by decide +kernel
theorem dX12_cheapestWith_242 : decode cX12_cheapestWith 242 = .ok (.iconst (-1), 1) := by decide +kernel
theorem dX12_cheapestWith_243 : decode cX12_cheapestWith 243 = .ok (.goto 10, 3) := by decide +kernel
theorem dX12_cheapestWith_246 : decode cX12_cheapestWith 246 = .ok (.iload 10, 2) := by decide +kernel
theorem dX12_cheapestWith_248 : decode cX12_cheapestWith 248 = .ok (.iconst 1, 1) := by decide +kernel
theorem dX12_cheapestWith_249 : decode cX12_cheapestWith 249 = .ok (.isub, 1) := by decide +kernel
theorem dX12_cheapestWith_250 : decode cX12_cheapestWith 250 = .ok (.iload 9, 2) := by decide +kernel
theorem dX12_cheapestWith_252 : decode cX12_cheapestWith 252 = .ok (.iand, 1) := by decide +kernel
theorem dX12_cheapestWith_253 : decode cX12_cheapestWith 253 = .ok (.istore 10, 2) := by decide +kernel
theorem dX12_cheapestWith_255 : decode cX12_cheapestWith 255 = .ok (.goto (-62), 3) := by decide +kernel
theorem dX12_cheapestWith_258 : decode cX12_cheapestWith 258 = .ok (.iinc 6 1, 3) := by decide +kernel
theorem dX12_cheapestWith_261 : decode cX12_cheapestWith 261 = .ok (.goto (-156), 3) := by decide +kernel
theorem dX12_cheapestWith_264 : decode cX12_cheapestWith 264 = .ok (.iconst 0, 1) := by decide +kernel
theorem dX12_cheapestWith_265 : decode cX12_cheapestWith 265 = .ok (.istore 6, 2) := by decide +kernel
theorem dX12_cheapestWith_267 : decode cX12_cheapestWith 267 = .ok (.iload 6, 2) := by decide +kernel
theorem dX12_cheapestWith_269 : decode cX12_cheapestWith 269 = .ok (.sipush 1024, 3) := by decide +kernel
theorem dX12_cheapestWith_272 : decode cX12_cheapestWith 272 = .ok (.if_icmp .ge 23, 3) := by decide +kernel
theorem dX12_cheapestWith_275 : decode cX12_cheapestWith 275 = .ok (.aload_n 0, 1) := by decide +kernel
theorem dX12_cheapestWith_276 : decode cX12_cheapestWith 276 = .ok (.getfield 67, 3) := by decide +kernel
theorem dX12_cheapestWith_279 : decode cX12_cheapestWith 279 = .ok (.iload 6, 2) := by decide +kernel
theorem dX12_cheapestWith_281 : decode cX12_cheapestWith 281 = .ok (.aload_n 0, 1) := by decide +kernel
theorem dX12_cheapestWith_282 : decode cX12_cheapestWith 282 = .ok (.getfield 70, 3) := by decide +kernel
theorem dX12_cheapestWith_285 : decode cX12_cheapestWith 285 = .ok (.iload 6, 2) := by decide +kernel
theorem dX12_cheapestWith_287 : decode cX12_cheapestWith 287 = .ok (.iaload, 1) := by decide +kernel
theorem dX12_cheapestWith_288 : decode cX12_cheapestWith 288 = .ok (.iastore, 1) := by decide +kernel
theorem dX12_cheapestWith_289 : decode cX12_cheapestWith 289 = .ok (.iinc 6 1, 3) := by decide +kernel
theorem dX12_cheapestWith_292 : decode cX12_cheapestWith 292 = .ok (.goto (-25), 3) := by decide +kernel
theorem dX12_cheapestWith_295 : decode cX12_cheapestWith 295 = .ok (.iload_n 2, 1) := by decide +kernel
theorem dX12_cheapestWith_296 : decode cX12_cheapestWith 296 = .ok (.aload_n 0, 1) := by decide +kernel
theorem dX12_cheapestWith_297 : decode cX12_cheapestWith 297 = .ok (.getfield 19, 3) := by decide +kernel
theorem dX12_cheapestWith_300 : decode cX12_cheapestWith 300 = .ok (.iload 4, 2) := by decide +kernel
theorem dX12_cheapestWith_302 : decode cX12_cheapestWith 302 = .ok (.iaload, 1) := by decide +kernel
theorem dX12_cheapestWith_303 : decode cX12_cheapestWith 303 = .ok (.ior, 1) := by decide +kernel
theorem dX12_cheapestWith_304 : decode cX12_cheapestWith 304 = .ok (.istore_n 2, 1) := by decide +kernel
theorem dX12_cheapestWith_305 : decode cX12_cheapestWith 305 = .ok (.iinc 3 1, 3) := by decide +kernel
theorem dX12_cheapestWith_308 : decode cX12_cheapestWith 308 = .ok (.goto (-273), 3) := by decide +kernel
theorem dX12_cheapestWith_311 : decode cX12_cheapestWith 311 = .ok (.ldc 174, 2) := by decide +kernel
theorem dX12_cheapestWith_313 : decode cX12_cheapestWith 313 = .ok (.istore_n 3, 1) := by decide +kernel
theorem dX12_cheapestWith_314 : decode cX12_cheapestWith 314 = .ok (.iconst 0, 1) := by decide +kernel
theorem dX12_cheapestWith_315 : decode cX12_cheapestWith 315 = .ok (.istore 4, 2) := by decide +kernel
theorem dX12_cheapestWith_317 : decode cX12_cheapestWith 317 = .ok (.iload 4, 2) := by decide +kernel
theorem dX12_cheapestWith_319 : decode cX12_cheapestWith 319 = .ok (.sipush 1024, 3) := by decide +kernel
theorem dX12_cheapestWith_322 : decode cX12_cheapestWith 322 = .ok (.if_icmp .ge 32, 3) := by decide +kernel
theorem dX12_cheapestWith_325 : decode cX12_cheapestWith 325 = .ok (.aload_n 0, 1) := by decide +kernel
theorem dX12_cheapestWith_326 : decode cX12_cheapestWith 326 = .ok (.getfield 67, 3) := by decide +kernel
theorem dX12_cheapestWith_329 : decode cX12_cheapestWith 329 = .ok (.iload 4, 2) := by decide +kernel
theorem dX12_cheapestWith_331 : decode cX12_cheapestWith 331 = .ok (.iaload, 1) := by decide +kernel
theorem dX12_cheapestWith_332 : decode cX12_cheapestWith 332 = .ok (.iload_n 3, 1) := by decide +kernel
theorem dX12_cheapestWith_333 : decode cX12_cheapestWith 333 = .ok (.if_icmp .ge 13, 3) := by decide +kernel
theorem dX12_cheapestWith_336 : decode cX12_cheapestWith 336 = .ok (.aload_n 0, 1) := by decide +kernel
theorem dX12_cheapestWith_337 : decode cX12_cheapestWith 337 = .ok (.getfield 67, 3) := by decide +kernel
theorem dX12_cheapestWith_340 : decode cX12_cheapestWith 340 = .ok (.iload 4, 2) := by decide +kernel
theorem dX12_cheapestWith_342 : decode cX12_cheapestWith 342 = .ok (.iaload, 1) := by decide +kernel
theorem dX12_cheapestWith_343 : decode cX12_cheapestWith 343 = .ok (.goto 4, 3) := by decide +kernel
theorem dX12_cheapestWith_346 : decode cX12_cheapestWith 346 = .ok (.iload_n 3, 1) := by decide +kernel
theorem dX12_cheapestWith_347 : decode cX12_cheapestWith 347 = .ok (.istore_n 3, 1) := by decide +kernel
theorem dX12_cheapestWith_348 : decode cX12_cheapestWith 348 = .ok (.iinc 4 1, 3) := by decide +kernel
theorem dX12_cheapestWith_351 : decode cX12_cheapestWith 351 = .ok (.goto (-34), 3) := by decide +kernel
theorem dX12_cheapestWith_354 : decode cX12_cheapestWith 354 = .ok (.iload_n 3, 1) := by decide +kernel
theorem dX12_cheapestWith_355 : decode cX12_cheapestWith 355 = .ok (.ireturn, 1) := by decide +kernel
theorem dX12_cheapest_0 : decode cX12_cheapest 0 = .ok (.aload_n 0, 1) := by decide +kernel
theorem dX12_cheapest_1 : decode cX12_cheapest 1 = .ok (.iload_n 1, 1) := by decide +kernel
theorem dX12_cheapest_2 : decode cX12_cheapest 2 = .ok (.invokevirtual 157, 3) := by decide +kernel
theorem dX12_cheapest_5 : decode cX12_cheapest 5 = .ok (.ifCond .ne 5, 3) := by decide +kernel
theorem dX12_cheapest_8 : decode cX12_cheapest 8 = .ok (.iconst (-1), 1) := by decide +kernel
theorem dX12_cheapest_9 : decode cX12_cheapest 9 = .ok (.ireturn, 1) := by decide +kernel
theorem dX12_cheapest_10 : decode cX12_cheapest 10 = .ok (.iload_n 2, 1) := by decide +kernel
theorem dX12_cheapest_11 : decode cX12_cheapest 11 = .ok (.iconst 0, 1) := by decide +kernel
theorem dX12_cheapest_12 : decode cX12_cheapest 12 = .ok (.bipush 99, 2) := by decide +kernel
theorem dX12_cheapest_14 : decode cX12_cheapest 14 = .ok (.invokestatic 79, 3) := by decide +kernel
theorem dX12_cheapest_17 : decode cX12_cheapest 17 = .ok (.ifCond .ne 6, 3) := by decide +kernel
theorem dX12_cheapest_20 : decode cX12_cheapest 20 = .ok (.bipush (-2), 2) := by decide +kernel
theorem dX12_cheapest_22 : decode cX12_cheapest 22 = .ok (.ireturn, 1) := by decide +kernel
theorem dX12_cheapest_23 : decode cX12_cheapest 23 = .ok (.aload_n 0, 1) := by decide +kernel
theorem dX12_cheapest_24 : decode cX12_cheapest 24 = .ok (.iload_n 1, 1) := by decide +kernel
theorem dX12_cheapest_25 : decode cX12_cheapest 25 = .ok (.invokevirtual 160, 3) := by decide +kernel
theorem dX12_cheapest_28 : decode cX12_cheapest 28 = .ok (.aload_n 0, 1) := by decide +kernel
theorem dX12_cheapest_29 : decode cX12_cheapest 29 = .ok (.iload_n 2, 1) := by decide +kernel
theorem dX12_cheapest_30 : decode cX12_cheapest 30 = .ok (.invokevirtual 245, 3) := by decide +kernel
theorem dX12_cheapest_33 : decode cX12_cheapest 33 = .ok (.ireturn, 1) := by decide +kernel
abbrev rm_X12_share : Room := { frames := 1, cells := 0, slots := 0, locals := 21 }
def B_X12_share_2 (post : Int32 → Mem → Prop) (P2 : Int32 → Int32 → Int32 → Mem → Prop) (x1 : Int32) (x2 : Int32) (x3 : Int32) (μ : Mem) : Prop :=
  (((μ 0 5) ≤ x3 → post 0 μ) ∧ (¬ (μ 0 5) ≤ x3 → vp_in x3 9 ∧ T_X12_has (μ 4 x3.toNatClampNeg) x1 μ (fun (u2 : Int32) (μ3 : Mem) => ((u2 = 0 → P2 x1 x2 (x3 + 1) μ3) ∧ (¬ u2 = 0 → vp_in x3 9 ∧ T_X12_has (μ3 4 x3.toNatClampNeg) x2 μ3 (fun (u5 : Int32) (μ6 : Mem) => ((u5 = 0 → P2 x1 x2 (x3 + 1) μ6) ∧ (¬ u5 = 0 → post 1 μ6))))))))
def T_X12_share_2 (post : Int32 → Mem → Prop) (x1 : Int32) (x2 : Int32) (x3 : Int32) (μ : Mem) : Prop :=
  ∀ P2 : Int32 → Int32 → Int32 → Mem → Prop, (∀ (x1 : Int32) (x2 : Int32) (x3 : Int32) (μ : Mem), B_X12_share_2 post P2 x1 x2 x3 μ → P2 x1 x2 x3 μ) → P2 x1 x2 x3 μ
theorem bv_X12_share_2 {X : Cx} {w : Wd} {l : Launch} {D : va_G} {A : Nat → Prop} (g : Gd X w RX12 cX12_share 4 rm_X12_share) (hX : atX X l D A) (post : Int32 → Mem → Prop) (hR : Rt X w shM 22 (some .boolean) (pI post)) (P2 : Int32 → Int32 → Int32 → Mem → Prop) (hP2 : ∀ (x1 : Int32) (x2 : Int32) (x3 : Int32) (μ : Mem), P2 x1 x2 x3 μ → V X 2 [(0, .ref (w.1 0)), (1, .int x1), (2, .int x2), (3, .int x3)] [] (wls w shM 22 μ)) (x1 : Int32) (x2 : Int32) (x3 : Int32) (μ : Mem) (h : B_X12_share_2 post P2 x1 x2 x3 μ) : V X 2 [(0, .ref (w.1 0)), (1, .int x1), (2, .int x2), (3, .int x3)] [] (wls w shM 22 μ) := by
  refine r_iload_n (pc := 2) 3 g dX12_share_2 rfl ?_
  refine r_aload_n (pc := 3) 0 g dX12_share_3 rfl ?_
  refine r_geti (pc := 4) (μ := μ) g dX12_share_4 fa_RX12_83 shM_out sM_0 rfl ?_
  refine r_icmp_ge (pc := 7) 44 g dX12_share_7 rfl (fun q => ?_) (fun q => ?_)
  · have h := h.1 q
    refine r_iconst (pc := 44) g dX12_share_44 ci_0 ?_
    exact r_zreti (pc := 45) g hR dX12_share_45 (Or.inl rfl) h
  · have h := h.2 q
    refine r_aload_n (pc := 10) 0 g dX12_share_10 rfl ?_
    refine r_getr (pc := 11) (μ := μ) g dX12_share_11 fa_RX12_19 shM_out sM_0 rfl ?_
    refine r_iload_n (pc := 14) 3 g dX12_share_14 rfl ?_
    obtain ⟨b1, h⟩ := h
    refine r_iaload (pc := 15) (μ := μ) g dX12_share_15 shM_out sM_4 b1 ?_
    refine r_iload_n (pc := 16) 1 g dX12_share_16 rfl ?_
    refine r_callSi (pc := 17) (st := []) g hX dX12_share_17 (m_X12_has (μ 4 x3.toNatClampNeg) x1 μ _ h) kb_RX12_96 k_1123 rfl rfl rfl rfl (fun u2 μ3 h => ?_)
    refine r_if_eq (pc := 20) 38 g dX12_share_20 rfl (fun q => ?_) (fun q => ?_)
    · have h := h.1 q
      refine r_iinc (pc := 38) (lv' := [(3, .int (x3 + 1)), (0, .ref (w.1 0)), (1, .int x1), (2, .int x2)]) 3 g dX12_share_38 rfl ci_1 rfl rfl ?_
      refine r_goto (pc := 41) 2 g dX12_share_41 rfl ?_
      refine r_sub [1, 2, 3, 0] (lv' := [(0, .ref (w.1 0)), (1, .int x1), (2, .int x2), (3, .int (x3 + 1))]) rfl ?_
      exact hP2 x1 x2 (x3 + 1) μ3 h
    · have h := h.2 q
      refine r_aload_n (pc := 23) 0 g dX12_share_23 rfl ?_
      refine r_getr (pc := 24) (μ := μ3) g dX12_share_24 fa_RX12_19 shM_out sM_0 rfl ?_
      refine r_iload_n (pc := 27) 3 g dX12_share_27 rfl ?_
      obtain ⟨b4, h⟩ := h
      refine r_iaload (pc := 28) (μ := μ3) g dX12_share_28 shM_out sM_4 b4 ?_
      refine r_iload_n (pc := 29) 2 g dX12_share_29 rfl ?_
      refine r_callSi (pc := 30) (st := []) g hX dX12_share_30 (m_X12_has (μ3 4 x3.toNatClampNeg) x2 μ3 _ h) kb_RX12_96 k_1123 rfl rfl rfl rfl (fun u5 μ6 h => ?_)
      refine r_if_eq (pc := 33) 38 g dX12_share_33 rfl (fun q => ?_) (fun q => ?_)
      · have h := h.1 q
        refine r_iinc (pc := 38) (lv' := [(3, .int (x3 + 1)), (0, .ref (w.1 0)), (1, .int x1), (2, .int x2)]) 3 g dX12_share_38 rfl ci_1 rfl rfl ?_
        refine r_goto (pc := 41) 2 g dX12_share_41 rfl ?_
        refine r_sub [1, 2, 3, 0] (lv' := [(0, .ref (w.1 0)), (1, .int x1), (2, .int x2), (3, .int (x3 + 1))]) rfl ?_
        exact hP2 x1 x2 (x3 + 1) μ6 h
      · have h := h.2 q
        refine r_iconst (pc := 36) g dX12_share_36 ci_1 ?_
        exact r_zreti (pc := 37) g hR dX12_share_37 (Or.inr rfl) h
theorem v_X12_share_2 {X : Cx} {w : Wd} {l : Launch} {D : va_G} {A : Nat → Prop} (g : Gd X w RX12 cX12_share 4 rm_X12_share) (hX : atX X l D A) (post : Int32 → Mem → Prop) (hR : Rt X w shM 22 (some .boolean) (pI post)) (x1 : Int32) (x2 : Int32) (x3 : Int32) (μ : Mem) (h : T_X12_share_2 post x1 x2 x3 μ) : V X 2 [(0, .ref (w.1 0)), (1, .int x1), (2, .int x2), (3, .int x3)] [] (wls w shM 22 μ) :=
  h (fun x1 x2 x3 μ => V X 2 [(0, .ref (w.1 0)), (1, .int x1), (2, .int x2), (3, .int x3)] [] (wls w shM 22 μ)) (fun x1 x2 x3 μ h => bv_X12_share_2 g hX post hR (fun x1 x2 x3 μ => V X 2 [(0, .ref (w.1 0)), (1, .int x1), (2, .int x2), (3, .int x3)] [] (wls w shM 22 μ)) (fun _ _ _ _ h => h) x1 x2 x3 μ h)
def T_X12_share (x1 : Int32) (x2 : Int32) (μ : Mem) (post : Int32 → Mem → Prop) : Prop :=
  T_X12_share_2 post x1 x2 0 μ
theorem m_X12_share {w : Wd} {l : Launch} {D : va_G} {A : Nat → Prop} (x1 : Int32) (x2 : Int32) (μ : Mem) (post : Int32 → Mem → Prop) (h : T_X12_share x1 x2 μ post) : MetX l D A w shM 22 yX12_share cX12_share 4 (some .boolean) rm_X12_share [.ref (w.1 0), .int x1, .int x2] μ (pI post) := by
  refine metX_of (by decide) rfl (lv := [(0, .ref (w.1 0)), (1, .int x1), (2, .int x2)]) rfl (fun X hX g hR => ?_)
  refine r_iconst (pc := 0) g dX12_share_0 ci_0 ?_
  refine r_istore_n (pc := 1) (lv' := [(3, .int 0), (0, .ref (w.1 0)), (1, .int x1), (2, .int x2)]) g dX12_share_1 rfl rfl ?_
  refine r_sub [1, 2, 3, 0] (lv' := [(0, .ref (w.1 0)), (1, .int x1), (2, .int x2), (3, .int 0)]) rfl ?_
  exact v_X12_share_2 g hX post hR x1 x2 0 μ h
abbrev rm_X12_isKnot : Room := { frames := 2, cells := 0, slots := 0, locals := 44 }
def B_X12_isKnot_10 (post : Int32 → Mem → Prop) (P2 : Int32 → Int32 → Mem → Prop) (P10 : Int32 → Int32 → Int32 → Mem → Prop) (x1 : Int32) (x2 : Int32) (x3 : Int32) (μ : Mem) : Prop :=
  ((x2 < x3 → P2 x1 (x2 + 1) μ) ∧ (¬ x2 < x3 → T_X12_has x1 x2 μ (fun (u1 : Int32) (μ2 : Mem) => ((u1 = 0 → P10 x1 x2 (x3 + 1) μ2) ∧ (¬ u1 = 0 → T_X12_has x1 x3 μ2 (fun (u3 : Int32) (μ4 : Mem) => ((u3 = 0 → P10 x1 x2 (x3 + 1) μ4) ∧ (¬ u3 = 0 → T_X12_share x2 x3 μ4 (fun (u5 : Int32) (μ6 : Mem) => ((¬ u5 = 0 → P10 x1 x2 (x3 + 1) μ6) ∧ (u5 = 0 → post 0 μ6)))))))))))
def T_X12_isKnot_10 (post : Int32 → Mem → Prop) (P2 : Int32 → Int32 → Mem → Prop) (x1 : Int32) (x2 : Int32) (x3 : Int32) (μ : Mem) : Prop :=
  ∀ P10 : Int32 → Int32 → Int32 → Mem → Prop, (∀ (x1 : Int32) (x2 : Int32) (x3 : Int32) (μ : Mem), B_X12_isKnot_10 post P2 P10 x1 x2 x3 μ → P10 x1 x2 x3 μ) → P10 x1 x2 x3 μ
theorem bv_X12_isKnot_10 {X : Cx} {w : Wd} {l : Launch} {D : va_G} {A : Nat → Prop} (g : Gd X w RX12 cX12_isKnot 4 rm_X12_isKnot) (hX : atX X l D A) (post : Int32 → Mem → Prop) (hR : Rt X w shM 22 (some .boolean) (pI post)) (P2 : Int32 → Int32 → Mem → Prop) (hP2 : ∀ (x1 : Int32) (x2 : Int32) (μ : Mem), P2 x1 x2 μ → V X 2 [(0, .ref (w.1 0)), (1, .int x1), (2, .int x2)] [] (wls w shM 22 μ)) (P10 : Int32 → Int32 → Int32 → Mem → Prop) (hP10 : ∀ (x1 : Int32) (x2 : Int32) (x3 : Int32) (μ : Mem), P10 x1 x2 x3 μ → V X 10 [(0, .ref (w.1 0)), (1, .int x1), (2, .int x2), (3, .int x3)] [] (wls w shM 22 μ)) (x1 : Int32) (x2 : Int32) (x3 : Int32) (μ : Mem) (h : B_X12_isKnot_10 post P2 P10 x1 x2 x3 μ) : V X 10 [(0, .ref (w.1 0)), (1, .int x1), (2, .int x2), (3, .int x3)] [] (wls w shM 22 μ) := by
  refine r_iload_n (pc := 10) 3 g dX12_isKnot_10 rfl ?_
  refine r_iload_n (pc := 11) 2 g dX12_isKnot_11 rfl ?_
  refine r_icmp_gt (pc := 12) 48 g dX12_isKnot_12 rfl (fun q => ?_) (fun q => ?_)
  · have h := h.1 q
    refine r_iinc (pc := 48) (lv' := [(2, .int (x2 + 1)), (0, .ref (w.1 0)), (1, .int x1), (3, .int x3)]) 2 g dX12_isKnot_48 rfl ci_1 rfl rfl ?_
    refine r_goto (pc := 51) 2 g dX12_isKnot_51 rfl ?_
    refine r_sub [1, 2, 0] (lv' := [(0, .ref (w.1 0)), (1, .int x1), (2, .int (x2 + 1))]) rfl ?_
    exact hP2 x1 (x2 + 1) μ h
  · have h := h.2 q
    refine r_iload_n (pc := 15) 1 g dX12_isKnot_15 rfl ?_
    refine r_iload_n (pc := 16) 2 g dX12_isKnot_16 rfl ?_
    refine r_callSi (pc := 17) (st := []) g hX dX12_isKnot_17 (m_X12_has x1 x2 μ _ h) kb_RX12_96 k_1123 rfl rfl rfl rfl (fun u1 μ2 h => ?_)
    refine r_if_eq (pc := 20) 42 g dX12_isKnot_20 rfl (fun q => ?_) (fun q => ?_)
    · have h := h.1 q
      refine r_iinc (pc := 42) (lv' := [(3, .int (x3 + 1)), (0, .ref (w.1 0)), (1, .int x1), (2, .int x2)]) 3 g dX12_isKnot_42 rfl ci_1 rfl rfl ?_
      refine r_goto (pc := 45) 10 g dX12_isKnot_45 rfl ?_
      refine r_sub [1, 2, 3, 0] (lv' := [(0, .ref (w.1 0)), (1, .int x1), (2, .int x2), (3, .int (x3 + 1))]) rfl ?_
      exact hP10 x1 x2 (x3 + 1) μ2 h
    · have h := h.2 q
      refine r_iload_n (pc := 23) 1 g dX12_isKnot_23 rfl ?_
      refine r_iload_n (pc := 24) 3 g dX12_isKnot_24 rfl ?_
      refine r_callSi (pc := 25) (st := []) g hX dX12_isKnot_25 (m_X12_has x1 x3 μ2 _ h) kb_RX12_96 k_1123 rfl rfl rfl rfl (fun u3 μ4 h => ?_)
      refine r_if_eq (pc := 28) 42 g dX12_isKnot_28 rfl (fun q => ?_) (fun q => ?_)
      · have h := h.1 q
        refine r_iinc (pc := 42) (lv' := [(3, .int (x3 + 1)), (0, .ref (w.1 0)), (1, .int x1), (2, .int x2)]) 3 g dX12_isKnot_42 rfl ci_1 rfl rfl ?_
        refine r_goto (pc := 45) 10 g dX12_isKnot_45 rfl ?_
        refine r_sub [1, 2, 3, 0] (lv' := [(0, .ref (w.1 0)), (1, .int x1), (2, .int x2), (3, .int (x3 + 1))]) rfl ?_
        exact hP10 x1 x2 (x3 + 1) μ4 h
      · have h := h.2 q
        refine r_aload_n (pc := 31) 0 g dX12_isKnot_31 rfl ?_
        refine r_iload_n (pc := 32) 2 g dX12_isKnot_32 rfl ?_
        refine r_iload_n (pc := 33) 3 g dX12_isKnot_33 rfl ?_
        refine r_callVi (pc := 34) (st := []) g hX dX12_isKnot_34 (m_X12_share x2 x3 μ4 _ h) kb_RX12_214 kv_X12_share shM_out sM_0 rfl rfl rfl rfl (fun u5 μ6 h => ?_)
        refine r_if_ne (pc := 37) 42 g dX12_isKnot_37 rfl (fun q => ?_) (fun q => ?_)
        · have h := h.1 q
          refine r_iinc (pc := 42) (lv' := [(3, .int (x3 + 1)), (0, .ref (w.1 0)), (1, .int x1), (2, .int x2)]) 3 g dX12_isKnot_42 rfl ci_1 rfl rfl ?_
          refine r_goto (pc := 45) 10 g dX12_isKnot_45 rfl ?_
          refine r_sub [1, 2, 3, 0] (lv' := [(0, .ref (w.1 0)), (1, .int x1), (2, .int x2), (3, .int (x3 + 1))]) rfl ?_
          exact hP10 x1 x2 (x3 + 1) μ6 h
        · have h := h.2 q
          refine r_iconst (pc := 40) g dX12_isKnot_40 ci_0 ?_
          exact r_zreti (pc := 41) g hR dX12_isKnot_41 (Or.inl rfl) h
theorem v_X12_isKnot_10 {X : Cx} {w : Wd} {l : Launch} {D : va_G} {A : Nat → Prop} (g : Gd X w RX12 cX12_isKnot 4 rm_X12_isKnot) (hX : atX X l D A) (post : Int32 → Mem → Prop) (hR : Rt X w shM 22 (some .boolean) (pI post)) (P2 : Int32 → Int32 → Mem → Prop) (hP2 : ∀ (x1 : Int32) (x2 : Int32) (μ : Mem), P2 x1 x2 μ → V X 2 [(0, .ref (w.1 0)), (1, .int x1), (2, .int x2)] [] (wls w shM 22 μ)) (x1 : Int32) (x2 : Int32) (x3 : Int32) (μ : Mem) (h : T_X12_isKnot_10 post P2 x1 x2 x3 μ) : V X 10 [(0, .ref (w.1 0)), (1, .int x1), (2, .int x2), (3, .int x3)] [] (wls w shM 22 μ) :=
  h (fun x1 x2 x3 μ => V X 10 [(0, .ref (w.1 0)), (1, .int x1), (2, .int x2), (3, .int x3)] [] (wls w shM 22 μ)) (fun x1 x2 x3 μ h => bv_X12_isKnot_10 g hX post hR P2 hP2 (fun x1 x2 x3 μ => V X 10 [(0, .ref (w.1 0)), (1, .int x1), (2, .int x2), (3, .int x3)] [] (wls w shM 22 μ)) (fun _ _ _ _ h => h) x1 x2 x3 μ h)
def B_X12_isKnot_2 (post : Int32 → Mem → Prop) (P2 : Int32 → Int32 → Mem → Prop) (x1 : Int32) (x2 : Int32) (μ : Mem) : Prop :=
  ((10 ≤ x2 → post 1 μ) ∧ (¬ 10 ≤ x2 → T_X12_isKnot_10 post P2 x1 x2 0 μ))
def T_X12_isKnot_2 (post : Int32 → Mem → Prop) (x1 : Int32) (x2 : Int32) (μ : Mem) : Prop :=
  ∀ P2 : Int32 → Int32 → Mem → Prop, (∀ (x1 : Int32) (x2 : Int32) (μ : Mem), B_X12_isKnot_2 post P2 x1 x2 μ → P2 x1 x2 μ) → P2 x1 x2 μ
theorem bv_X12_isKnot_2 {X : Cx} {w : Wd} {l : Launch} {D : va_G} {A : Nat → Prop} (g : Gd X w RX12 cX12_isKnot 4 rm_X12_isKnot) (hX : atX X l D A) (post : Int32 → Mem → Prop) (hR : Rt X w shM 22 (some .boolean) (pI post)) (P2 : Int32 → Int32 → Mem → Prop) (hP2 : ∀ (x1 : Int32) (x2 : Int32) (μ : Mem), P2 x1 x2 μ → V X 2 [(0, .ref (w.1 0)), (1, .int x1), (2, .int x2)] [] (wls w shM 22 μ)) (x1 : Int32) (x2 : Int32) (μ : Mem) (h : B_X12_isKnot_2 post P2 x1 x2 μ) : V X 2 [(0, .ref (w.1 0)), (1, .int x1), (2, .int x2)] [] (wls w shM 22 μ) := by
  refine r_iload_n (pc := 2) 2 g dX12_isKnot_2 rfl ?_
  refine r_bipush (pc := 3) g dX12_isKnot_3 cb_10 ?_
  refine r_icmp_ge (pc := 5) 54 g dX12_isKnot_5 rfl (fun q => ?_) (fun q => ?_)
  · have h := h.1 q
    refine r_iconst (pc := 54) g dX12_isKnot_54 ci_1 ?_
    exact r_zreti (pc := 55) g hR dX12_isKnot_55 (Or.inr rfl) h
  · have h := h.2 q
    refine r_iconst (pc := 8) g dX12_isKnot_8 ci_0 ?_
    refine r_istore_n (pc := 9) (lv' := [(3, .int 0), (0, .ref (w.1 0)), (1, .int x1), (2, .int x2)]) g dX12_isKnot_9 rfl rfl ?_
    refine r_sub [1, 2, 3, 0] (lv' := [(0, .ref (w.1 0)), (1, .int x1), (2, .int x2), (3, .int 0)]) rfl ?_
    exact v_X12_isKnot_10 g hX post hR P2 hP2 x1 x2 0 μ h
theorem v_X12_isKnot_2 {X : Cx} {w : Wd} {l : Launch} {D : va_G} {A : Nat → Prop} (g : Gd X w RX12 cX12_isKnot 4 rm_X12_isKnot) (hX : atX X l D A) (post : Int32 → Mem → Prop) (hR : Rt X w shM 22 (some .boolean) (pI post)) (x1 : Int32) (x2 : Int32) (μ : Mem) (h : T_X12_isKnot_2 post x1 x2 μ) : V X 2 [(0, .ref (w.1 0)), (1, .int x1), (2, .int x2)] [] (wls w shM 22 μ) :=
  h (fun x1 x2 μ => V X 2 [(0, .ref (w.1 0)), (1, .int x1), (2, .int x2)] [] (wls w shM 22 μ)) (fun x1 x2 μ h => bv_X12_isKnot_2 g hX post hR (fun x1 x2 μ => V X 2 [(0, .ref (w.1 0)), (1, .int x1), (2, .int x2)] [] (wls w shM 22 μ)) (fun _ _ _ h => h) x1 x2 μ h)
def T_X12_isKnot (x1 : Int32) (μ : Mem) (post : Int32 → Mem → Prop) : Prop :=
  T_X12_isKnot_2 post x1 0 μ
theorem m_X12_isKnot {w : Wd} {l : Launch} {D : va_G} {A : Nat → Prop} (x1 : Int32) (μ : Mem) (post : Int32 → Mem → Prop) (h : T_X12_isKnot x1 μ post) : MetX l D A w shM 22 yX12_isKnot cX12_isKnot 4 (some .boolean) rm_X12_isKnot [.ref (w.1 0), .int x1] μ (pI post) := by
  refine metX_of (by decide) rfl (lv := [(0, .ref (w.1 0)), (1, .int x1)]) rfl (fun X hX g hR => ?_)
  refine r_iconst (pc := 0) g dX12_isKnot_0 ci_0 ?_
  refine r_istore_n (pc := 1) (lv' := [(2, .int 0), (0, .ref (w.1 0)), (1, .int x1)]) g dX12_isKnot_1 rfl rfl ?_
  refine r_sub [1, 2, 0] (lv' := [(0, .ref (w.1 0)), (1, .int x1), (2, .int 0)]) rfl ?_
  exact v_X12_isKnot_2 g hX post hR x1 0 μ h
abbrev rm_X12_knotOf : Room := { frames := 3, cells := 0, slots := 0, locals := 67 }
def B_X12_knotOf_6 (post : Int32 → Mem → Prop) (P6 : Int32 → Int32 → Int32 → Mem → Prop) (x1 : Int32) (x2 : Int32) (x3 : Int32) (μ : Mem) : Prop :=
  ((1024 ≤ x3 → post x1 μ) ∧ (¬ 1024 ≤ x3 → T_X12_sizeOf x3 μ (fun (u1 : Int32) (μ2 : Mem) => ((u1 ≤ x2 → P6 x1 x2 (x3 + 1) μ2) ∧ (¬ u1 ≤ x2 → T_X12_isKnot x3 μ2 (fun (u3 : Int32) (μ4 : Mem) => ((u3 = 0 → P6 x1 x2 (x3 + 1) μ4) ∧ (¬ u3 = 0 → P6 x3 u1 (x3 + 1) μ4))))))))
def T_X12_knotOf_6 (post : Int32 → Mem → Prop) (x1 : Int32) (x2 : Int32) (x3 : Int32) (μ : Mem) : Prop :=
  ∀ P6 : Int32 → Int32 → Int32 → Mem → Prop, (∀ (x1 : Int32) (x2 : Int32) (x3 : Int32) (μ : Mem), B_X12_knotOf_6 post P6 x1 x2 x3 μ → P6 x1 x2 x3 μ) → P6 x1 x2 x3 μ
theorem bv_X12_knotOf_6 {X : Cx} {w : Wd} {l : Launch} {D : va_G} {A : Nat → Prop} (g : Gd X w RX12 cX12_knotOf 5 rm_X12_knotOf) (hX : atX X l D A) (post : Int32 → Mem → Prop) (hR : Rt X w shM 22 (some .int) (pI post)) (P6 : Int32 → Int32 → Int32 → Mem → Prop) (hP6 : ∀ (x1 : Int32) (x2 : Int32) (x3 : Int32) (μ : Mem), P6 x1 x2 x3 μ → V X 6 [(0, .ref (w.1 0)), (1, .int x1), (2, .int x2), (3, .int x3)] [] (wls w shM 22 μ)) (x1 : Int32) (x2 : Int32) (x3 : Int32) (μ : Mem) (h : B_X12_knotOf_6 post P6 x1 x2 x3 μ) : V X 6 [(0, .ref (w.1 0)), (1, .int x1), (2, .int x2), (3, .int x3)] [] (wls w shM 22 μ) := by
  refine r_iload_n (pc := 6) 3 g dX12_knotOf_6 rfl ?_
  refine r_sipush (pc := 7) g dX12_knotOf_7 cs_1024 ?_
  refine r_icmp_ge (pc := 10) 45 g dX12_knotOf_10 rfl (fun q => ?_) (fun q => ?_)
  · have h := h.1 q
    refine r_iload_n (pc := 45) 1 g dX12_knotOf_45 rfl ?_
    exact r_ireti (pc := 46) g hR dX12_knotOf_46 h
  · have h := h.2 q
    refine r_aload_n (pc := 13) 0 g dX12_knotOf_13 rfl ?_
    refine r_iload_n (pc := 14) 3 g dX12_knotOf_14 rfl ?_
    refine r_callVi (pc := 15) (st := []) g hX dX12_knotOf_15 (m_X12_sizeOf x3 μ _ h) kb_RX12_147 kv_X12_sizeOf shM_out sM_0 rfl rfl rfl rfl (fun u1 μ2 h => ?_)
    refine r_istore (pc := 18) (lv' := [(4, .int u1), (0, .ref (w.1 0)), (1, .int x1), (2, .int x2), (3, .int x3)]) g dX12_knotOf_18 rfl rfl ?_
    refine r_iload (pc := 20) 0 g dX12_knotOf_20 rfl ?_
    refine r_iload_n (pc := 22) 3 g dX12_knotOf_22 rfl ?_
    refine r_icmp_le (pc := 23) 39 g dX12_knotOf_23 rfl (fun q => ?_) (fun q => ?_)
    · have h := h.1 q
      refine r_iinc (pc := 39) (lv' := [(3, .int (x3 + 1)), (4, .int u1), (0, .ref (w.1 0)), (1, .int x1), (2, .int x2)]) 4 g dX12_knotOf_39 rfl ci_1 rfl rfl ?_
      refine r_goto (pc := 42) 6 g dX12_knotOf_42 rfl ?_
      refine r_sub [2, 3, 4, 0] (lv' := [(0, .ref (w.1 0)), (1, .int x1), (2, .int x2), (3, .int (x3 + 1))]) rfl ?_
      exact hP6 x1 x2 (x3 + 1) μ2 h
    · have h := h.2 q
      refine r_aload_n (pc := 26) 1 g dX12_knotOf_26 rfl ?_
      refine r_iload_n (pc := 27) 4 g dX12_knotOf_27 rfl ?_
      refine r_callVi (pc := 28) (st := []) g hX dX12_knotOf_28 (m_X12_isKnot x3 μ2 _ h) kb_RX12_217 kv_X12_isKnot shM_out sM_0 rfl rfl rfl rfl (fun u3 μ4 h => ?_)
      refine r_if_eq (pc := 31) 39 g dX12_knotOf_31 rfl (fun q => ?_) (fun q => ?_)
      · have h := h.1 q
        refine r_iinc (pc := 39) (lv' := [(3, .int (x3 + 1)), (4, .int u1), (0, .ref (w.1 0)), (1, .int x1), (2, .int x2)]) 4 g dX12_knotOf_39 rfl ci_1 rfl rfl ?_
        refine r_goto (pc := 42) 6 g dX12_knotOf_42 rfl ?_
        refine r_sub [2, 3, 4, 0] (lv' := [(0, .ref (w.1 0)), (1, .int x1), (2, .int x2), (3, .int (x3 + 1))]) rfl ?_
        exact hP6 x1 x2 (x3 + 1) μ4 h
      · have h := h.2 q
        refine r_iload_n (pc := 34) 4 g dX12_knotOf_34 rfl ?_
        refine r_istore_n (pc := 35) (lv' := [(1, .int x3), (4, .int u1), (0, .ref (w.1 0)), (2, .int x2), (3, .int x3)]) g dX12_knotOf_35 rfl rfl ?_
        refine r_iload (pc := 36) 1 g dX12_knotOf_36 rfl ?_
        refine r_istore_n (pc := 38) (lv' := [(2, .int u1), (1, .int x3), (4, .int u1), (0, .ref (w.1 0)), (3, .int x3)]) g dX12_knotOf_38 rfl rfl ?_
        refine r_iinc (pc := 39) (lv' := [(3, .int (x3 + 1)), (2, .int u1), (1, .int x3), (4, .int u1), (0, .ref (w.1 0))]) 4 g dX12_knotOf_39 rfl ci_1 rfl rfl ?_
        refine r_goto (pc := 42) 6 g dX12_knotOf_42 rfl ?_
        refine r_sub [4, 2, 1, 0] (lv' := [(0, .ref (w.1 0)), (1, .int x3), (2, .int u1), (3, .int (x3 + 1))]) rfl ?_
        exact hP6 x3 u1 (x3 + 1) μ4 h
theorem v_X12_knotOf_6 {X : Cx} {w : Wd} {l : Launch} {D : va_G} {A : Nat → Prop} (g : Gd X w RX12 cX12_knotOf 5 rm_X12_knotOf) (hX : atX X l D A) (post : Int32 → Mem → Prop) (hR : Rt X w shM 22 (some .int) (pI post)) (x1 : Int32) (x2 : Int32) (x3 : Int32) (μ : Mem) (h : T_X12_knotOf_6 post x1 x2 x3 μ) : V X 6 [(0, .ref (w.1 0)), (1, .int x1), (2, .int x2), (3, .int x3)] [] (wls w shM 22 μ) :=
  h (fun x1 x2 x3 μ => V X 6 [(0, .ref (w.1 0)), (1, .int x1), (2, .int x2), (3, .int x3)] [] (wls w shM 22 μ)) (fun x1 x2 x3 μ h => bv_X12_knotOf_6 g hX post hR (fun x1 x2 x3 μ => V X 6 [(0, .ref (w.1 0)), (1, .int x1), (2, .int x2), (3, .int x3)] [] (wls w shM 22 μ)) (fun _ _ _ _ h => h) x1 x2 x3 μ h)
def T_X12_knotOf (μ : Mem) (post : Int32 → Mem → Prop) : Prop :=
  T_X12_knotOf_6 post 0 0 1 μ
theorem m_X12_knotOf {w : Wd} {l : Launch} {D : va_G} {A : Nat → Prop} (μ : Mem) (post : Int32 → Mem → Prop) (h : T_X12_knotOf μ post) : MetX l D A w shM 22 yX12_knotOf cX12_knotOf 5 (some .int) rm_X12_knotOf [.ref (w.1 0)] μ (pI post) := by
  refine metX_of (by decide) rfl (lv := [(0, .ref (w.1 0))]) rfl (fun X hX g hR => ?_)
  refine r_iconst (pc := 0) g dX12_knotOf_0 ci_0 ?_
  refine r_istore_n (pc := 1) (lv' := [(1, .int 0), (0, .ref (w.1 0))]) g dX12_knotOf_1 rfl rfl ?_
  refine r_iconst (pc := 2) g dX12_knotOf_2 ci_0 ?_
  refine r_istore_n (pc := 3) (lv' := [(2, .int 0), (1, .int 0), (0, .ref (w.1 0))]) g dX12_knotOf_3 rfl rfl ?_
  refine r_iconst (pc := 4) g dX12_knotOf_4 ci_1 ?_
  refine r_istore_n (pc := 5) (lv' := [(3, .int 1), (2, .int 0), (1, .int 0), (0, .ref (w.1 0))]) g dX12_knotOf_5 rfl rfl ?_
  refine r_sub [3, 2, 1, 0] (lv' := [(0, .ref (w.1 0)), (1, .int 0), (2, .int 0), (3, .int 1)]) rfl ?_
  exact v_X12_knotOf_6 g hX post hR 0 0 1 μ h
abbrev rm_X12_knot : Room := { frames := 4, cells := 0, slots := 0, locals := 91 }
def T_X12_knot (x1 : Int32) (μ : Mem) (post : Int32 → Mem → Prop) : Prop :=
  T_X12_isIn x1 0 1 μ (fun (u1 : Int32) (μ2 : Mem) => ((¬ u1 = 0 → T_X12_knotOf μ2 (fun (u3 : Int32) (μ4 : Mem) => ((¬ x1 = 0 → T_X12_sizeOf u3 μ4 (fun (u5 : Int32) (μ6 : Mem) => post u5 μ6)) ∧ (x1 = 0 → post u3 μ4)))) ∧ (u1 = 0 → post (-2) μ2)))
theorem m_X12_knot {w : Wd} {l : Launch} {D : va_G} {A : Nat → Prop} (x1 : Int32) (μ : Mem) (post : Int32 → Mem → Prop) (h : T_X12_knot x1 μ post) : MetX l D A w shM 22 yX12_knot cX12_knot 3 (some .int) rm_X12_knot [.ref (w.1 0), .int x1] μ (pI post) := by
  refine metX_of (by decide) rfl (lv := [(0, .ref (w.1 0)), (1, .int x1)]) rfl (fun X hX g hR => ?_)
  refine r_iload_n (pc := 0) 1 g dX12_knot_0 rfl ?_
  refine r_iconst (pc := 1) g dX12_knot_1 ci_0 ?_
  refine r_iconst (pc := 2) g dX12_knot_2 ci_1 ?_
  refine r_callSi (pc := 3) (st := []) g hX dX12_knot_3 (m_X12_isIn x1 0 1 μ _ h) kb_RX12_79 k_1097 rfl rfl rfl rfl (fun u1 μ2 h => ?_)
  refine r_if_ne (pc := 6) 12 g dX12_knot_6 rfl (fun q => ?_) (fun q => ?_)
  · have h := h.1 q
    refine r_aload_n (pc := 12) 0 g dX12_knot_12 rfl ?_
    refine r_callVi (pc := 13) (st := []) g hX dX12_knot_13 (m_X12_knotOf μ2 _ h) kb_RX12_220 kv_X12_knotOf shM_out sM_0 rfl rfl rfl rfl (fun u3 μ4 h => ?_)
    refine r_istore_n (pc := 16) (lv' := [(2, .int u3), (0, .ref (w.1 0)), (1, .int x1)]) g dX12_knot_16 rfl rfl ?_
    refine r_iload_n (pc := 17) 2 g dX12_knot_17 rfl ?_
    refine r_if_ne (pc := 18) 25 g dX12_knot_18 rfl (fun q => ?_) (fun q => ?_)
    · have h := h.1 q
      refine r_aload_n (pc := 25) 1 g dX12_knot_25 rfl ?_
      refine r_iload_n (pc := 26) 0 g dX12_knot_26 rfl ?_
      refine r_callVi (pc := 27) (st := []) g hX dX12_knot_27 (m_X12_sizeOf u3 μ4 _ h) kb_RX12_147 kv_X12_sizeOf shM_out sM_0 rfl rfl rfl rfl (fun u5 μ6 h => ?_)
      exact r_ireti (pc := 30) g hR dX12_knot_30 h
    · have h := h.2 q
      refine r_iload_n (pc := 21) 0 g dX12_knot_21 rfl ?_
      refine r_goto (pc := 22) 30 g dX12_knot_22 rfl ?_
      exact r_ireti (pc := 30) g hR dX12_knot_30 h
  · have h := h.2 q
    refine r_bipush (pc := 9) g dX12_knot_9 cb_m2 ?_
    exact r_ireti (pc := 11) g hR dX12_knot_11 h
abbrev rm_X12_bound : Room := { frames := 4, cells := 0, slots := 0, locals := 91 }
def T_X12_bound_40 (post : Int32 → Mem → Prop) (P11 : Int32 → Int32 → Mem → Prop) (x2 : Int32) (s0 : Int32) (μ : Mem) : Prop :=
  P11 s0 (x2 + 1) μ
theorem v_X12_bound_40 {X : Cx} {w : Wd} {l : Launch} {D : va_G} {A : Nat → Prop} (g : Gd X w RX12 cX12_bound 4 rm_X12_bound) (hX : atX X l D A) (post : Int32 → Mem → Prop) (hR : Rt X w shM 22 (some .int) (pI post)) (P11 : Int32 → Int32 → Mem → Prop) (hP11 : ∀ (x1 : Int32) (x2 : Int32) (μ : Mem), P11 x1 x2 μ → V X 11 [(0, .ref (w.1 0)), (1, .int x1), (2, .int x2)] [] (wls w shM 22 μ)) (x2 : Int32) (s0 : Int32) (μ : Mem) (h : T_X12_bound_40 post P11 x2 s0 μ) : V X 40 [(0, .ref (w.1 0)), (2, .int x2)] [.int s0] (wls w shM 22 μ) := by
  refine r_istore_n (pc := 40) (lv' := [(1, .int s0), (0, .ref (w.1 0)), (2, .int x2)]) g dX12_bound_40 rfl rfl ?_
  refine r_iinc (pc := 41) (lv' := [(2, .int (x2 + 1)), (1, .int s0), (0, .ref (w.1 0))]) 2 g dX12_bound_41 rfl ci_1 rfl rfl ?_
  refine r_goto (pc := 44) 11 g dX12_bound_44 rfl ?_
  refine r_sub [2, 1, 0] (lv' := [(0, .ref (w.1 0)), (1, .int s0), (2, .int (x2 + 1))]) rfl ?_
  exact hP11 s0 (x2 + 1) μ h
def T_X12_bound_73 (post : Int32 → Mem → Prop) (P49 : Int32 → Int32 → Mem → Prop) (x2 : Int32) (s0 : Int32) (μ : Mem) : Prop :=
  P49 s0 (x2 + 1) μ
theorem v_X12_bound_73 {X : Cx} {w : Wd} {l : Launch} {D : va_G} {A : Nat → Prop} (g : Gd X w RX12 cX12_bound 4 rm_X12_bound) (hX : atX X l D A) (post : Int32 → Mem → Prop) (hR : Rt X w shM 22 (some .int) (pI post)) (P49 : Int32 → Int32 → Mem → Prop) (hP49 : ∀ (x1 : Int32) (x2 : Int32) (μ : Mem), P49 x1 x2 μ → V X 49 [(0, .ref (w.1 0)), (1, .int x1), (2, .int x2)] [] (wls w shM 22 μ)) (x2 : Int32) (s0 : Int32) (μ : Mem) (h : T_X12_bound_73 post P49 x2 s0 μ) : V X 73 [(0, .ref (w.1 0)), (2, .int x2)] [.int s0] (wls w shM 22 μ) := by
  refine r_istore_n (pc := 73) (lv' := [(1, .int s0), (0, .ref (w.1 0)), (2, .int x2)]) g dX12_bound_73 rfl rfl ?_
  refine r_iinc (pc := 74) (lv' := [(2, .int (x2 + 1)), (1, .int s0), (0, .ref (w.1 0))]) 2 g dX12_bound_74 rfl ci_1 rfl rfl ?_
  refine r_goto (pc := 77) 49 g dX12_bound_77 rfl ?_
  refine r_sub [2, 1, 0] (lv' := [(0, .ref (w.1 0)), (1, .int s0), (2, .int (x2 + 1))]) rfl ?_
  exact hP49 s0 (x2 + 1) μ h
def B_X12_bound_49 (post : Int32 → Mem → Prop) (P49 : Int32 → Int32 → Mem → Prop) (x1 : Int32) (x2 : Int32) (μ : Mem) : Prop :=
  (((μ 0 5) < x2 → post x1 μ) ∧ (¬ (μ 0 5) < x2 → T_X12_crossOf x2 μ (fun (u1 : Int32) (μ2 : Mem) => ((u1 ≤ x1 → T_X12_bound_73 post P49 x2 x1 μ2) ∧ (¬ u1 ≤ x1 → T_X12_bound_73 post P49 x2 u1 μ2)))))
def T_X12_bound_49 (post : Int32 → Mem → Prop) (x1 : Int32) (x2 : Int32) (μ : Mem) : Prop :=
  ∀ P49 : Int32 → Int32 → Mem → Prop, (∀ (x1 : Int32) (x2 : Int32) (μ : Mem), B_X12_bound_49 post P49 x1 x2 μ → P49 x1 x2 μ) → P49 x1 x2 μ
theorem bv_X12_bound_49 {X : Cx} {w : Wd} {l : Launch} {D : va_G} {A : Nat → Prop} (g : Gd X w RX12 cX12_bound 4 rm_X12_bound) (hX : atX X l D A) (post : Int32 → Mem → Prop) (hR : Rt X w shM 22 (some .int) (pI post)) (P49 : Int32 → Int32 → Mem → Prop) (hP49 : ∀ (x1 : Int32) (x2 : Int32) (μ : Mem), P49 x1 x2 μ → V X 49 [(0, .ref (w.1 0)), (1, .int x1), (2, .int x2)] [] (wls w shM 22 μ)) (x1 : Int32) (x2 : Int32) (μ : Mem) (h : B_X12_bound_49 post P49 x1 x2 μ) : V X 49 [(0, .ref (w.1 0)), (1, .int x1), (2, .int x2)] [] (wls w shM 22 μ) := by
  refine r_iload_n (pc := 49) 2 g dX12_bound_49 rfl ?_
  refine r_aload_n (pc := 50) 0 g dX12_bound_50 rfl ?_
  refine r_geti (pc := 51) (μ := μ) g dX12_bound_51 fa_RX12_83 shM_out sM_0 rfl ?_
  refine r_icmp_gt (pc := 54) 80 g dX12_bound_54 rfl (fun q => ?_) (fun q => ?_)
  · have h := h.1 q
    refine r_iload_n (pc := 80) 1 g dX12_bound_80 rfl ?_
    exact r_ireti (pc := 81) g hR dX12_bound_81 h
  · have h := h.2 q
    refine r_aload_n (pc := 57) 0 g dX12_bound_57 rfl ?_
    refine r_iload_n (pc := 58) 2 g dX12_bound_58 rfl ?_
    refine r_callVi (pc := 59) (st := []) g hX dX12_bound_59 (m_X12_crossOf x2 μ _ h) kb_RX12_211 kv_X12_crossOf shM_out sM_0 rfl rfl rfl rfl (fun u1 μ2 h => ?_)
    refine r_istore_n (pc := 62) (lv' := [(3, .int u1), (0, .ref (w.1 0)), (1, .int x1), (2, .int x2)]) g dX12_bound_62 rfl rfl ?_
    refine r_iload_n (pc := 63) 0 g dX12_bound_63 rfl ?_
    refine r_iload_n (pc := 64) 2 g dX12_bound_64 rfl ?_
    refine r_icmp_le (pc := 65) 72 g dX12_bound_65 rfl (fun q => ?_) (fun q => ?_)
    · have h := h.1 q
      refine r_iload_n (pc := 72) 2 g dX12_bound_72 rfl ?_
      refine r_sub [1, 3] (lv' := [(0, .ref (w.1 0)), (2, .int x2)]) rfl ?_
      exact v_X12_bound_73 g hX post hR P49 hP49 x2 x1 μ2 h
    · have h := h.2 q
      refine r_iload_n (pc := 68) 0 g dX12_bound_68 rfl ?_
      refine r_goto (pc := 69) 73 g dX12_bound_69 rfl ?_
      refine r_sub [1, 3] (lv' := [(0, .ref (w.1 0)), (2, .int x2)]) rfl ?_
      exact v_X12_bound_73 g hX post hR P49 hP49 x2 u1 μ2 h
theorem v_X12_bound_49 {X : Cx} {w : Wd} {l : Launch} {D : va_G} {A : Nat → Prop} (g : Gd X w RX12 cX12_bound 4 rm_X12_bound) (hX : atX X l D A) (post : Int32 → Mem → Prop) (hR : Rt X w shM 22 (some .int) (pI post)) (x1 : Int32) (x2 : Int32) (μ : Mem) (h : T_X12_bound_49 post x1 x2 μ) : V X 49 [(0, .ref (w.1 0)), (1, .int x1), (2, .int x2)] [] (wls w shM 22 μ) :=
  h (fun x1 x2 μ => V X 49 [(0, .ref (w.1 0)), (1, .int x1), (2, .int x2)] [] (wls w shM 22 μ)) (fun x1 x2 μ h => bv_X12_bound_49 g hX post hR (fun x1 x2 μ => V X 49 [(0, .ref (w.1 0)), (1, .int x1), (2, .int x2)] [] (wls w shM 22 μ)) (fun _ _ _ h => h) x1 x2 μ h)
def B_X12_bound_11 (post : Int32 → Mem → Prop) (P11 : Int32 → Int32 → Mem → Prop) (x1 : Int32) (x2 : Int32) (μ : Mem) : Prop :=
  (((μ 0 5) ≤ x2 → T_X12_bound_49 post x1 0 μ) ∧ (¬ (μ 0 5) ≤ x2 → vp_in x2 9 ∧ T_X12_sizeOf (μ 4 x2.toNatClampNeg) μ (fun (u2 : Int32) (μ3 : Mem) => ((u2 ≤ x1 → T_X12_bound_40 post P11 x2 x1 μ3) ∧ (¬ u2 ≤ x1 → T_X12_bound_40 post P11 x2 u2 μ3)))))
def T_X12_bound_11 (post : Int32 → Mem → Prop) (x1 : Int32) (x2 : Int32) (μ : Mem) : Prop :=
  ∀ P11 : Int32 → Int32 → Mem → Prop, (∀ (x1 : Int32) (x2 : Int32) (μ : Mem), B_X12_bound_11 post P11 x1 x2 μ → P11 x1 x2 μ) → P11 x1 x2 μ
theorem bv_X12_bound_11 {X : Cx} {w : Wd} {l : Launch} {D : va_G} {A : Nat → Prop} (g : Gd X w RX12 cX12_bound 4 rm_X12_bound) (hX : atX X l D A) (post : Int32 → Mem → Prop) (hR : Rt X w shM 22 (some .int) (pI post)) (P11 : Int32 → Int32 → Mem → Prop) (hP11 : ∀ (x1 : Int32) (x2 : Int32) (μ : Mem), P11 x1 x2 μ → V X 11 [(0, .ref (w.1 0)), (1, .int x1), (2, .int x2)] [] (wls w shM 22 μ)) (x1 : Int32) (x2 : Int32) (μ : Mem) (h : B_X12_bound_11 post P11 x1 x2 μ) : V X 11 [(0, .ref (w.1 0)), (1, .int x1), (2, .int x2)] [] (wls w shM 22 μ) := by
  refine r_iload_n (pc := 11) 2 g dX12_bound_11 rfl ?_
  refine r_aload_n (pc := 12) 0 g dX12_bound_12 rfl ?_
  refine r_geti (pc := 13) (μ := μ) g dX12_bound_13 fa_RX12_83 shM_out sM_0 rfl ?_
  refine r_icmp_ge (pc := 16) 47 g dX12_bound_16 rfl (fun q => ?_) (fun q => ?_)
  · have h := h.1 q
    refine r_iconst (pc := 47) g dX12_bound_47 ci_0 ?_
    refine r_istore_n (pc := 48) (lv' := [(2, .int 0), (0, .ref (w.1 0)), (1, .int x1)]) g dX12_bound_48 rfl rfl ?_
    refine r_sub [1, 2, 0] (lv' := [(0, .ref (w.1 0)), (1, .int x1), (2, .int 0)]) rfl ?_
    exact v_X12_bound_49 g hX post hR x1 0 μ h
  · have h := h.2 q
    refine r_aload_n (pc := 19) 0 g dX12_bound_19 rfl ?_
    refine r_aload_n (pc := 20) 0 g dX12_bound_20 rfl ?_
    refine r_getr (pc := 21) (μ := μ) g dX12_bound_21 fa_RX12_19 shM_out sM_0 rfl ?_
    refine r_iload_n (pc := 24) 2 g dX12_bound_24 rfl ?_
    obtain ⟨b1, h⟩ := h
    refine r_iaload (pc := 25) (μ := μ) g dX12_bound_25 shM_out sM_4 b1 ?_
    refine r_callVi (pc := 26) (st := []) g hX dX12_bound_26 (m_X12_sizeOf (μ 4 x2.toNatClampNeg) μ _ h) kb_RX12_147 kv_X12_sizeOf shM_out sM_0 rfl rfl rfl rfl (fun u2 μ3 h => ?_)
    refine r_istore_n (pc := 29) (lv' := [(3, .int u2), (0, .ref (w.1 0)), (1, .int x1), (2, .int x2)]) g dX12_bound_29 rfl rfl ?_
    refine r_iload_n (pc := 30) 0 g dX12_bound_30 rfl ?_
    refine r_iload_n (pc := 31) 2 g dX12_bound_31 rfl ?_
    refine r_icmp_le (pc := 32) 39 g dX12_bound_32 rfl (fun q => ?_) (fun q => ?_)
    · have h := h.1 q
      refine r_iload_n (pc := 39) 2 g dX12_bound_39 rfl ?_
      refine r_sub [1, 3] (lv' := [(0, .ref (w.1 0)), (2, .int x2)]) rfl ?_
      exact v_X12_bound_40 g hX post hR P11 hP11 x2 x1 μ3 h
    · have h := h.2 q
      refine r_iload_n (pc := 35) 0 g dX12_bound_35 rfl ?_
      refine r_goto (pc := 36) 40 g dX12_bound_36 rfl ?_
      refine r_sub [1, 3] (lv' := [(0, .ref (w.1 0)), (2, .int x2)]) rfl ?_
      exact v_X12_bound_40 g hX post hR P11 hP11 x2 u2 μ3 h
theorem v_X12_bound_11 {X : Cx} {w : Wd} {l : Launch} {D : va_G} {A : Nat → Prop} (g : Gd X w RX12 cX12_bound 4 rm_X12_bound) (hX : atX X l D A) (post : Int32 → Mem → Prop) (hR : Rt X w shM 22 (some .int) (pI post)) (x1 : Int32) (x2 : Int32) (μ : Mem) (h : T_X12_bound_11 post x1 x2 μ) : V X 11 [(0, .ref (w.1 0)), (1, .int x1), (2, .int x2)] [] (wls w shM 22 μ) :=
  h (fun x1 x2 μ => V X 11 [(0, .ref (w.1 0)), (1, .int x1), (2, .int x2)] [] (wls w shM 22 μ)) (fun x1 x2 μ h => bv_X12_bound_11 g hX post hR (fun x1 x2 μ => V X 11 [(0, .ref (w.1 0)), (1, .int x1), (2, .int x2)] [] (wls w shM 22 μ)) (fun _ _ _ h => h) x1 x2 μ h)
def T_X12_bound (μ : Mem) (post : Int32 → Mem → Prop) : Prop :=
  T_X12_knotOf μ (fun (u1 : Int32) (μ2 : Mem) => T_X12_sizeOf u1 μ2 (fun (u3 : Int32) (μ4 : Mem) => T_X12_bound_11 post u3 0 μ4))
theorem m_X12_bound {w : Wd} {l : Launch} {D : va_G} {A : Nat → Prop} (μ : Mem) (post : Int32 → Mem → Prop) (h : T_X12_bound μ post) : MetX l D A w shM 22 yX12_bound cX12_bound 4 (some .int) rm_X12_bound [.ref (w.1 0)] μ (pI post) := by
  refine metX_of (by decide) rfl (lv := [(0, .ref (w.1 0))]) rfl (fun X hX g hR => ?_)
  refine r_aload_n (pc := 0) 0 g dX12_bound_0 rfl ?_
  refine r_aload_n (pc := 1) 0 g dX12_bound_1 rfl ?_
  refine r_callVi (pc := 2) (st := [.ref (w.1 0)]) g hX dX12_bound_2 (m_X12_knotOf μ _ h) kb_RX12_220 kv_X12_knotOf shM_out sM_0 rfl rfl rfl rfl (fun u1 μ2 h => ?_)
  refine r_callVi (pc := 5) (st := []) g hX dX12_bound_5 (m_X12_sizeOf u1 μ2 _ h) kb_RX12_147 kv_X12_sizeOf shM_out sM_0 rfl rfl rfl rfl (fun u3 μ4 h => ?_)
  refine r_istore_n (pc := 8) (lv' := [(1, .int u3), (0, .ref (w.1 0))]) g dX12_bound_8 rfl rfl ?_
  refine r_iconst (pc := 9) g dX12_bound_9 ci_0 ?_
  refine r_istore_n (pc := 10) (lv' := [(2, .int 0), (1, .int u3), (0, .ref (w.1 0))]) g dX12_bound_10 rfl rfl ?_
  refine r_sub [2, 1, 0] (lv' := [(0, .ref (w.1 0)), (1, .int u3), (2, .int 0)]) rfl ?_
  exact v_X12_bound_11 g hX post hR u3 0 μ4 h
abbrev rm_X12_layParts : Room := { frames := 0, cells := 0, slots := 0, locals := 0 }
def B_X12_layParts_43 (post : Mem → Prop) (P25 : Int32 → Mem → Prop) (P33 : Int32 → Int32 → Mem → Prop) (P43 : Int32 → Int32 → Int32 → Mem → Prop) (x1 : Int32) (x2 : Int32) (x3 : Int32) (μ : Mem) : Prop :=
  (((μ 0 5) ≤ x3 → P33 x1 (x2 + 1) μ) ∧ (¬ (μ 0 5) ≤ x3 → vp_in x2 9 ∧ vp_in x3 9 ∧ ((((μ 4 x2.toNatClampNeg) &&& (μ 4 x3.toNatClampNeg)) = 0 → P43 x1 x2 (x3 + 1) μ) ∧ (¬ ((μ 4 x2.toNatClampNeg) &&& (μ 4 x3.toNatClampNeg)) = 0 → vp_in x3 9 ∧ vp_in x2 9 ∧ (((μ 19 x2.toNatClampNeg) ≤ (μ 19 x3.toNatClampNeg) → P43 x1 x2 (x3 + 1) μ) ∧ (¬ (μ 19 x2.toNatClampNeg) ≤ (μ 19 x3.toNatClampNeg) → vp_in x3 9 ∧ vp_in x2 9 ∧ P43 1 x2 (x3 + 1) (mset μ 19 x2.toNatClampNeg (μ 19 x3.toNatClampNeg))))))))
def T_X12_layParts_43 (post : Mem → Prop) (P25 : Int32 → Mem → Prop) (P33 : Int32 → Int32 → Mem → Prop) (x1 : Int32) (x2 : Int32) (x3 : Int32) (μ : Mem) : Prop :=
  ∀ P43 : Int32 → Int32 → Int32 → Mem → Prop, (∀ (x1 : Int32) (x2 : Int32) (x3 : Int32) (μ : Mem), B_X12_layParts_43 post P25 P33 P43 x1 x2 x3 μ → P43 x1 x2 x3 μ) → P43 x1 x2 x3 μ
theorem bv_X12_layParts_43 {X : Cx} {w : Wd} {l : Launch} {D : va_G} {A : Nat → Prop} (g : Gd X w RX12 cX12_layParts 4 rm_X12_layParts) (hX : atX X l D A) (post : Mem → Prop) (hR : Rt X w shM 22 none (pV post)) (P25 : Int32 → Mem → Prop) (hP25 : ∀ (x1 : Int32) (μ : Mem), P25 x1 μ → V X 25 [(0, .ref (w.1 0)), (1, .int x1)] [] (wls w shM 22 μ)) (P33 : Int32 → Int32 → Mem → Prop) (hP33 : ∀ (x1 : Int32) (x2 : Int32) (μ : Mem), P33 x1 x2 μ → V X 33 [(0, .ref (w.1 0)), (1, .int x1), (2, .int x2)] [] (wls w shM 22 μ)) (P43 : Int32 → Int32 → Int32 → Mem → Prop) (hP43 : ∀ (x1 : Int32) (x2 : Int32) (x3 : Int32) (μ : Mem), P43 x1 x2 x3 μ → V X 43 [(0, .ref (w.1 0)), (1, .int x1), (2, .int x2), (3, .int x3)] [] (wls w shM 22 μ)) (x1 : Int32) (x2 : Int32) (x3 : Int32) (μ : Mem) (h : B_X12_layParts_43 post P25 P33 P43 x1 x2 x3 μ) : V X 43 [(0, .ref (w.1 0)), (1, .int x1), (2, .int x2), (3, .int x3)] [] (wls w shM 22 μ) := by
  refine r_iload_n (pc := 43) 3 g dX12_layParts_43 rfl ?_
  refine r_aload_n (pc := 44) 0 g dX12_layParts_44 rfl ?_
  refine r_geti (pc := 45) (μ := μ) g dX12_layParts_45 fa_RX12_83 shM_out sM_0 rfl ?_
  refine r_icmp_ge (pc := 48) 102 g dX12_layParts_48 rfl (fun q => ?_) (fun q => ?_)
  · have h := h.1 q
    refine r_iinc (pc := 102) (lv' := [(2, .int (x2 + 1)), (0, .ref (w.1 0)), (1, .int x1), (3, .int x3)]) 2 g dX12_layParts_102 rfl ci_1 rfl rfl ?_
    refine r_goto (pc := 105) 33 g dX12_layParts_105 rfl ?_
    refine r_sub [1, 2, 0] (lv' := [(0, .ref (w.1 0)), (1, .int x1), (2, .int (x2 + 1))]) rfl ?_
    exact hP33 x1 (x2 + 1) μ h
  · have h := h.2 q
    refine r_aload_n (pc := 51) 0 g dX12_layParts_51 rfl ?_
    refine r_getr (pc := 52) (μ := μ) g dX12_layParts_52 fa_RX12_19 shM_out sM_0 rfl ?_
    refine r_iload_n (pc := 55) 2 g dX12_layParts_55 rfl ?_
    obtain ⟨b1, h⟩ := h
    refine r_iaload (pc := 56) (μ := μ) g dX12_layParts_56 shM_out sM_4 b1 ?_
    refine r_aload_n (pc := 57) 0 g dX12_layParts_57 rfl ?_
    refine r_getr (pc := 58) (μ := μ) g dX12_layParts_58 fa_RX12_19 shM_out sM_0 rfl ?_
    refine r_iload_n (pc := 61) 3 g dX12_layParts_61 rfl ?_
    obtain ⟨b2, h⟩ := h
    refine r_iaload (pc := 62) (μ := μ) g dX12_layParts_62 shM_out sM_4 b2 ?_
    refine r_iand (pc := 63) g dX12_layParts_63 ?_
    refine r_if_eq (pc := 64) 96 g dX12_layParts_64 rfl (fun q => ?_) (fun q => ?_)
    · have h := h.1 q
      refine r_iinc (pc := 96) (lv' := [(3, .int (x3 + 1)), (0, .ref (w.1 0)), (1, .int x1), (2, .int x2)]) 3 g dX12_layParts_96 rfl ci_1 rfl rfl ?_
      refine r_goto (pc := 99) 43 g dX12_layParts_99 rfl ?_
      refine r_sub [1, 2, 3, 0] (lv' := [(0, .ref (w.1 0)), (1, .int x1), (2, .int x2), (3, .int (x3 + 1))]) rfl ?_
      exact hP43 x1 x2 (x3 + 1) μ h
    · have h := h.2 q
      refine r_aload_n (pc := 67) 0 g dX12_layParts_67 rfl ?_
      refine r_getr (pc := 68) (μ := μ) g dX12_layParts_68 fa_RX12_64 shM_out sM_0 rfl ?_
      refine r_iload_n (pc := 71) 3 g dX12_layParts_71 rfl ?_
      obtain ⟨b3, h⟩ := h
      refine r_iaload (pc := 72) (μ := μ) g dX12_layParts_72 shM_out sM_19 b3 ?_
      refine r_aload_n (pc := 73) 0 g dX12_layParts_73 rfl ?_
      refine r_getr (pc := 74) (μ := μ) g dX12_layParts_74 fa_RX12_64 shM_out sM_0 rfl ?_
      refine r_iload_n (pc := 77) 2 g dX12_layParts_77 rfl ?_
      obtain ⟨b4, h⟩ := h
      refine r_iaload (pc := 78) (μ := μ) g dX12_layParts_78 shM_out sM_19 b4 ?_
      refine r_icmp_ge (pc := 79) 96 g dX12_layParts_79 rfl (fun q => ?_) (fun q => ?_)
      · have h := h.1 q
        refine r_iinc (pc := 96) (lv' := [(3, .int (x3 + 1)), (0, .ref (w.1 0)), (1, .int x1), (2, .int x2)]) 3 g dX12_layParts_96 rfl ci_1 rfl rfl ?_
        refine r_goto (pc := 99) 43 g dX12_layParts_99 rfl ?_
        refine r_sub [1, 2, 3, 0] (lv' := [(0, .ref (w.1 0)), (1, .int x1), (2, .int x2), (3, .int (x3 + 1))]) rfl ?_
        exact hP43 x1 x2 (x3 + 1) μ h
      · have h := h.2 q
        refine r_aload_n (pc := 82) 0 g dX12_layParts_82 rfl ?_
        refine r_getr (pc := 83) (μ := μ) g dX12_layParts_83 fa_RX12_64 shM_out sM_0 rfl ?_
        refine r_iload_n (pc := 86) 2 g dX12_layParts_86 rfl ?_
        refine r_aload_n (pc := 87) 0 g dX12_layParts_87 rfl ?_
        refine r_getr (pc := 88) (μ := μ) g dX12_layParts_88 fa_RX12_64 shM_out sM_0 rfl ?_
        refine r_iload_n (pc := 91) 3 g dX12_layParts_91 rfl ?_
        obtain ⟨b5, h⟩ := h
        refine r_iaload (pc := 92) (μ := μ) g dX12_layParts_92 shM_out sM_19 b5 ?_
        obtain ⟨b6, h⟩ := h
        refine r_iastore (pc := 93) (μ := μ) g dX12_layParts_93 shM_out sM_19 b6 ?_
        refine r_iconst (pc := 94) g dX12_layParts_94 ci_1 ?_
        refine r_istore_n (pc := 95) (lv' := [(1, .int 1), (0, .ref (w.1 0)), (2, .int x2), (3, .int x3)]) g dX12_layParts_95 rfl rfl ?_
        refine r_iinc (pc := 96) (lv' := [(3, .int (x3 + 1)), (1, .int 1), (0, .ref (w.1 0)), (2, .int x2)]) 3 g dX12_layParts_96 rfl ci_1 rfl rfl ?_
        refine r_goto (pc := 99) 43 g dX12_layParts_99 rfl ?_
        refine r_sub [2, 1, 3, 0] (lv' := [(0, .ref (w.1 0)), (1, .int 1), (2, .int x2), (3, .int (x3 + 1))]) rfl ?_
        exact hP43 1 x2 (x3 + 1) (mset μ 19 x2.toNatClampNeg (μ 19 x3.toNatClampNeg)) h
theorem v_X12_layParts_43 {X : Cx} {w : Wd} {l : Launch} {D : va_G} {A : Nat → Prop} (g : Gd X w RX12 cX12_layParts 4 rm_X12_layParts) (hX : atX X l D A) (post : Mem → Prop) (hR : Rt X w shM 22 none (pV post)) (P25 : Int32 → Mem → Prop) (hP25 : ∀ (x1 : Int32) (μ : Mem), P25 x1 μ → V X 25 [(0, .ref (w.1 0)), (1, .int x1)] [] (wls w shM 22 μ)) (P33 : Int32 → Int32 → Mem → Prop) (hP33 : ∀ (x1 : Int32) (x2 : Int32) (μ : Mem), P33 x1 x2 μ → V X 33 [(0, .ref (w.1 0)), (1, .int x1), (2, .int x2)] [] (wls w shM 22 μ)) (x1 : Int32) (x2 : Int32) (x3 : Int32) (μ : Mem) (h : T_X12_layParts_43 post P25 P33 x1 x2 x3 μ) : V X 43 [(0, .ref (w.1 0)), (1, .int x1), (2, .int x2), (3, .int x3)] [] (wls w shM 22 μ) :=
  h (fun x1 x2 x3 μ => V X 43 [(0, .ref (w.1 0)), (1, .int x1), (2, .int x2), (3, .int x3)] [] (wls w shM 22 μ)) (fun x1 x2 x3 μ h => bv_X12_layParts_43 g hX post hR P25 hP25 P33 hP33 (fun x1 x2 x3 μ => V X 43 [(0, .ref (w.1 0)), (1, .int x1), (2, .int x2), (3, .int x3)] [] (wls w shM 22 μ)) (fun _ _ _ _ h => h) x1 x2 x3 μ h)
def B_X12_layParts_33 (post : Mem → Prop) (P25 : Int32 → Mem → Prop) (P33 : Int32 → Int32 → Mem → Prop) (x1 : Int32) (x2 : Int32) (μ : Mem) : Prop :=
  (((μ 0 5) ≤ x2 → P25 x1 μ) ∧ (¬ (μ 0 5) ≤ x2 → T_X12_layParts_43 post P25 P33 x1 x2 0 μ))
def T_X12_layParts_33 (post : Mem → Prop) (P25 : Int32 → Mem → Prop) (x1 : Int32) (x2 : Int32) (μ : Mem) : Prop :=
  ∀ P33 : Int32 → Int32 → Mem → Prop, (∀ (x1 : Int32) (x2 : Int32) (μ : Mem), B_X12_layParts_33 post P25 P33 x1 x2 μ → P33 x1 x2 μ) → P33 x1 x2 μ
theorem bv_X12_layParts_33 {X : Cx} {w : Wd} {l : Launch} {D : va_G} {A : Nat → Prop} (g : Gd X w RX12 cX12_layParts 4 rm_X12_layParts) (hX : atX X l D A) (post : Mem → Prop) (hR : Rt X w shM 22 none (pV post)) (P25 : Int32 → Mem → Prop) (hP25 : ∀ (x1 : Int32) (μ : Mem), P25 x1 μ → V X 25 [(0, .ref (w.1 0)), (1, .int x1)] [] (wls w shM 22 μ)) (P33 : Int32 → Int32 → Mem → Prop) (hP33 : ∀ (x1 : Int32) (x2 : Int32) (μ : Mem), P33 x1 x2 μ → V X 33 [(0, .ref (w.1 0)), (1, .int x1), (2, .int x2)] [] (wls w shM 22 μ)) (x1 : Int32) (x2 : Int32) (μ : Mem) (h : B_X12_layParts_33 post P25 P33 x1 x2 μ) : V X 33 [(0, .ref (w.1 0)), (1, .int x1), (2, .int x2)] [] (wls w shM 22 μ) := by
  refine r_iload_n (pc := 33) 2 g dX12_layParts_33 rfl ?_
  refine r_aload_n (pc := 34) 0 g dX12_layParts_34 rfl ?_
  refine r_geti (pc := 35) (μ := μ) g dX12_layParts_35 fa_RX12_83 shM_out sM_0 rfl ?_
  refine r_icmp_ge (pc := 38) 108 g dX12_layParts_38 rfl (fun q => ?_) (fun q => ?_)
  · have h := h.1 q
    refine r_goto (pc := 108) 25 g dX12_layParts_108 rfl ?_
    refine r_sub [0, 1] (lv' := [(0, .ref (w.1 0)), (1, .int x1)]) rfl ?_
    exact hP25 x1 μ h
  · have h := h.2 q
    refine r_iconst (pc := 41) g dX12_layParts_41 ci_0 ?_
    refine r_istore_n (pc := 42) (lv' := [(3, .int 0), (0, .ref (w.1 0)), (1, .int x1), (2, .int x2)]) g dX12_layParts_42 rfl rfl ?_
    refine r_sub [1, 2, 3, 0] (lv' := [(0, .ref (w.1 0)), (1, .int x1), (2, .int x2), (3, .int 0)]) rfl ?_
    exact v_X12_layParts_43 g hX post hR P25 hP25 P33 hP33 x1 x2 0 μ h
theorem v_X12_layParts_33 {X : Cx} {w : Wd} {l : Launch} {D : va_G} {A : Nat → Prop} (g : Gd X w RX12 cX12_layParts 4 rm_X12_layParts) (hX : atX X l D A) (post : Mem → Prop) (hR : Rt X w shM 22 none (pV post)) (P25 : Int32 → Mem → Prop) (hP25 : ∀ (x1 : Int32) (μ : Mem), P25 x1 μ → V X 25 [(0, .ref (w.1 0)), (1, .int x1)] [] (wls w shM 22 μ)) (x1 : Int32) (x2 : Int32) (μ : Mem) (h : T_X12_layParts_33 post P25 x1 x2 μ) : V X 33 [(0, .ref (w.1 0)), (1, .int x1), (2, .int x2)] [] (wls w shM 22 μ) :=
  h (fun x1 x2 μ => V X 33 [(0, .ref (w.1 0)), (1, .int x1), (2, .int x2)] [] (wls w shM 22 μ)) (fun x1 x2 μ h => bv_X12_layParts_33 g hX post hR P25 hP25 (fun x1 x2 μ => V X 33 [(0, .ref (w.1 0)), (1, .int x1), (2, .int x2)] [] (wls w shM 22 μ)) (fun _ _ _ h => h) x1 x2 μ h)
def B_X12_layParts_25 (post : Mem → Prop) (P25 : Int32 → Mem → Prop) (x1 : Int32) (μ : Mem) : Prop :=
  ((x1 = 0 → post μ) ∧ (¬ x1 = 0 → T_X12_layParts_33 post P25 0 0 μ))
def T_X12_layParts_25 (post : Mem → Prop) (x1 : Int32) (μ : Mem) : Prop :=
  ∀ P25 : Int32 → Mem → Prop, (∀ (x1 : Int32) (μ : Mem), B_X12_layParts_25 post P25 x1 μ → P25 x1 μ) → P25 x1 μ
theorem bv_X12_layParts_25 {X : Cx} {w : Wd} {l : Launch} {D : va_G} {A : Nat → Prop} (g : Gd X w RX12 cX12_layParts 4 rm_X12_layParts) (hX : atX X l D A) (post : Mem → Prop) (hR : Rt X w shM 22 none (pV post)) (P25 : Int32 → Mem → Prop) (hP25 : ∀ (x1 : Int32) (μ : Mem), P25 x1 μ → V X 25 [(0, .ref (w.1 0)), (1, .int x1)] [] (wls w shM 22 μ)) (x1 : Int32) (μ : Mem) (h : B_X12_layParts_25 post P25 x1 μ) : V X 25 [(0, .ref (w.1 0)), (1, .int x1)] [] (wls w shM 22 μ) := by
  refine r_iload_n (pc := 25) 1 g dX12_layParts_25 rfl ?_
  refine r_if_eq (pc := 26) 111 g dX12_layParts_26 rfl (fun q => ?_) (fun q => ?_)
  · have h := h.1 q
    exact r_vretv (pc := 111) g hR dX12_layParts_111 h
  · have h := h.2 q
    refine r_iconst (pc := 29) g dX12_layParts_29 ci_0 ?_
    refine r_istore_n (pc := 30) (lv' := [(1, .int 0), (0, .ref (w.1 0))]) g dX12_layParts_30 rfl rfl ?_
    refine r_iconst (pc := 31) g dX12_layParts_31 ci_0 ?_
    refine r_istore_n (pc := 32) (lv' := [(2, .int 0), (1, .int 0), (0, .ref (w.1 0))]) g dX12_layParts_32 rfl rfl ?_
    refine r_sub [2, 1, 0] (lv' := [(0, .ref (w.1 0)), (1, .int 0), (2, .int 0)]) rfl ?_
    exact v_X12_layParts_33 g hX post hR P25 hP25 0 0 μ h
theorem v_X12_layParts_25 {X : Cx} {w : Wd} {l : Launch} {D : va_G} {A : Nat → Prop} (g : Gd X w RX12 cX12_layParts 4 rm_X12_layParts) (hX : atX X l D A) (post : Mem → Prop) (hR : Rt X w shM 22 none (pV post)) (x1 : Int32) (μ : Mem) (h : T_X12_layParts_25 post x1 μ) : V X 25 [(0, .ref (w.1 0)), (1, .int x1)] [] (wls w shM 22 μ) :=
  h (fun x1 μ => V X 25 [(0, .ref (w.1 0)), (1, .int x1)] [] (wls w shM 22 μ)) (fun x1 μ h => bv_X12_layParts_25 g hX post hR (fun x1 μ => V X 25 [(0, .ref (w.1 0)), (1, .int x1)] [] (wls w shM 22 μ)) (fun _ _ h => h) x1 μ h)
def B_X12_layParts_2 (post : Mem → Prop) (P2 : Int32 → Mem → Prop) (x1 : Int32) (μ : Mem) : Prop :=
  (((μ 0 5) ≤ x1 → T_X12_layParts_25 post 1 μ) ∧ (¬ (μ 0 5) ≤ x1 → vp_in x1 9 ∧ P2 (x1 + 1) (mset μ 19 x1.toNatClampNeg x1)))
def T_X12_layParts_2 (post : Mem → Prop) (x1 : Int32) (μ : Mem) : Prop :=
  ∀ P2 : Int32 → Mem → Prop, (∀ (x1 : Int32) (μ : Mem), B_X12_layParts_2 post P2 x1 μ → P2 x1 μ) → P2 x1 μ
theorem bv_X12_layParts_2 {X : Cx} {w : Wd} {l : Launch} {D : va_G} {A : Nat → Prop} (g : Gd X w RX12 cX12_layParts 4 rm_X12_layParts) (hX : atX X l D A) (post : Mem → Prop) (hR : Rt X w shM 22 none (pV post)) (P2 : Int32 → Mem → Prop) (hP2 : ∀ (x1 : Int32) (μ : Mem), P2 x1 μ → V X 2 [(0, .ref (w.1 0)), (1, .int x1)] [] (wls w shM 22 μ)) (x1 : Int32) (μ : Mem) (h : B_X12_layParts_2 post P2 x1 μ) : V X 2 [(0, .ref (w.1 0)), (1, .int x1)] [] (wls w shM 22 μ) := by
  refine r_iload_n (pc := 2) 1 g dX12_layParts_2 rfl ?_
  refine r_aload_n (pc := 3) 0 g dX12_layParts_3 rfl ?_
  refine r_geti (pc := 4) (μ := μ) g dX12_layParts_4 fa_RX12_83 shM_out sM_0 rfl ?_
  refine r_icmp_ge (pc := 7) 23 g dX12_layParts_7 rfl (fun q => ?_) (fun q => ?_)
  · have h := h.1 q
    refine r_iconst (pc := 23) g dX12_layParts_23 ci_1 ?_
    refine r_istore_n (pc := 24) (lv' := [(1, .int 1), (0, .ref (w.1 0))]) g dX12_layParts_24 rfl rfl ?_
    refine r_sub [1, 0] (lv' := [(0, .ref (w.1 0)), (1, .int 1)]) rfl ?_
    exact v_X12_layParts_25 g hX post hR 1 μ h
  · have h := h.2 q
    refine r_aload_n (pc := 10) 0 g dX12_layParts_10 rfl ?_
    refine r_getr (pc := 11) (μ := μ) g dX12_layParts_11 fa_RX12_64 shM_out sM_0 rfl ?_
    refine r_iload_n (pc := 14) 1 g dX12_layParts_14 rfl ?_
    refine r_iload_n (pc := 15) 1 g dX12_layParts_15 rfl ?_
    obtain ⟨b1, h⟩ := h
    refine r_iastore (pc := 16) (μ := μ) g dX12_layParts_16 shM_out sM_19 b1 ?_
    refine r_iinc (pc := 17) (lv' := [(1, .int (x1 + 1)), (0, .ref (w.1 0))]) 1 g dX12_layParts_17 rfl ci_1 rfl rfl ?_
    refine r_goto (pc := 20) 2 g dX12_layParts_20 rfl ?_
    refine r_sub [1, 0] (lv' := [(0, .ref (w.1 0)), (1, .int (x1 + 1))]) rfl ?_
    exact hP2 (x1 + 1) (mset μ 19 x1.toNatClampNeg x1) h
theorem v_X12_layParts_2 {X : Cx} {w : Wd} {l : Launch} {D : va_G} {A : Nat → Prop} (g : Gd X w RX12 cX12_layParts 4 rm_X12_layParts) (hX : atX X l D A) (post : Mem → Prop) (hR : Rt X w shM 22 none (pV post)) (x1 : Int32) (μ : Mem) (h : T_X12_layParts_2 post x1 μ) : V X 2 [(0, .ref (w.1 0)), (1, .int x1)] [] (wls w shM 22 μ) :=
  h (fun x1 μ => V X 2 [(0, .ref (w.1 0)), (1, .int x1)] [] (wls w shM 22 μ)) (fun x1 μ h => bv_X12_layParts_2 g hX post hR (fun x1 μ => V X 2 [(0, .ref (w.1 0)), (1, .int x1)] [] (wls w shM 22 μ)) (fun _ _ h => h) x1 μ h)
def T_X12_layParts (μ : Mem) (post : Mem → Prop) : Prop :=
  T_X12_layParts_2 post 0 μ
theorem m_X12_layParts {w : Wd} {l : Launch} {D : va_G} {A : Nat → Prop} (μ : Mem) (post : Mem → Prop) (h : T_X12_layParts μ post) : MetX l D A w shM 22 yX12_layParts cX12_layParts 4 none rm_X12_layParts [.ref (w.1 0)] μ (pV post) := by
  refine metX_of (by decide) rfl (lv := [(0, .ref (w.1 0))]) rfl (fun X hX g hR => ?_)
  refine r_iconst (pc := 0) g dX12_layParts_0 ci_0 ?_
  refine r_istore_n (pc := 1) (lv' := [(1, .int 0), (0, .ref (w.1 0))]) g dX12_layParts_1 rfl rfl ?_
  refine r_sub [1, 0] (lv' := [(0, .ref (w.1 0)), (1, .int 0)]) rfl ?_
  exact v_X12_layParts_2 g hX post hR 0 μ h
abbrev rm_X12_part : Room := { frames := 1, cells := 0, slots := 0, locals := 23 }
def T_X12_part_58 (post : Int32 → Mem → Prop) (P34 : Int32 → Int32 → Mem → Prop) (x3 : Int32) (s0 : Int32) (s1 : Int32) (μ : Mem) : Prop :=
  P34 (s1 + s0) (x3 + 1) μ
theorem v_X12_part_58 {X : Cx} {w : Wd} {l : Launch} {D : va_G} {A : Nat → Prop} (g : Gd X w RX12 cX12_part 4 rm_X12_part) (hX : atX X l D A) (post : Int32 → Mem → Prop) (hR : Rt X w shM 22 (some .int) (pI post)) (P34 : Int32 → Int32 → Mem → Prop) (hP34 : ∀ (x2 : Int32) (x3 : Int32) (μ : Mem), P34 x2 x3 μ → V X 34 [(0, .ref (w.1 0)), (2, .int x2), (3, .int x3)] [] (wls w shM 22 μ)) (x3 : Int32) (s0 : Int32) (s1 : Int32) (μ : Mem) (h : T_X12_part_58 post P34 x3 s0 s1 μ) : V X 58 [(0, .ref (w.1 0)), (3, .int x3)] [.int s0, .int s1] (wls w shM 22 μ) := by
  refine r_iadd (pc := 58) g dX12_part_58 ?_
  refine r_istore_n (pc := 59) (lv' := [(2, .int (s1 + s0)), (0, .ref (w.1 0)), (3, .int x3)]) g dX12_part_59 rfl rfl ?_
  refine r_iinc (pc := 60) (lv' := [(3, .int (x3 + 1)), (2, .int (s1 + s0)), (0, .ref (w.1 0))]) 2 g dX12_part_60 rfl ci_1 rfl rfl ?_
  refine r_goto (pc := 63) 34 g dX12_part_63 rfl ?_
  refine r_sub [2, 1, 0] (lv' := [(0, .ref (w.1 0)), (2, .int (s1 + s0)), (3, .int (x3 + 1))]) rfl ?_
  exact hP34 (s1 + s0) (x3 + 1) μ h
def B_X12_part_34 (post : Int32 → Mem → Prop) (P34 : Int32 → Int32 → Mem → Prop) (x2 : Int32) (x3 : Int32) (μ : Mem) : Prop :=
  (((μ 0 5) ≤ x3 → post x2 μ) ∧ (¬ (μ 0 5) ≤ x3 → vp_in x3 9 ∧ ((¬ (μ 19 x3.toNatClampNeg) = x3 → T_X12_part_58 post P34 x3 0 x2 μ) ∧ ((μ 19 x3.toNatClampNeg) = x3 → T_X12_part_58 post P34 x3 1 x2 μ))))
def T_X12_part_34 (post : Int32 → Mem → Prop) (x2 : Int32) (x3 : Int32) (μ : Mem) : Prop :=
  ∀ P34 : Int32 → Int32 → Mem → Prop, (∀ (x2 : Int32) (x3 : Int32) (μ : Mem), B_X12_part_34 post P34 x2 x3 μ → P34 x2 x3 μ) → P34 x2 x3 μ
theorem bv_X12_part_34 {X : Cx} {w : Wd} {l : Launch} {D : va_G} {A : Nat → Prop} (g : Gd X w RX12 cX12_part 4 rm_X12_part) (hX : atX X l D A) (post : Int32 → Mem → Prop) (hR : Rt X w shM 22 (some .int) (pI post)) (P34 : Int32 → Int32 → Mem → Prop) (hP34 : ∀ (x2 : Int32) (x3 : Int32) (μ : Mem), P34 x2 x3 μ → V X 34 [(0, .ref (w.1 0)), (2, .int x2), (3, .int x3)] [] (wls w shM 22 μ)) (x2 : Int32) (x3 : Int32) (μ : Mem) (h : B_X12_part_34 post P34 x2 x3 μ) : V X 34 [(0, .ref (w.1 0)), (2, .int x2), (3, .int x3)] [] (wls w shM 22 μ) := by
  refine r_iload_n (pc := 34) 2 g dX12_part_34 rfl ?_
  refine r_aload_n (pc := 35) 0 g dX12_part_35 rfl ?_
  refine r_geti (pc := 36) (μ := μ) g dX12_part_36 fa_RX12_83 shM_out sM_0 rfl ?_
  refine r_icmp_ge (pc := 39) 66 g dX12_part_39 rfl (fun q => ?_) (fun q => ?_)
  · have h := h.1 q
    refine r_iload_n (pc := 66) 1 g dX12_part_66 rfl ?_
    exact r_ireti (pc := 67) g hR dX12_part_67 h
  · have h := h.2 q
    refine r_iload_n (pc := 42) 1 g dX12_part_42 rfl ?_
    refine r_aload_n (pc := 43) 0 g dX12_part_43 rfl ?_
    refine r_getr (pc := 44) (μ := μ) g dX12_part_44 fa_RX12_64 shM_out sM_0 rfl ?_
    refine r_iload_n (pc := 47) 2 g dX12_part_47 rfl ?_
    obtain ⟨b1, h⟩ := h
    refine r_iaload (pc := 48) (μ := μ) g dX12_part_48 shM_out sM_19 b1 ?_
    refine r_iload_n (pc := 49) 2 g dX12_part_49 rfl ?_
    refine r_icmp_ne (pc := 50) 57 g dX12_part_50 rfl (fun q => ?_) (fun q => ?_)
    · have h := h.1 q
      refine r_iconst (pc := 57) g dX12_part_57 ci_0 ?_
      refine r_sub [0, 2] (lv' := [(0, .ref (w.1 0)), (3, .int x3)]) rfl ?_
      exact v_X12_part_58 g hX post hR P34 hP34 x3 0 x2 μ h
    · have h := h.2 q
      refine r_iconst (pc := 53) g dX12_part_53 ci_1 ?_
      refine r_goto (pc := 54) 58 g dX12_part_54 rfl ?_
      refine r_sub [0, 2] (lv' := [(0, .ref (w.1 0)), (3, .int x3)]) rfl ?_
      exact v_X12_part_58 g hX post hR P34 hP34 x3 1 x2 μ h
theorem v_X12_part_34 {X : Cx} {w : Wd} {l : Launch} {D : va_G} {A : Nat → Prop} (g : Gd X w RX12 cX12_part 4 rm_X12_part) (hX : atX X l D A) (post : Int32 → Mem → Prop) (hR : Rt X w shM 22 (some .int) (pI post)) (x2 : Int32) (x3 : Int32) (μ : Mem) (h : T_X12_part_34 post x2 x3 μ) : V X 34 [(0, .ref (w.1 0)), (2, .int x2), (3, .int x3)] [] (wls w shM 22 μ) :=
  h (fun x2 x3 μ => V X 34 [(0, .ref (w.1 0)), (2, .int x2), (3, .int x3)] [] (wls w shM 22 μ)) (fun x2 x3 μ h => bv_X12_part_34 g hX post hR (fun x2 x3 μ => V X 34 [(0, .ref (w.1 0)), (2, .int x2), (3, .int x3)] [] (wls w shM 22 μ)) (fun _ _ _ h => h) x2 x3 μ h)
def T_X12_part_15 (post : Int32 → Mem → Prop) (x1 : Int32) (μ : Mem) : Prop :=
  T_X12_layParts μ (fun (μ2 : Mem) => ((x1 < 0 → T_X12_part_34 post 0 0 μ2) ∧ (¬ x1 < 0 → vp_in x1 9 ∧ post (μ2 19 x1.toNatClampNeg) μ2)))
theorem v_X12_part_15 {X : Cx} {w : Wd} {l : Launch} {D : va_G} {A : Nat → Prop} (g : Gd X w RX12 cX12_part 4 rm_X12_part) (hX : atX X l D A) (post : Int32 → Mem → Prop) (hR : Rt X w shM 22 (some .int) (pI post)) (x1 : Int32) (μ : Mem) (h : T_X12_part_15 post x1 μ) : V X 15 [(0, .ref (w.1 0)), (1, .int x1)] [] (wls w shM 22 μ) := by
  refine r_aload_n (pc := 15) 0 g dX12_part_15 rfl ?_
  refine r_callVv (pc := 16) (st := []) g hX dX12_part_16 (m_X12_layParts μ _ h) kb_RX12_223 kv_X12_layParts shM_out sM_0 rfl rfl rfl rfl (fun μ2 h => ?_)
  refine r_iload_n (pc := 19) 1 g dX12_part_19 rfl ?_
  refine r_if_lt (pc := 20) 30 g dX12_part_20 rfl (fun q => ?_) (fun q => ?_)
  · have h := h.1 q
    refine r_iconst (pc := 30) g dX12_part_30 ci_0 ?_
    refine r_istore_n (pc := 31) (lv' := [(2, .int 0), (0, .ref (w.1 0)), (1, .int x1)]) g dX12_part_31 rfl rfl ?_
    refine r_iconst (pc := 32) g dX12_part_32 ci_0 ?_
    refine r_istore_n (pc := 33) (lv' := [(3, .int 0), (2, .int 0), (0, .ref (w.1 0)), (1, .int x1)]) g dX12_part_33 rfl rfl ?_
    refine r_sub [2, 1, 0] (lv' := [(0, .ref (w.1 0)), (2, .int 0), (3, .int 0)]) rfl ?_
    exact v_X12_part_34 g hX post hR 0 0 μ2 h
  · have h := h.2 q
    refine r_aload_n (pc := 23) 0 g dX12_part_23 rfl ?_
    refine r_getr (pc := 24) (μ := μ2) g dX12_part_24 fa_RX12_64 shM_out sM_0 rfl ?_
    refine r_iload_n (pc := 27) 1 g dX12_part_27 rfl ?_
    obtain ⟨b3, h⟩ := h
    refine r_iaload (pc := 28) (μ := μ2) g dX12_part_28 shM_out sM_19 b3 ?_
    exact r_ireti (pc := 29) g hR dX12_part_29 h
def T_X12_part (x1 : Int32) (μ : Mem) (post : Int32 → Mem → Prop) : Prop :=
  ((x1 = (-1) → T_X12_part_15 post x1 μ) ∧ (¬ x1 = (-1) → T_X12_isWork x1 μ (fun (u1 : Int32) (μ2 : Mem) => ((¬ u1 = 0 → T_X12_part_15 post x1 μ2) ∧ (u1 = 0 → post (-1) μ2)))))
theorem m_X12_part {w : Wd} {l : Launch} {D : va_G} {A : Nat → Prop} (x1 : Int32) (μ : Mem) (post : Int32 → Mem → Prop) (h : T_X12_part x1 μ post) : MetX l D A w shM 22 yX12_part cX12_part 4 (some .int) rm_X12_part [.ref (w.1 0), .int x1] μ (pI post) := by
  refine metX_of (by decide) rfl (lv := [(0, .ref (w.1 0)), (1, .int x1)]) rfl (fun X hX g hR => ?_)
  refine r_iload_n (pc := 0) 1 g dX12_part_0 rfl ?_
  refine r_iconst (pc := 1) g dX12_part_1 ci_m1 ?_
  refine r_icmp_eq (pc := 2) 15 g dX12_part_2 rfl (fun q => ?_) (fun q => ?_)
  · have h := h.1 q
    refine r_sub [0, 1] (lv' := [(0, .ref (w.1 0)), (1, .int x1)]) rfl ?_
    exact v_X12_part_15 g hX post hR x1 μ h
  · have h := h.2 q
    refine r_aload_n (pc := 5) 0 g dX12_part_5 rfl ?_
    refine r_iload_n (pc := 6) 1 g dX12_part_6 rfl ?_
    refine r_callVi (pc := 7) (st := []) g hX dX12_part_7 (m_X12_isWork x1 μ _ h) kb_RX12_137 kv_X12_isWork shM_out sM_0 rfl rfl rfl rfl (fun u1 μ2 h => ?_)
    refine r_if_ne (pc := 10) 15 g dX12_part_10 rfl (fun q => ?_) (fun q => ?_)
    · have h := h.1 q
      refine r_sub [0, 1] (lv' := [(0, .ref (w.1 0)), (1, .int x1)]) rfl ?_
      exact v_X12_part_15 g hX post hR x1 μ2 h
    · have h := h.2 q
      refine r_iconst (pc := 13) g dX12_part_13 ci_m1 ?_
      exact r_ireti (pc := 14) g hR dX12_part_14 h
abbrev rm_X12_within : Room := { frames := 0, cells := 0, slots := 0, locals := 0 }
def T_X12_within_85 (post : Int32 → Mem → Prop) (P4 : Int32 → Int32 → Mem → Prop) (P14 : Int32 → Int32 → Int32 → Mem → Prop) (x2 : Int32) (x3 : Int32) (s0 : Int32) (s1 : Int32) (μ : Mem) : Prop :=
  P14 (s1 ||| s0) x2 (x3 + 1) μ
theorem v_X12_within_85 {X : Cx} {w : Wd} {l : Launch} {D : va_G} {A : Nat → Prop} (g : Gd X w RX12 cX12_within 5 rm_X12_within) (hX : atX X l D A) (post : Int32 → Mem → Prop) (hR : Rt X w shM 22 (some .int) (pI post)) (P4 : Int32 → Int32 → Mem → Prop) (hP4 : ∀ (x1 : Int32) (x2 : Int32) (μ : Mem), P4 x1 x2 μ → V X 4 [(0, .ref (w.1 0)), (1, .int x1), (2, .int x2)] [] (wls w shM 22 μ)) (P14 : Int32 → Int32 → Int32 → Mem → Prop) (hP14 : ∀ (x1 : Int32) (x2 : Int32) (x3 : Int32) (μ : Mem), P14 x1 x2 x3 μ → V X 14 [(0, .ref (w.1 0)), (1, .int x1), (2, .int x2), (3, .int x3)] [] (wls w shM 22 μ)) (x2 : Int32) (x3 : Int32) (s0 : Int32) (s1 : Int32) (μ : Mem) (h : T_X12_within_85 post P4 P14 x2 x3 s0 s1 μ) : V X 85 [(0, .ref (w.1 0)), (2, .int x2), (3, .int x3)] [.int s0, .int s1] (wls w shM 22 μ) := by
  refine r_ior (pc := 85) g dX12_within_85 ?_
  refine r_istore_n (pc := 86) (lv' := [(1, .int (s1 ||| s0)), (0, .ref (w.1 0)), (2, .int x2), (3, .int x3)]) g dX12_within_86 rfl rfl ?_
  refine r_iinc (pc := 87) (lv' := [(3, .int (x3 + 1)), (1, .int (s1 ||| s0)), (0, .ref (w.1 0)), (2, .int x2)]) 3 g dX12_within_87 rfl ci_1 rfl rfl ?_
  refine r_goto (pc := 90) 14 g dX12_within_90 rfl ?_
  refine r_sub [2, 1, 3, 0] (lv' := [(0, .ref (w.1 0)), (1, .int (s1 ||| s0)), (2, .int x2), (3, .int (x3 + 1))]) rfl ?_
  exact hP14 (s1 ||| s0) x2 (x3 + 1) μ h
def T_X12_within_70 (post : Int32 → Mem → Prop) (P4 : Int32 → Int32 → Mem → Prop) (P14 : Int32 → Int32 → Int32 → Mem → Prop) (x1 : Int32) (x2 : Int32) (x3 : Int32) (s0 : Int32) (μ : Mem) : Prop :=
  ((s0 = 0 → T_X12_within_85 post P4 P14 x2 x3 0 x1 μ) ∧ (¬ s0 = 0 → T_X12_within_85 post P4 P14 x2 x3 ((1 : Int32) <<< (x2 &&& 31)) x1 μ))
theorem v_X12_within_70 {X : Cx} {w : Wd} {l : Launch} {D : va_G} {A : Nat → Prop} (g : Gd X w RX12 cX12_within 5 rm_X12_within) (hX : atX X l D A) (post : Int32 → Mem → Prop) (hR : Rt X w shM 22 (some .int) (pI post)) (P4 : Int32 → Int32 → Mem → Prop) (hP4 : ∀ (x1 : Int32) (x2 : Int32) (μ : Mem), P4 x1 x2 μ → V X 4 [(0, .ref (w.1 0)), (1, .int x1), (2, .int x2)] [] (wls w shM 22 μ)) (P14 : Int32 → Int32 → Int32 → Mem → Prop) (hP14 : ∀ (x1 : Int32) (x2 : Int32) (x3 : Int32) (μ : Mem), P14 x1 x2 x3 μ → V X 14 [(0, .ref (w.1 0)), (1, .int x1), (2, .int x2), (3, .int x3)] [] (wls w shM 22 μ)) (x1 : Int32) (x2 : Int32) (x3 : Int32) (s0 : Int32) (μ : Mem) (h : T_X12_within_70 post P4 P14 x1 x2 x3 s0 μ) : V X 70 [(0, .ref (w.1 0)), (1, .int x1), (2, .int x2), (3, .int x3)] [.int s0] (wls w shM 22 μ) := by
  refine r_istore (pc := 70) (lv' := [(4, .int s0), (0, .ref (w.1 0)), (1, .int x1), (2, .int x2), (3, .int x3)]) g dX12_within_70 rfl rfl ?_
  refine r_iload_n (pc := 72) 2 g dX12_within_72 rfl ?_
  refine r_iload (pc := 73) 0 g dX12_within_73 rfl ?_
  refine r_if_eq (pc := 75) 84 g dX12_within_75 rfl (fun q => ?_) (fun q => ?_)
  · have h := h.1 q
    refine r_iconst (pc := 84) g dX12_within_84 ci_0 ?_
    refine r_sub [1, 3, 4] (lv' := [(0, .ref (w.1 0)), (2, .int x2), (3, .int x3)]) rfl ?_
    exact v_X12_within_85 g hX post hR P4 hP4 P14 hP14 x2 x3 0 x1 μ h
  · have h := h.2 q
    refine r_iconst (pc := 78) g dX12_within_78 ci_1 ?_
    refine r_iload_n (pc := 79) 3 g dX12_within_79 rfl ?_
    refine r_ishl (pc := 80) g dX12_within_80 ?_
    refine r_goto (pc := 81) 85 g dX12_within_81 rfl ?_
    refine r_sub [1, 3, 4] (lv' := [(0, .ref (w.1 0)), (2, .int x2), (3, .int x3)]) rfl ?_
    exact v_X12_within_85 g hX post hR P4 hP4 P14 hP14 x2 x3 ((1 : Int32) <<< (x2 &&& 31)) x1 μ h
def T_X12_within_65 (post : Int32 → Mem → Prop) (P4 : Int32 → Int32 → Mem → Prop) (P14 : Int32 → Int32 → Int32 → Mem → Prop) (x1 : Int32) (x2 : Int32) (x3 : Int32) (μ : Mem) : Prop :=
  T_X12_within_70 post P4 P14 x1 x2 x3 1 μ
theorem v_X12_within_65 {X : Cx} {w : Wd} {l : Launch} {D : va_G} {A : Nat → Prop} (g : Gd X w RX12 cX12_within 5 rm_X12_within) (hX : atX X l D A) (post : Int32 → Mem → Prop) (hR : Rt X w shM 22 (some .int) (pI post)) (P4 : Int32 → Int32 → Mem → Prop) (hP4 : ∀ (x1 : Int32) (x2 : Int32) (μ : Mem), P4 x1 x2 μ → V X 4 [(0, .ref (w.1 0)), (1, .int x1), (2, .int x2)] [] (wls w shM 22 μ)) (P14 : Int32 → Int32 → Int32 → Mem → Prop) (hP14 : ∀ (x1 : Int32) (x2 : Int32) (x3 : Int32) (μ : Mem), P14 x1 x2 x3 μ → V X 14 [(0, .ref (w.1 0)), (1, .int x1), (2, .int x2), (3, .int x3)] [] (wls w shM 22 μ)) (x1 : Int32) (x2 : Int32) (x3 : Int32) (μ : Mem) (h : T_X12_within_65 post P4 P14 x1 x2 x3 μ) : V X 65 [(0, .ref (w.1 0)), (1, .int x1), (2, .int x2), (3, .int x3)] [] (wls w shM 22 μ) := by
  refine r_iconst (pc := 65) g dX12_within_65 ci_1 ?_
  refine r_goto (pc := 66) 70 g dX12_within_66 rfl ?_
  refine r_sub [0, 1, 2, 3] (lv' := [(0, .ref (w.1 0)), (1, .int x1), (2, .int x2), (3, .int x3)]) rfl ?_
  exact v_X12_within_70 g hX post hR P4 hP4 P14 hP14 x1 x2 x3 1 μ h
def T_X12_within_69 (post : Int32 → Mem → Prop) (P4 : Int32 → Int32 → Mem → Prop) (P14 : Int32 → Int32 → Int32 → Mem → Prop) (x1 : Int32) (x2 : Int32) (x3 : Int32) (μ : Mem) : Prop :=
  T_X12_within_70 post P4 P14 x1 x2 x3 0 μ
theorem v_X12_within_69 {X : Cx} {w : Wd} {l : Launch} {D : va_G} {A : Nat → Prop} (g : Gd X w RX12 cX12_within 5 rm_X12_within) (hX : atX X l D A) (post : Int32 → Mem → Prop) (hR : Rt X w shM 22 (some .int) (pI post)) (P4 : Int32 → Int32 → Mem → Prop) (hP4 : ∀ (x1 : Int32) (x2 : Int32) (μ : Mem), P4 x1 x2 μ → V X 4 [(0, .ref (w.1 0)), (1, .int x1), (2, .int x2)] [] (wls w shM 22 μ)) (P14 : Int32 → Int32 → Int32 → Mem → Prop) (hP14 : ∀ (x1 : Int32) (x2 : Int32) (x3 : Int32) (μ : Mem), P14 x1 x2 x3 μ → V X 14 [(0, .ref (w.1 0)), (1, .int x1), (2, .int x2), (3, .int x3)] [] (wls w shM 22 μ)) (x1 : Int32) (x2 : Int32) (x3 : Int32) (μ : Mem) (h : T_X12_within_69 post P4 P14 x1 x2 x3 μ) : V X 69 [(0, .ref (w.1 0)), (1, .int x1), (2, .int x2), (3, .int x3)] [] (wls w shM 22 μ) := by
  refine r_iconst (pc := 69) g dX12_within_69 ci_0 ?_
  refine r_sub [0, 1, 2, 3] (lv' := [(0, .ref (w.1 0)), (1, .int x1), (2, .int x2), (3, .int x3)]) rfl ?_
  exact v_X12_within_70 g hX post hR P4 hP4 P14 hP14 x1 x2 x3 0 μ h
def B_X12_within_14 (post : Int32 → Mem → Prop) (P4 : Int32 → Int32 → Mem → Prop) (P14 : Int32 → Int32 → Int32 → Mem → Prop) (x1 : Int32) (x2 : Int32) (x3 : Int32) (μ : Mem) : Prop :=
  (((μ 0 5) ≤ x3 → P4 x1 (x2 + 1) μ) ∧ (¬ (μ 0 5) ≤ x3 → ((x2 = x3 → T_X12_within_69 post P4 P14 x1 x2 x3 μ) ∧ (¬ x2 = x3 → vp_in x2 9 ∧ vp_in x3 9 ∧ ((¬ ((μ 4 x2.toNatClampNeg) &&& ((μ 4 x3.toNatClampNeg) ^^^ (-1))) = 0 → T_X12_within_69 post P4 P14 x1 x2 x3 μ) ∧ (((μ 4 x2.toNatClampNeg) &&& ((μ 4 x3.toNatClampNeg) ^^^ (-1))) = 0 → vp_in x2 9 ∧ vp_in x3 9 ∧ ((¬ (μ 4 x2.toNatClampNeg) = (μ 4 x3.toNatClampNeg) → T_X12_within_65 post P4 P14 x1 x2 x3 μ) ∧ ((μ 4 x2.toNatClampNeg) = (μ 4 x3.toNatClampNeg) → ((x2 ≤ x3 → T_X12_within_69 post P4 P14 x1 x2 x3 μ) ∧ (¬ x2 ≤ x3 → T_X12_within_65 post P4 P14 x1 x2 x3 μ))))))))))
def T_X12_within_14 (post : Int32 → Mem → Prop) (P4 : Int32 → Int32 → Mem → Prop) (x1 : Int32) (x2 : Int32) (x3 : Int32) (μ : Mem) : Prop :=
  ∀ P14 : Int32 → Int32 → Int32 → Mem → Prop, (∀ (x1 : Int32) (x2 : Int32) (x3 : Int32) (μ : Mem), B_X12_within_14 post P4 P14 x1 x2 x3 μ → P14 x1 x2 x3 μ) → P14 x1 x2 x3 μ
theorem bv_X12_within_14 {X : Cx} {w : Wd} {l : Launch} {D : va_G} {A : Nat → Prop} (g : Gd X w RX12 cX12_within 5 rm_X12_within) (hX : atX X l D A) (post : Int32 → Mem → Prop) (hR : Rt X w shM 22 (some .int) (pI post)) (P4 : Int32 → Int32 → Mem → Prop) (hP4 : ∀ (x1 : Int32) (x2 : Int32) (μ : Mem), P4 x1 x2 μ → V X 4 [(0, .ref (w.1 0)), (1, .int x1), (2, .int x2)] [] (wls w shM 22 μ)) (P14 : Int32 → Int32 → Int32 → Mem → Prop) (hP14 : ∀ (x1 : Int32) (x2 : Int32) (x3 : Int32) (μ : Mem), P14 x1 x2 x3 μ → V X 14 [(0, .ref (w.1 0)), (1, .int x1), (2, .int x2), (3, .int x3)] [] (wls w shM 22 μ)) (x1 : Int32) (x2 : Int32) (x3 : Int32) (μ : Mem) (h : B_X12_within_14 post P4 P14 x1 x2 x3 μ) : V X 14 [(0, .ref (w.1 0)), (1, .int x1), (2, .int x2), (3, .int x3)] [] (wls w shM 22 μ) := by
  refine r_iload_n (pc := 14) 3 g dX12_within_14 rfl ?_
  refine r_aload_n (pc := 15) 0 g dX12_within_15 rfl ?_
  refine r_geti (pc := 16) (μ := μ) g dX12_within_16 fa_RX12_83 shM_out sM_0 rfl ?_
  refine r_icmp_ge (pc := 19) 93 g dX12_within_19 rfl (fun q => ?_) (fun q => ?_)
  · have h := h.1 q
    refine r_iinc (pc := 93) (lv' := [(2, .int (x2 + 1)), (0, .ref (w.1 0)), (1, .int x1), (3, .int x3)]) 2 g dX12_within_93 rfl ci_1 rfl rfl ?_
    refine r_goto (pc := 96) 4 g dX12_within_96 rfl ?_
    refine r_sub [1, 2, 0] (lv' := [(0, .ref (w.1 0)), (1, .int x1), (2, .int (x2 + 1))]) rfl ?_
    exact hP4 x1 (x2 + 1) μ h
  · have h := h.2 q
    refine r_iload_n (pc := 22) 2 g dX12_within_22 rfl ?_
    refine r_iload_n (pc := 23) 3 g dX12_within_23 rfl ?_
    refine r_icmp_eq (pc := 24) 69 g dX12_within_24 rfl (fun q => ?_) (fun q => ?_)
    · have h := h.1 q
      refine r_sub [0, 1, 2, 3] (lv' := [(0, .ref (w.1 0)), (1, .int x1), (2, .int x2), (3, .int x3)]) rfl ?_
      exact v_X12_within_69 g hX post hR P4 hP4 P14 hP14 x1 x2 x3 μ h
    · have h := h.2 q
      refine r_aload_n (pc := 27) 0 g dX12_within_27 rfl ?_
      refine r_getr (pc := 28) (μ := μ) g dX12_within_28 fa_RX12_19 shM_out sM_0 rfl ?_
      refine r_iload_n (pc := 31) 2 g dX12_within_31 rfl ?_
      obtain ⟨b1, h⟩ := h
      refine r_iaload (pc := 32) (μ := μ) g dX12_within_32 shM_out sM_4 b1 ?_
      refine r_aload_n (pc := 33) 0 g dX12_within_33 rfl ?_
      refine r_getr (pc := 34) (μ := μ) g dX12_within_34 fa_RX12_19 shM_out sM_0 rfl ?_
      refine r_iload_n (pc := 37) 3 g dX12_within_37 rfl ?_
      obtain ⟨b2, h⟩ := h
      refine r_iaload (pc := 38) (μ := μ) g dX12_within_38 shM_out sM_4 b2 ?_
      refine r_iconst (pc := 39) g dX12_within_39 ci_m1 ?_
      refine r_ixor (pc := 40) g dX12_within_40 ?_
      refine r_iand (pc := 41) g dX12_within_41 ?_
      refine r_if_ne (pc := 42) 69 g dX12_within_42 rfl (fun q => ?_) (fun q => ?_)
      · have h := h.1 q
        refine r_sub [0, 1, 2, 3] (lv' := [(0, .ref (w.1 0)), (1, .int x1), (2, .int x2), (3, .int x3)]) rfl ?_
        exact v_X12_within_69 g hX post hR P4 hP4 P14 hP14 x1 x2 x3 μ h
      · have h := h.2 q
        refine r_aload_n (pc := 45) 0 g dX12_within_45 rfl ?_
        refine r_getr (pc := 46) (μ := μ) g dX12_within_46 fa_RX12_19 shM_out sM_0 rfl ?_
        refine r_iload_n (pc := 49) 2 g dX12_within_49 rfl ?_
        obtain ⟨b3, h⟩ := h
        refine r_iaload (pc := 50) (μ := μ) g dX12_within_50 shM_out sM_4 b3 ?_
        refine r_aload_n (pc := 51) 0 g dX12_within_51 rfl ?_
        refine r_getr (pc := 52) (μ := μ) g dX12_within_52 fa_RX12_19 shM_out sM_0 rfl ?_
        refine r_iload_n (pc := 55) 3 g dX12_within_55 rfl ?_
        obtain ⟨b4, h⟩ := h
        refine r_iaload (pc := 56) (μ := μ) g dX12_within_56 shM_out sM_4 b4 ?_
        refine r_icmp_ne (pc := 57) 65 g dX12_within_57 rfl (fun q => ?_) (fun q => ?_)
        · have h := h.1 q
          refine r_sub [0, 1, 2, 3] (lv' := [(0, .ref (w.1 0)), (1, .int x1), (2, .int x2), (3, .int x3)]) rfl ?_
          exact v_X12_within_65 g hX post hR P4 hP4 P14 hP14 x1 x2 x3 μ h
        · have h := h.2 q
          refine r_iload_n (pc := 60) 3 g dX12_within_60 rfl ?_
          refine r_iload_n (pc := 61) 2 g dX12_within_61 rfl ?_
          refine r_icmp_ge (pc := 62) 69 g dX12_within_62 rfl (fun q => ?_) (fun q => ?_)
          · have h := h.1 q
            refine r_sub [0, 1, 2, 3] (lv' := [(0, .ref (w.1 0)), (1, .int x1), (2, .int x2), (3, .int x3)]) rfl ?_
            exact v_X12_within_69 g hX post hR P4 hP4 P14 hP14 x1 x2 x3 μ h
          · have h := h.2 q
            refine r_sub [0, 1, 2, 3] (lv' := [(0, .ref (w.1 0)), (1, .int x1), (2, .int x2), (3, .int x3)]) rfl ?_
            exact v_X12_within_65 g hX post hR P4 hP4 P14 hP14 x1 x2 x3 μ h
theorem v_X12_within_14 {X : Cx} {w : Wd} {l : Launch} {D : va_G} {A : Nat → Prop} (g : Gd X w RX12 cX12_within 5 rm_X12_within) (hX : atX X l D A) (post : Int32 → Mem → Prop) (hR : Rt X w shM 22 (some .int) (pI post)) (P4 : Int32 → Int32 → Mem → Prop) (hP4 : ∀ (x1 : Int32) (x2 : Int32) (μ : Mem), P4 x1 x2 μ → V X 4 [(0, .ref (w.1 0)), (1, .int x1), (2, .int x2)] [] (wls w shM 22 μ)) (x1 : Int32) (x2 : Int32) (x3 : Int32) (μ : Mem) (h : T_X12_within_14 post P4 x1 x2 x3 μ) : V X 14 [(0, .ref (w.1 0)), (1, .int x1), (2, .int x2), (3, .int x3)] [] (wls w shM 22 μ) :=
  h (fun x1 x2 x3 μ => V X 14 [(0, .ref (w.1 0)), (1, .int x1), (2, .int x2), (3, .int x3)] [] (wls w shM 22 μ)) (fun x1 x2 x3 μ h => bv_X12_within_14 g hX post hR P4 hP4 (fun x1 x2 x3 μ => V X 14 [(0, .ref (w.1 0)), (1, .int x1), (2, .int x2), (3, .int x3)] [] (wls w shM 22 μ)) (fun _ _ _ _ h => h) x1 x2 x3 μ h)
def B_X12_within_4 (post : Int32 → Mem → Prop) (P4 : Int32 → Int32 → Mem → Prop) (x1 : Int32) (x2 : Int32) (μ : Mem) : Prop :=
  (((μ 0 5) ≤ x2 → post x1 μ) ∧ (¬ (μ 0 5) ≤ x2 → T_X12_within_14 post P4 x1 x2 0 μ))
def T_X12_within_4 (post : Int32 → Mem → Prop) (x1 : Int32) (x2 : Int32) (μ : Mem) : Prop :=
  ∀ P4 : Int32 → Int32 → Mem → Prop, (∀ (x1 : Int32) (x2 : Int32) (μ : Mem), B_X12_within_4 post P4 x1 x2 μ → P4 x1 x2 μ) → P4 x1 x2 μ
theorem bv_X12_within_4 {X : Cx} {w : Wd} {l : Launch} {D : va_G} {A : Nat → Prop} (g : Gd X w RX12 cX12_within 5 rm_X12_within) (hX : atX X l D A) (post : Int32 → Mem → Prop) (hR : Rt X w shM 22 (some .int) (pI post)) (P4 : Int32 → Int32 → Mem → Prop) (hP4 : ∀ (x1 : Int32) (x2 : Int32) (μ : Mem), P4 x1 x2 μ → V X 4 [(0, .ref (w.1 0)), (1, .int x1), (2, .int x2)] [] (wls w shM 22 μ)) (x1 : Int32) (x2 : Int32) (μ : Mem) (h : B_X12_within_4 post P4 x1 x2 μ) : V X 4 [(0, .ref (w.1 0)), (1, .int x1), (2, .int x2)] [] (wls w shM 22 μ) := by
  refine r_iload_n (pc := 4) 2 g dX12_within_4 rfl ?_
  refine r_aload_n (pc := 5) 0 g dX12_within_5 rfl ?_
  refine r_geti (pc := 6) (μ := μ) g dX12_within_6 fa_RX12_83 shM_out sM_0 rfl ?_
  refine r_icmp_ge (pc := 9) 99 g dX12_within_9 rfl (fun q => ?_) (fun q => ?_)
  · have h := h.1 q
    refine r_iload_n (pc := 99) 1 g dX12_within_99 rfl ?_
    exact r_ireti (pc := 100) g hR dX12_within_100 h
  · have h := h.2 q
    refine r_iconst (pc := 12) g dX12_within_12 ci_0 ?_
    refine r_istore_n (pc := 13) (lv' := [(3, .int 0), (0, .ref (w.1 0)), (1, .int x1), (2, .int x2)]) g dX12_within_13 rfl rfl ?_
    refine r_sub [1, 2, 3, 0] (lv' := [(0, .ref (w.1 0)), (1, .int x1), (2, .int x2), (3, .int 0)]) rfl ?_
    exact v_X12_within_14 g hX post hR P4 hP4 x1 x2 0 μ h
theorem v_X12_within_4 {X : Cx} {w : Wd} {l : Launch} {D : va_G} {A : Nat → Prop} (g : Gd X w RX12 cX12_within 5 rm_X12_within) (hX : atX X l D A) (post : Int32 → Mem → Prop) (hR : Rt X w shM 22 (some .int) (pI post)) (x1 : Int32) (x2 : Int32) (μ : Mem) (h : T_X12_within_4 post x1 x2 μ) : V X 4 [(0, .ref (w.1 0)), (1, .int x1), (2, .int x2)] [] (wls w shM 22 μ) :=
  h (fun x1 x2 μ => V X 4 [(0, .ref (w.1 0)), (1, .int x1), (2, .int x2)] [] (wls w shM 22 μ)) (fun x1 x2 μ h => bv_X12_within_4 g hX post hR (fun x1 x2 μ => V X 4 [(0, .ref (w.1 0)), (1, .int x1), (2, .int x2)] [] (wls w shM 22 μ)) (fun _ _ _ h => h) x1 x2 μ h)
def T_X12_within (μ : Mem) (post : Int32 → Mem → Prop) : Prop :=
  T_X12_within_4 post 0 0 μ
theorem m_X12_within {w : Wd} {l : Launch} {D : va_G} {A : Nat → Prop} (μ : Mem) (post : Int32 → Mem → Prop) (h : T_X12_within μ post) : MetX l D A w shM 22 yX12_within cX12_within 5 (some .int) rm_X12_within [.ref (w.1 0)] μ (pI post) := by
  refine metX_of (by decide) rfl (lv := [(0, .ref (w.1 0))]) rfl (fun X hX g hR => ?_)
  refine r_iconst (pc := 0) g dX12_within_0 ci_0 ?_
  refine r_istore_n (pc := 1) (lv' := [(1, .int 0), (0, .ref (w.1 0))]) g dX12_within_1 rfl rfl ?_
  refine r_iconst (pc := 2) g dX12_within_2 ci_0 ?_
  refine r_istore_n (pc := 3) (lv' := [(2, .int 0), (1, .int 0), (0, .ref (w.1 0))]) g dX12_within_3 rfl rfl ?_
  refine r_sub [2, 1, 0] (lv' := [(0, .ref (w.1 0)), (1, .int 0), (2, .int 0)]) rfl ?_
  exact v_X12_within_4 g hX post hR 0 0 μ h
abbrev rm_X12_dislikes : Room := { frames := 2, cells := 0, slots := 0, locals := 44 }
def T_X12_dislikes (x1 : Int32) (x2 : Int32) (x3 : Int32) (μ : Mem) (post : Int32 → Mem → Prop) : Prop :=
  vp_in x3 9 ∧ T_X12_all μ (fun (u2 : Int32) (μ3 : Mem) => T_X12_needsOf ((u2 &&& (x2 ^^^ (-1))) &&& (((1 : Int32) <<< (x3 &&& 31)) ^^^ (-1))) μ3 (fun (u4 : Int32) (μ5 : Mem) => T_X12_sizeOf ((μ 4 x3.toNatClampNeg) &&& (u4 ^^^ (-1))) μ5 (fun (u6 : Int32) (μ7 : Mem) => vp_in x3 9 ∧ T_X12_needsOf x2 μ7 (fun (u9 : Int32) (μ10 : Mem) => T_X12_sizeOf ((μ7 4 x3.toNatClampNeg) &&& (u9 ^^^ (-1))) μ10 (fun (u11 : Int32) (μ12 : Mem) => ((¬ x1 = 0 → ((¬ x1 = 1 → post (u11 - u6) μ12) ∧ (x1 = 1 → post u11 μ12))) ∧ (x1 = 0 → post (-u6) μ12)))))))
theorem m_X12_dislikes {w : Wd} {l : Launch} {D : va_G} {A : Nat → Prop} (x1 : Int32) (x2 : Int32) (x3 : Int32) (μ : Mem) (post : Int32 → Mem → Prop) (h : T_X12_dislikes x1 x2 x3 μ post) : MetX l D A w shM 22 yX12_dislikes cX12_dislikes 6 (some .int) rm_X12_dislikes [.ref (w.1 0), .int x1, .int x2, .int x3] μ (pI post) := by
  refine metX_of (by decide) rfl (lv := [(0, .ref (w.1 0)), (1, .int x1), (2, .int x2), (3, .int x3)]) rfl (fun X hX g hR => ?_)
  refine r_aload_n (pc := 0) 0 g dX12_dislikes_0 rfl ?_
  refine r_aload_n (pc := 1) 0 g dX12_dislikes_1 rfl ?_
  refine r_getr (pc := 2) (μ := μ) g dX12_dislikes_2 fa_RX12_19 shM_out sM_0 rfl ?_
  refine r_iload_n (pc := 5) 3 g dX12_dislikes_5 rfl ?_
  obtain ⟨b1, h⟩ := h
  refine r_iaload (pc := 6) (μ := μ) g dX12_dislikes_6 shM_out sM_4 b1 ?_
  refine r_aload_n (pc := 7) 0 g dX12_dislikes_7 rfl ?_
  refine r_aload_n (pc := 8) 0 g dX12_dislikes_8 rfl ?_
  refine r_callVi (pc := 9) (st := [.ref (w.1 0), .int (μ 4 x3.toNatClampNeg), .ref (w.1 0)]) g hX dX12_dislikes_9 (m_X12_all μ _ h) kb_RX12_134 kv_X12_all shM_out sM_0 rfl rfl rfl rfl (fun u2 μ3 h => ?_)
  refine r_iload_n (pc := 12) 2 g dX12_dislikes_12 rfl ?_
  refine r_iconst (pc := 13) g dX12_dislikes_13 ci_m1 ?_
  refine r_ixor (pc := 14) g dX12_dislikes_14 ?_
  refine r_iand (pc := 15) g dX12_dislikes_15 ?_
  refine r_iconst (pc := 16) g dX12_dislikes_16 ci_1 ?_
  refine r_iload_n (pc := 17) 3 g dX12_dislikes_17 rfl ?_
  refine r_ishl (pc := 18) g dX12_dislikes_18 ?_
  refine r_iconst (pc := 19) g dX12_dislikes_19 ci_m1 ?_
  refine r_ixor (pc := 20) g dX12_dislikes_20 ?_
  refine r_iand (pc := 21) g dX12_dislikes_21 ?_
  refine r_callVi (pc := 22) (st := [.int (μ 4 x3.toNatClampNeg), .ref (w.1 0)]) g hX dX12_dislikes_22 (m_X12_needsOf ((u2 &&& (x2 ^^^ (-1))) &&& (((1 : Int32) <<< (x3 &&& 31)) ^^^ (-1))) μ3 _ h) kb_RX12_171 kv_X12_needsOf shM_out sM_0 rfl rfl rfl rfl (fun u4 μ5 h => ?_)
  refine r_iconst (pc := 25) g dX12_dislikes_25 ci_m1 ?_
  refine r_ixor (pc := 26) g dX12_dislikes_26 ?_
  refine r_iand (pc := 27) g dX12_dislikes_27 ?_
  refine r_callVi (pc := 28) (st := []) g hX dX12_dislikes_28 (m_X12_sizeOf ((μ 4 x3.toNatClampNeg) &&& (u4 ^^^ (-1))) μ5 _ h) kb_RX12_147 kv_X12_sizeOf shM_out sM_0 rfl rfl rfl rfl (fun u6 μ7 h => ?_)
  refine r_istore (pc := 31) (lv' := [(4, .int u6), (0, .ref (w.1 0)), (1, .int x1), (2, .int x2), (3, .int x3)]) g dX12_dislikes_31 rfl rfl ?_
  refine r_aload_n (pc := 33) 1 g dX12_dislikes_33 rfl ?_
  refine r_aload_n (pc := 34) 1 g dX12_dislikes_34 rfl ?_
  refine r_getr (pc := 35) (μ := μ7) g dX12_dislikes_35 fa_RX12_19 shM_out sM_0 rfl ?_
  refine r_iload_n (pc := 38) 4 g dX12_dislikes_38 rfl ?_
  obtain ⟨b8, h⟩ := h
  refine r_iaload (pc := 39) (μ := μ7) g dX12_dislikes_39 shM_out sM_4 b8 ?_
  refine r_aload_n (pc := 40) 1 g dX12_dislikes_40 rfl ?_
  refine r_iload_n (pc := 41) 3 g dX12_dislikes_41 rfl ?_
  refine r_callVi (pc := 42) (st := [.int (μ7 4 x3.toNatClampNeg), .ref (w.1 0)]) g hX dX12_dislikes_42 (m_X12_needsOf x2 μ7 _ h) kb_RX12_171 kv_X12_needsOf shM_out sM_0 rfl rfl rfl rfl (fun u9 μ10 h => ?_)
  refine r_iconst (pc := 45) g dX12_dislikes_45 ci_m1 ?_
  refine r_ixor (pc := 46) g dX12_dislikes_46 ?_
  refine r_iand (pc := 47) g dX12_dislikes_47 ?_
  refine r_callVi (pc := 48) (st := []) g hX dX12_dislikes_48 (m_X12_sizeOf ((μ7 4 x3.toNatClampNeg) &&& (u9 ^^^ (-1))) μ10 _ h) kb_RX12_147 kv_X12_sizeOf shM_out sM_0 rfl rfl rfl rfl (fun u11 μ12 h => ?_)
  refine r_istore (pc := 51) (lv' := [(5, .int u11), (4, .int u6), (0, .ref (w.1 0)), (1, .int x1), (2, .int x2), (3, .int x3)]) g dX12_dislikes_51 rfl rfl ?_
  refine r_iload_n (pc := 53) 3 g dX12_dislikes_53 rfl ?_
  refine r_if_ne (pc := 54) 63 g dX12_dislikes_54 rfl (fun q => ?_) (fun q => ?_)
  · have h := h.1 q
    refine r_iload_n (pc := 63) 3 g dX12_dislikes_63 rfl ?_
    refine r_iconst (pc := 64) g dX12_dislikes_64 ci_1 ?_
    refine r_icmp_ne (pc := 65) 73 g dX12_dislikes_65 rfl (fun q => ?_) (fun q => ?_)
    · have h := h.1 q
      refine r_iload (pc := 73) 0 g dX12_dislikes_73 rfl ?_
      refine r_iload (pc := 75) 1 g dX12_dislikes_75 rfl ?_
      refine r_isub (pc := 77) g dX12_dislikes_77 ?_
      exact r_ireti (pc := 78) g hR dX12_dislikes_78 h
    · have h := h.2 q
      refine r_iload (pc := 68) 0 g dX12_dislikes_68 rfl ?_
      refine r_goto (pc := 70) 78 g dX12_dislikes_70 rfl ?_
      exact r_ireti (pc := 78) g hR dX12_dislikes_78 h
  · have h := h.2 q
    refine r_iload (pc := 57) 1 g dX12_dislikes_57 rfl ?_
    refine r_ineg (pc := 59) g dX12_dislikes_59 ?_
    refine r_goto (pc := 60) 78 g dX12_dislikes_60 rfl ?_
    exact r_ireti (pc := 78) g hR dX12_dislikes_78 h
abbrev rm_X12_chosen : Room := { frames := 3, cells := 0, slots := 0, locals := 69 }
def T_X12_chosen_70 (post : Int32 → Mem → Prop) (P10 : Int32 → Int32 → Int32 → Int32 → Int32 → Mem → Prop) (x1 : Int32) (x3 : Int32) (x5 : Int32) (x6 : Int32) (μ : Mem) : Prop :=
  P10 x1 x3 x6 x5 (x6 + 1) μ
theorem v_X12_chosen_70 {X : Cx} {w : Wd} {l : Launch} {D : va_G} {A : Nat → Prop} (g : Gd X w RX12 cX12_chosen 7 rm_X12_chosen) (hX : atX X l D A) (post : Int32 → Mem → Prop) (hR : Rt X w shM 22 (some .int) (pI post)) (P10 : Int32 → Int32 → Int32 → Int32 → Int32 → Mem → Prop) (hP10 : ∀ (x1 : Int32) (x3 : Int32) (x4 : Int32) (x5 : Int32) (x6 : Int32) (μ : Mem), P10 x1 x3 x4 x5 x6 μ → V X 10 [(0, .ref (w.1 0)), (1, .int x1), (3, .int x3), (4, .int x4), (5, .int x5), (6, .int x6)] [] (wls w shM 22 μ)) (x1 : Int32) (x3 : Int32) (x5 : Int32) (x6 : Int32) (μ : Mem) (h : T_X12_chosen_70 post P10 x1 x3 x5 x6 μ) : V X 70 [(0, .ref (w.1 0)), (1, .int x1), (3, .int x3), (5, .int x5), (6, .int x6)] [] (wls w shM 22 μ) := by
  refine r_iload (pc := 70) 4 g dX12_chosen_70 rfl ?_
  refine r_istore (pc := 72) (lv' := [(4, .int x6), (0, .ref (w.1 0)), (1, .int x1), (3, .int x3), (5, .int x5), (6, .int x6)]) g dX12_chosen_72 rfl rfl ?_
  refine r_iinc (pc := 74) (lv' := [(6, .int (x6 + 1)), (4, .int x6), (0, .ref (w.1 0)), (1, .int x1), (3, .int x3), (5, .int x5)]) 5 g dX12_chosen_74 rfl ci_1 rfl rfl ?_
  refine r_goto (pc := 77) 10 g dX12_chosen_77 rfl ?_
  refine r_sub [2, 3, 4, 1, 5, 0] (lv' := [(0, .ref (w.1 0)), (1, .int x1), (3, .int x3), (4, .int x6), (5, .int x5), (6, .int (x6 + 1))]) rfl ?_
  exact hP10 x1 x3 x6 x5 (x6 + 1) μ h
def T_X12_chosen_80 (post : Int32 → Mem → Prop) (x4 : Int32) (μ : Mem) : Prop :=
  post x4 μ
theorem v_X12_chosen_80 {X : Cx} {w : Wd} {l : Launch} {D : va_G} {A : Nat → Prop} (g : Gd X w RX12 cX12_chosen 7 rm_X12_chosen) (hX : atX X l D A) (post : Int32 → Mem → Prop) (hR : Rt X w shM 22 (some .int) (pI post)) (x4 : Int32) (μ : Mem) (h : T_X12_chosen_80 post x4 μ) : V X 80 [(4, .int x4)] [] (wls w shM 22 μ) := by
  refine r_iload (pc := 80) 0 g dX12_chosen_80 rfl ?_
  exact r_ireti (pc := 82) g hR dX12_chosen_82 h
def B_X12_chosen_10 (post : Int32 → Mem → Prop) (P10 : Int32 → Int32 → Int32 → Int32 → Int32 → Mem → Prop) (x1 : Int32) (x3 : Int32) (x4 : Int32) (x5 : Int32) (x6 : Int32) (μ : Mem) : Prop :=
  (((μ 0 5) ≤ x6 → T_X12_chosen_80 post x4 μ) ∧ (¬ (μ 0 5) ≤ x6 → ((x5 ≤ 0 → T_X12_chosen_80 post x4 μ) ∧ (¬ x5 ≤ 0 → T_X12_all μ (fun (u1 : Int32) (μ2 : Mem) => T_X12_mayCome u1 x3 x6 μ2 (fun (u3 : Int32) (μ4 : Mem) => ((¬ u3 = 0 → ((x4 = (-9) → T_X12_chosen_70 post P10 x1 x3 (x5 + (-1)) x6 μ4) ∧ (¬ x4 = (-9) → T_X12_dislikes x1 x3 x6 μ4 (fun (u5 : Int32) (μ6 : Mem) => T_X12_dislikes x1 x3 x4 μ6 (fun (u7 : Int32) (μ8 : Mem) => ((u7 ≤ u5 → P10 x1 x3 x4 (x5 + (-1)) (x6 + 1) μ8) ∧ (¬ u7 ≤ u5 → T_X12_chosen_70 post P10 x1 x3 (x5 + (-1)) x6 μ8))))))) ∧ (u3 = 0 → P10 x1 x3 x4 x5 (x6 + 1) μ4))))))))
def T_X12_chosen_10 (post : Int32 → Mem → Prop) (x1 : Int32) (x3 : Int32) (x4 : Int32) (x5 : Int32) (x6 : Int32) (μ : Mem) : Prop :=
  ∀ P10 : Int32 → Int32 → Int32 → Int32 → Int32 → Mem → Prop, (∀ (x1 : Int32) (x3 : Int32) (x4 : Int32) (x5 : Int32) (x6 : Int32) (μ : Mem), B_X12_chosen_10 post P10 x1 x3 x4 x5 x6 μ → P10 x1 x3 x4 x5 x6 μ) → P10 x1 x3 x4 x5 x6 μ
theorem bv_X12_chosen_10 {X : Cx} {w : Wd} {l : Launch} {D : va_G} {A : Nat → Prop} (g : Gd X w RX12 cX12_chosen 7 rm_X12_chosen) (hX : atX X l D A) (post : Int32 → Mem → Prop) (hR : Rt X w shM 22 (some .int) (pI post)) (P10 : Int32 → Int32 → Int32 → Int32 → Int32 → Mem → Prop) (hP10 : ∀ (x1 : Int32) (x3 : Int32) (x4 : Int32) (x5 : Int32) (x6 : Int32) (μ : Mem), P10 x1 x3 x4 x5 x6 μ → V X 10 [(0, .ref (w.1 0)), (1, .int x1), (3, .int x3), (4, .int x4), (5, .int x5), (6, .int x6)] [] (wls w shM 22 μ)) (x1 : Int32) (x3 : Int32) (x4 : Int32) (x5 : Int32) (x6 : Int32) (μ : Mem) (h : B_X12_chosen_10 post P10 x1 x3 x4 x5 x6 μ) : V X 10 [(0, .ref (w.1 0)), (1, .int x1), (3, .int x3), (4, .int x4), (5, .int x5), (6, .int x6)] [] (wls w shM 22 μ) := by
  refine r_iload (pc := 10) 5 g dX12_chosen_10 rfl ?_
  refine r_aload_n (pc := 12) 0 g dX12_chosen_12 rfl ?_
  refine r_geti (pc := 13) (μ := μ) g dX12_chosen_13 fa_RX12_83 shM_out sM_0 rfl ?_
  refine r_icmp_ge (pc := 16) 80 g dX12_chosen_16 rfl (fun q => ?_) (fun q => ?_)
  · have h := h.1 q
    refine r_sub [3] (lv' := [(4, .int x4)]) rfl ?_
    exact v_X12_chosen_80 g hX post hR x4 μ h
  · have h := h.2 q
    refine r_iload (pc := 19) 4 g dX12_chosen_19 rfl ?_
    refine r_if_le (pc := 21) 80 g dX12_chosen_21 rfl (fun q => ?_) (fun q => ?_)
    · have h := h.1 q
      refine r_sub [3] (lv' := [(4, .int x4)]) rfl ?_
      exact v_X12_chosen_80 g hX post hR x4 μ h
    · have h := h.2 q
      refine r_aload_n (pc := 24) 0 g dX12_chosen_24 rfl ?_
      refine r_aload_n (pc := 25) 0 g dX12_chosen_25 rfl ?_
      refine r_callVi (pc := 26) (st := [.ref (w.1 0)]) g hX dX12_chosen_26 (m_X12_all μ _ h) kb_RX12_134 kv_X12_all shM_out sM_0 rfl rfl rfl rfl (fun u1 μ2 h => ?_)
      refine r_iload_n (pc := 29) 2 g dX12_chosen_29 rfl ?_
      refine r_iload (pc := 30) 5 g dX12_chosen_30 rfl ?_
      refine r_callVi (pc := 32) (st := []) g hX dX12_chosen_32 (m_X12_mayCome u1 x3 x6 μ2 _ h) kb_RX12_175 kv_X12_mayCome shM_out sM_0 rfl rfl rfl rfl (fun u3 μ4 h => ?_)
      refine r_if_ne (pc := 35) 41 g dX12_chosen_35 rfl (fun q => ?_) (fun q => ?_)
      · have h := h.1 q
        refine r_iinc (pc := 41) (lv' := [(5, .int (x5 + (-1))), (0, .ref (w.1 0)), (1, .int x1), (3, .int x3), (4, .int x4), (6, .int x6)]) 4 g dX12_chosen_41 rfl ci_m1 rfl rfl ?_
        refine r_iload (pc := 44) 4 g dX12_chosen_44 rfl ?_
        refine r_bipush (pc := 46) g dX12_chosen_46 cb_m9 ?_
        refine r_icmp_eq (pc := 48) 70 g dX12_chosen_48 rfl (fun q => ?_) (fun q => ?_)
        · have h := h.1 q
          refine r_sub [1, 2, 3, 0, 5] (lv' := [(0, .ref (w.1 0)), (1, .int x1), (3, .int x3), (5, .int (x5 + (-1))), (6, .int x6)]) rfl ?_
          exact v_X12_chosen_70 g hX post hR P10 hP10 x1 x3 (x5 + (-1)) x6 μ4 h
        · have h := h.2 q
          refine r_aload_n (pc := 51) 1 g dX12_chosen_51 rfl ?_
          refine r_iload_n (pc := 52) 2 g dX12_chosen_52 rfl ?_
          refine r_iload_n (pc := 53) 3 g dX12_chosen_53 rfl ?_
          refine r_iload (pc := 54) 5 g dX12_chosen_54 rfl ?_
          refine r_callVi (pc := 56) (st := []) g hX dX12_chosen_56 (m_X12_dislikes x1 x3 x6 μ4 _ h) kb_RX12_226 kv_X12_dislikes shM_out sM_0 rfl rfl rfl rfl (fun u5 μ6 h => ?_)
          refine r_aload_n (pc := 59) 1 g dX12_chosen_59 rfl ?_
          refine r_iload_n (pc := 60) 2 g dX12_chosen_60 rfl ?_
          refine r_iload_n (pc := 61) 3 g dX12_chosen_61 rfl ?_
          refine r_iload (pc := 62) 4 g dX12_chosen_62 rfl ?_
          refine r_callVi (pc := 64) (st := [.int u5]) g hX dX12_chosen_64 (m_X12_dislikes x1 x3 x4 μ6 _ h) kb_RX12_226 kv_X12_dislikes shM_out sM_0 rfl rfl rfl rfl (fun u7 μ8 h => ?_)
          refine r_icmp_ge (pc := 67) 74 g dX12_chosen_67 rfl (fun q => ?_) (fun q => ?_)
          · have h := h.1 q
            refine r_iinc (pc := 74) (lv' := [(6, .int (x6 + 1)), (5, .int (x5 + (-1))), (0, .ref (w.1 0)), (1, .int x1), (3, .int x3), (4, .int x4)]) 5 g dX12_chosen_74 rfl ci_1 rfl rfl ?_
            refine r_goto (pc := 77) 10 g dX12_chosen_77 rfl ?_
            refine r_sub [2, 3, 4, 5, 1, 0] (lv' := [(0, .ref (w.1 0)), (1, .int x1), (3, .int x3), (4, .int x4), (5, .int (x5 + (-1))), (6, .int (x6 + 1))]) rfl ?_
            exact hP10 x1 x3 x4 (x5 + (-1)) (x6 + 1) μ8 h
          · have h := h.2 q
            refine r_sub [1, 2, 3, 0, 5] (lv' := [(0, .ref (w.1 0)), (1, .int x1), (3, .int x3), (5, .int (x5 + (-1))), (6, .int x6)]) rfl ?_
            exact v_X12_chosen_70 g hX post hR P10 hP10 x1 x3 (x5 + (-1)) x6 μ8 h
      · have h := h.2 q
        refine r_goto (pc := 38) 74 g dX12_chosen_38 rfl ?_
        refine r_iinc (pc := 74) (lv' := [(6, .int (x6 + 1)), (0, .ref (w.1 0)), (1, .int x1), (3, .int x3), (4, .int x4), (5, .int x5)]) 5 g dX12_chosen_74 rfl ci_1 rfl rfl ?_
        refine r_goto (pc := 77) 10 g dX12_chosen_77 rfl ?_
        refine r_sub [1, 2, 3, 4, 5, 0] (lv' := [(0, .ref (w.1 0)), (1, .int x1), (3, .int x3), (4, .int x4), (5, .int x5), (6, .int (x6 + 1))]) rfl ?_
        exact hP10 x1 x3 x4 x5 (x6 + 1) μ4 h
theorem v_X12_chosen_10 {X : Cx} {w : Wd} {l : Launch} {D : va_G} {A : Nat → Prop} (g : Gd X w RX12 cX12_chosen 7 rm_X12_chosen) (hX : atX X l D A) (post : Int32 → Mem → Prop) (hR : Rt X w shM 22 (some .int) (pI post)) (x1 : Int32) (x3 : Int32) (x4 : Int32) (x5 : Int32) (x6 : Int32) (μ : Mem) (h : T_X12_chosen_10 post x1 x3 x4 x5 x6 μ) : V X 10 [(0, .ref (w.1 0)), (1, .int x1), (3, .int x3), (4, .int x4), (5, .int x5), (6, .int x6)] [] (wls w shM 22 μ) :=
  h (fun x1 x3 x4 x5 x6 μ => V X 10 [(0, .ref (w.1 0)), (1, .int x1), (3, .int x3), (4, .int x4), (5, .int x5), (6, .int x6)] [] (wls w shM 22 μ)) (fun x1 x3 x4 x5 x6 μ h => bv_X12_chosen_10 g hX post hR (fun x1 x3 x4 x5 x6 μ => V X 10 [(0, .ref (w.1 0)), (1, .int x1), (3, .int x3), (4, .int x4), (5, .int x5), (6, .int x6)] [] (wls w shM 22 μ)) (fun _ _ _ _ _ _ h => h) x1 x3 x4 x5 x6 μ h)
def T_X12_chosen (x1 : Int32) (x2 : Int32) (x3 : Int32) (μ : Mem) (post : Int32 → Mem → Prop) : Prop :=
  T_X12_chosen_10 post x1 x3 (-9) x2 0 μ
theorem m_X12_chosen {w : Wd} {l : Launch} {D : va_G} {A : Nat → Prop} (x1 : Int32) (x2 : Int32) (x3 : Int32) (μ : Mem) (post : Int32 → Mem → Prop) (h : T_X12_chosen x1 x2 x3 μ post) : MetX l D A w shM 22 yX12_chosen cX12_chosen 7 (some .int) rm_X12_chosen [.ref (w.1 0), .int x1, .int x2, .int x3] μ (pI post) := by
  refine metX_of (by decide) rfl (lv := [(0, .ref (w.1 0)), (1, .int x1), (2, .int x2), (3, .int x3)]) rfl (fun X hX g hR => ?_)
  refine r_bipush (pc := 0) g dX12_chosen_0 cb_m9 ?_
  refine r_istore (pc := 2) (lv' := [(4, .int (-9)), (0, .ref (w.1 0)), (1, .int x1), (2, .int x2), (3, .int x3)]) g dX12_chosen_2 rfl rfl ?_
  refine r_iload_n (pc := 4) 3 g dX12_chosen_4 rfl ?_
  refine r_istore (pc := 5) (lv' := [(5, .int x2), (4, .int (-9)), (0, .ref (w.1 0)), (1, .int x1), (2, .int x2), (3, .int x3)]) g dX12_chosen_5 rfl rfl ?_
  refine r_iconst (pc := 7) g dX12_chosen_7 ci_0 ?_
  refine r_istore (pc := 8) (lv' := [(6, .int 0), (5, .int x2), (4, .int (-9)), (0, .ref (w.1 0)), (1, .int x1), (2, .int x2), (3, .int x3)]) g dX12_chosen_8 rfl rfl ?_
  refine r_sub [3, 4, 6, 2, 1, 0] (lv' := [(0, .ref (w.1 0)), (1, .int x1), (3, .int x3), (4, .int (-9)), (5, .int x2), (6, .int 0)]) rfl ?_
  exact v_X12_chosen_10 g hX post hR x1 x3 (-9) x2 0 μ h
abbrev rm_X12_build : Room := { frames := 4, cells := 0, slots := 0, locals := 95 }
def T_X12_build_19 (post : Int32 → Mem → Prop) (μ : Mem) : Prop :=
  post (-2) μ
theorem v_X12_build_19 {X : Cx} {w : Wd} {l : Launch} {D : va_G} {A : Nat → Prop} (g : Gd X w RX12 cX12_build 5 rm_X12_build) (hX : atX X l D A) (post : Int32 → Mem → Prop) (hR : Rt X w shM 22 (some .int) (pI post)) (μ : Mem) (h : T_X12_build_19 post μ) : V X 19 [] [] (wls w shM 22 μ) := by
  refine r_bipush (pc := 19) g dX12_build_19 cb_m2 ?_
  exact r_ireti (pc := 21) g hR dX12_build_21 h
def B_X12_build_37 (post : Int32 → Mem → Prop) (P37 : Int32 → Int32 → Int32 → Int32 → Mem → Prop) (x1 : Int32) (x2 : Int32) (x3 : Int32) (x4 : Int32) (μ : Mem) : Prop :=
  (((μ 0 5) ≤ x4 → T_X12_comes 1 μ (fun (u1 : Int32) (μ2 : Mem) => post u1 μ2)) ∧ (¬ (μ 0 5) ≤ x4 → T_X12_chosen x1 x2 x3 μ (fun (u3 : Int32) (μ4 : Mem) => vp_in x4 9 ∧ vp_in x4 9 ∧ P37 x1 x2 (x3 ||| ((1 : Int32) <<< (((mset μ4 13 x4.toNatClampNeg u3) 13 x4.toNatClampNeg) &&& 31))) (x4 + 1) (mset μ4 13 x4.toNatClampNeg u3))))
def T_X12_build_37 (post : Int32 → Mem → Prop) (x1 : Int32) (x2 : Int32) (x3 : Int32) (x4 : Int32) (μ : Mem) : Prop :=
  ∀ P37 : Int32 → Int32 → Int32 → Int32 → Mem → Prop, (∀ (x1 : Int32) (x2 : Int32) (x3 : Int32) (x4 : Int32) (μ : Mem), B_X12_build_37 post P37 x1 x2 x3 x4 μ → P37 x1 x2 x3 x4 μ) → P37 x1 x2 x3 x4 μ
theorem bv_X12_build_37 {X : Cx} {w : Wd} {l : Launch} {D : va_G} {A : Nat → Prop} (g : Gd X w RX12 cX12_build 5 rm_X12_build) (hX : atX X l D A) (post : Int32 → Mem → Prop) (hR : Rt X w shM 22 (some .int) (pI post)) (P37 : Int32 → Int32 → Int32 → Int32 → Mem → Prop) (hP37 : ∀ (x1 : Int32) (x2 : Int32) (x3 : Int32) (x4 : Int32) (μ : Mem), P37 x1 x2 x3 x4 μ → V X 37 [(0, .ref (w.1 0)), (1, .int x1), (2, .int x2), (3, .int x3), (4, .int x4)] [] (wls w shM 22 μ)) (x1 : Int32) (x2 : Int32) (x3 : Int32) (x4 : Int32) (μ : Mem) (h : B_X12_build_37 post P37 x1 x2 x3 x4 μ) : V X 37 [(0, .ref (w.1 0)), (1, .int x1), (2, .int x2), (3, .int x3), (4, .int x4)] [] (wls w shM 22 μ) := by
  refine r_iload (pc := 37) 4 g dX12_build_37 rfl ?_
  refine r_aload_n (pc := 39) 0 g dX12_build_39 rfl ?_
  refine r_geti (pc := 40) (μ := μ) g dX12_build_40 fa_RX12_83 shM_out sM_0 rfl ?_
  refine r_icmp_ge (pc := 43) 78 g dX12_build_43 rfl (fun q => ?_) (fun q => ?_)
  · have h := h.1 q
    refine r_aload_n (pc := 78) 0 g dX12_build_78 rfl ?_
    refine r_iconst (pc := 79) g dX12_build_79 ci_1 ?_
    refine r_callVi (pc := 80) (st := []) g hX dX12_build_80 (m_X12_comes 1 μ _ h) kb_RX12_154 kv_X12_comes shM_out sM_0 rfl rfl rfl rfl (fun u1 μ2 h => ?_)
    exact r_ireti (pc := 83) g hR dX12_build_83 h
  · have h := h.2 q
    refine r_aload_n (pc := 46) 0 g dX12_build_46 rfl ?_
    refine r_getr (pc := 47) (μ := μ) g dX12_build_47 fa_RX12_46 shM_out sM_0 rfl ?_
    refine r_iload (pc := 50) 4 g dX12_build_50 rfl ?_
    refine r_aload_n (pc := 52) 0 g dX12_build_52 rfl ?_
    refine r_iload_n (pc := 53) 1 g dX12_build_53 rfl ?_
    refine r_iload_n (pc := 54) 2 g dX12_build_54 rfl ?_
    refine r_iload_n (pc := 55) 3 g dX12_build_55 rfl ?_
    refine r_callVi (pc := 56) (st := [.int x4, .ref (w.1 13)]) g hX dX12_build_56 (m_X12_chosen x1 x2 x3 μ _ h) kb_RX12_229 kv_X12_chosen shM_out sM_0 rfl rfl rfl rfl (fun u3 μ4 h => ?_)
    obtain ⟨b5, h⟩ := h
    refine r_iastore (pc := 59) (μ := μ4) g dX12_build_59 shM_out sM_13 b5 ?_
    refine r_iload_n (pc := 60) 3 g dX12_build_60 rfl ?_
    refine r_iconst (pc := 61) g dX12_build_61 ci_1 ?_
    refine r_aload_n (pc := 62) 0 g dX12_build_62 rfl ?_
    refine r_getr (pc := 63) (μ := mset μ4 13 x4.toNatClampNeg u3) g dX12_build_63 fa_RX12_46 shM_out sM_0 rfl ?_
    refine r_iload (pc := 66) 4 g dX12_build_66 rfl ?_
    obtain ⟨b6, h⟩ := h
    refine r_iaload (pc := 68) (μ := mset μ4 13 x4.toNatClampNeg u3) g dX12_build_68 shM_out sM_13 b6 ?_
    refine r_ishl (pc := 69) g dX12_build_69 ?_
    refine r_ior (pc := 70) g dX12_build_70 ?_
    refine r_istore_n (pc := 71) (lv' := [(3, .int (x3 ||| ((1 : Int32) <<< (((mset μ4 13 x4.toNatClampNeg u3) 13 x4.toNatClampNeg) &&& 31)))), (0, .ref (w.1 0)), (1, .int x1), (2, .int x2), (4, .int x4)]) g dX12_build_71 rfl rfl ?_
    refine r_iinc (pc := 72) (lv' := [(4, .int (x4 + 1)), (3, .int (x3 ||| ((1 : Int32) <<< (((mset μ4 13 x4.toNatClampNeg u3) 13 x4.toNatClampNeg) &&& 31)))), (0, .ref (w.1 0)), (1, .int x1), (2, .int x2)]) 4 g dX12_build_72 rfl ci_1 rfl rfl ?_
    refine r_goto (pc := 75) 37 g dX12_build_75 rfl ?_
    refine r_sub [2, 3, 4, 1, 0] (lv' := [(0, .ref (w.1 0)), (1, .int x1), (2, .int x2), (3, .int (x3 ||| ((1 : Int32) <<< (((mset μ4 13 x4.toNatClampNeg u3) 13 x4.toNatClampNeg) &&& 31)))), (4, .int (x4 + 1))]) rfl ?_
    exact hP37 x1 x2 (x3 ||| ((1 : Int32) <<< (((mset μ4 13 x4.toNatClampNeg u3) 13 x4.toNatClampNeg) &&& 31))) (x4 + 1) (mset μ4 13 x4.toNatClampNeg u3) h
theorem v_X12_build_37 {X : Cx} {w : Wd} {l : Launch} {D : va_G} {A : Nat → Prop} (g : Gd X w RX12 cX12_build 5 rm_X12_build) (hX : atX X l D A) (post : Int32 → Mem → Prop) (hR : Rt X w shM 22 (some .int) (pI post)) (x1 : Int32) (x2 : Int32) (x3 : Int32) (x4 : Int32) (μ : Mem) (h : T_X12_build_37 post x1 x2 x3 x4 μ) : V X 37 [(0, .ref (w.1 0)), (1, .int x1), (2, .int x2), (3, .int x3), (4, .int x4)] [] (wls w shM 22 μ) :=
  h (fun x1 x2 x3 x4 μ => V X 37 [(0, .ref (w.1 0)), (1, .int x1), (2, .int x2), (3, .int x3), (4, .int x4)] [] (wls w shM 22 μ)) (fun x1 x2 x3 x4 μ h => bv_X12_build_37 g hX post hR (fun x1 x2 x3 x4 μ => V X 37 [(0, .ref (w.1 0)), (1, .int x1), (2, .int x2), (3, .int x3), (4, .int x4)] [] (wls w shM 22 μ)) (fun _ _ _ _ _ h => h) x1 x2 x3 x4 μ h)
def T_X12_build (x1 : Int32) (x2 : Int32) (μ : Mem) (post : Int32 → Mem → Prop) : Prop :=
  T_X12_isIn x1 0 2 μ (fun (u1 : Int32) (μ2 : Mem) => ((u1 = 0 → T_X12_build_19 post μ2) ∧ (¬ u1 = 0 → T_X12_isIn x2 1 9 μ2 (fun (u3 : Int32) (μ4 : Mem) => ((¬ u3 = 0 → ((¬ (μ4 0 5) = 0 → T_X12_build_37 post x1 x2 0 0 μ4) ∧ ((μ4 0 5) = 0 → post (-3) μ4))) ∧ (u3 = 0 → T_X12_build_19 post μ4))))))
theorem m_X12_build {w : Wd} {l : Launch} {D : va_G} {A : Nat → Prop} (x1 : Int32) (x2 : Int32) (μ : Mem) (post : Int32 → Mem → Prop) (h : T_X12_build x1 x2 μ post) : MetX l D A w shM 22 yX12_build cX12_build 5 (some .int) rm_X12_build [.ref (w.1 0), .int x1, .int x2] μ (pI post) := by
  refine metX_of (by decide) rfl (lv := [(0, .ref (w.1 0)), (1, .int x1), (2, .int x2)]) rfl (fun X hX g hR => ?_)
  refine r_iload_n (pc := 0) 1 g dX12_build_0 rfl ?_
  refine r_iconst (pc := 1) g dX12_build_1 ci_0 ?_
  refine r_iconst (pc := 2) g dX12_build_2 ci_2 ?_
  refine r_callSi (pc := 3) (st := []) g hX dX12_build_3 (m_X12_isIn x1 0 2 μ _ h) kb_RX12_79 k_1097 rfl rfl rfl rfl (fun u1 μ2 h => ?_)
  refine r_if_eq (pc := 6) 19 g dX12_build_6 rfl (fun q => ?_) (fun q => ?_)
  · have h := h.1 q
    refine r_sub [] (lv' := []) rfl ?_
    exact v_X12_build_19 g hX post hR μ2 h
  · have h := h.2 q
    refine r_iload_n (pc := 9) 2 g dX12_build_9 rfl ?_
    refine r_iconst (pc := 10) g dX12_build_10 ci_1 ?_
    refine r_bipush (pc := 11) g dX12_build_11 cb_9 ?_
    refine r_callSi (pc := 13) (st := []) g hX dX12_build_13 (m_X12_isIn x2 1 9 μ2 _ h) kb_RX12_79 k_1097 rfl rfl rfl rfl (fun u3 μ4 h => ?_)
    refine r_if_ne (pc := 16) 22 g dX12_build_16 rfl (fun q => ?_) (fun q => ?_)
    · have h := h.1 q
      refine r_aload_n (pc := 22) 0 g dX12_build_22 rfl ?_
      refine r_geti (pc := 23) (μ := μ4) g dX12_build_23 fa_RX12_83 shM_out sM_0 rfl ?_
      refine r_if_ne (pc := 26) 32 g dX12_build_26 rfl (fun q => ?_) (fun q => ?_)
      · have h := h.1 q
        refine r_iconst (pc := 32) g dX12_build_32 ci_0 ?_
        refine r_istore_n (pc := 33) (lv' := [(3, .int 0), (0, .ref (w.1 0)), (1, .int x1), (2, .int x2)]) g dX12_build_33 rfl rfl ?_
        refine r_iconst (pc := 34) g dX12_build_34 ci_0 ?_
        refine r_istore (pc := 35) (lv' := [(4, .int 0), (3, .int 0), (0, .ref (w.1 0)), (1, .int x1), (2, .int x2)]) g dX12_build_35 rfl rfl ?_
        refine r_sub [2, 3, 4, 1, 0] (lv' := [(0, .ref (w.1 0)), (1, .int x1), (2, .int x2), (3, .int 0), (4, .int 0)]) rfl ?_
        exact v_X12_build_37 g hX post hR x1 x2 0 0 μ4 h
      · have h := h.2 q
        refine r_bipush (pc := 29) g dX12_build_29 cb_m3 ?_
        exact r_ireti (pc := 31) g hR dX12_build_31 h
    · have h := h.2 q
      refine r_sub [] (lv' := []) rfl ?_
      exact v_X12_build_19 g hX post hR μ4 h
abbrev rm_X12_layMoved : Room := { frames := 0, cells := 0, slots := 0, locals := 0 }
def B_X12_layMoved_69 (post : Mem → Prop) (P69 : Int32 → Int32 → Int32 → Mem → Prop) (x2 : Int32) (x3 : Int32) (x4 : Int32) (μ : Mem) : Prop :=
  ((x4 ≤ x2 → vp_in x2 9 ∧ post (mset μ 18 x2.toNatClampNeg x3)) ∧ (¬ x4 ≤ x2 → vp_in (x4 - 1) 9 ∧ vp_in x4 9 ∧ P69 x2 x3 (x4 + (-1)) (mset μ 18 x4.toNatClampNeg (μ 13 (x4 - 1).toNatClampNeg))))
def T_X12_layMoved_69 (post : Mem → Prop) (x2 : Int32) (x3 : Int32) (x4 : Int32) (μ : Mem) : Prop :=
  ∀ P69 : Int32 → Int32 → Int32 → Mem → Prop, (∀ (x2 : Int32) (x3 : Int32) (x4 : Int32) (μ : Mem), B_X12_layMoved_69 post P69 x2 x3 x4 μ → P69 x2 x3 x4 μ) → P69 x2 x3 x4 μ
theorem bv_X12_layMoved_69 {X : Cx} {w : Wd} {l : Launch} {D : va_G} {A : Nat → Prop} (g : Gd X w RX12 cX12_layMoved 5 rm_X12_layMoved) (hX : atX X l D A) (post : Mem → Prop) (hR : Rt X w shM 22 none (pV post)) (P69 : Int32 → Int32 → Int32 → Mem → Prop) (hP69 : ∀ (x2 : Int32) (x3 : Int32) (x4 : Int32) (μ : Mem), P69 x2 x3 x4 μ → V X 69 [(0, .ref (w.1 0)), (2, .int x2), (3, .int x3), (4, .int x4)] [] (wls w shM 22 μ)) (x2 : Int32) (x3 : Int32) (x4 : Int32) (μ : Mem) (h : B_X12_layMoved_69 post P69 x2 x3 x4 μ) : V X 69 [(0, .ref (w.1 0)), (2, .int x2), (3, .int x3), (4, .int x4)] [] (wls w shM 22 μ) := by
  refine r_iload (pc := 69) 3 g dX12_layMoved_69 rfl ?_
  refine r_iload_n (pc := 71) 1 g dX12_layMoved_71 rfl ?_
  refine r_icmp_le (pc := 72) 97 g dX12_layMoved_72 rfl (fun q => ?_) (fun q => ?_)
  · have h := h.1 q
    refine r_aload_n (pc := 97) 0 g dX12_layMoved_97 rfl ?_
    refine r_getr (pc := 98) (μ := μ) g dX12_layMoved_98 fa_RX12_61 shM_out sM_0 rfl ?_
    refine r_iload_n (pc := 101) 1 g dX12_layMoved_101 rfl ?_
    refine r_iload_n (pc := 102) 2 g dX12_layMoved_102 rfl ?_
    obtain ⟨b1, h⟩ := h
    refine r_iastore (pc := 103) (μ := μ) g dX12_layMoved_103 shM_out sM_18 b1 ?_
    exact r_vretv (pc := 104) g hR dX12_layMoved_104 h
  · have h := h.2 q
    refine r_aload_n (pc := 75) 0 g dX12_layMoved_75 rfl ?_
    refine r_getr (pc := 76) (μ := μ) g dX12_layMoved_76 fa_RX12_61 shM_out sM_0 rfl ?_
    refine r_iload (pc := 79) 3 g dX12_layMoved_79 rfl ?_
    refine r_aload_n (pc := 81) 0 g dX12_layMoved_81 rfl ?_
    refine r_getr (pc := 82) (μ := μ) g dX12_layMoved_82 fa_RX12_46 shM_out sM_0 rfl ?_
    refine r_iload (pc := 85) 3 g dX12_layMoved_85 rfl ?_
    refine r_iconst (pc := 87) g dX12_layMoved_87 ci_1 ?_
    refine r_isub (pc := 88) g dX12_layMoved_88 ?_
    obtain ⟨b2, h⟩ := h
    refine r_iaload (pc := 89) (μ := μ) g dX12_layMoved_89 shM_out sM_13 b2 ?_
    obtain ⟨b3, h⟩ := h
    refine r_iastore (pc := 90) (μ := μ) g dX12_layMoved_90 shM_out sM_18 b3 ?_
    refine r_iinc (pc := 91) (lv' := [(4, .int (x4 + (-1))), (0, .ref (w.1 0)), (2, .int x2), (3, .int x3)]) 3 g dX12_layMoved_91 rfl ci_m1 rfl rfl ?_
    refine r_goto (pc := 94) 69 g dX12_layMoved_94 rfl ?_
    refine r_sub [1, 2, 3, 0] (lv' := [(0, .ref (w.1 0)), (2, .int x2), (3, .int x3), (4, .int (x4 + (-1)))]) rfl ?_
    exact hP69 x2 x3 (x4 + (-1)) (mset μ 18 x4.toNatClampNeg (μ 13 (x4 - 1).toNatClampNeg)) h
theorem v_X12_layMoved_69 {X : Cx} {w : Wd} {l : Launch} {D : va_G} {A : Nat → Prop} (g : Gd X w RX12 cX12_layMoved 5 rm_X12_layMoved) (hX : atX X l D A) (post : Mem → Prop) (hR : Rt X w shM 22 none (pV post)) (x2 : Int32) (x3 : Int32) (x4 : Int32) (μ : Mem) (h : T_X12_layMoved_69 post x2 x3 x4 μ) : V X 69 [(0, .ref (w.1 0)), (2, .int x2), (3, .int x3), (4, .int x4)] [] (wls w shM 22 μ) :=
  h (fun x2 x3 x4 μ => V X 69 [(0, .ref (w.1 0)), (2, .int x2), (3, .int x3), (4, .int x4)] [] (wls w shM 22 μ)) (fun x2 x3 x4 μ h => bv_X12_layMoved_69 g hX post hR (fun x2 x3 x4 μ => V X 69 [(0, .ref (w.1 0)), (2, .int x2), (3, .int x3), (4, .int x4)] [] (wls w shM 22 μ)) (fun _ _ _ _ h => h) x2 x3 x4 μ h)
def B_X12_layMoved_38 (post : Mem → Prop) (P38 : Int32 → Int32 → Int32 → Int32 → Mem → Prop) (x1 : Int32) (x2 : Int32) (x3 : Int32) (x4 : Int32) (μ : Mem) : Prop :=
  ((x2 ≤ x4 → T_X12_layMoved_69 post x2 x3 x1 μ) ∧ (¬ x2 ≤ x4 → vp_in (x4 + 1) 9 ∧ vp_in x4 9 ∧ P38 x1 x2 x3 (x4 + 1) (mset μ 18 x4.toNatClampNeg (μ 13 (x4 + 1).toNatClampNeg))))
def T_X12_layMoved_38 (post : Mem → Prop) (x1 : Int32) (x2 : Int32) (x3 : Int32) (x4 : Int32) (μ : Mem) : Prop :=
  ∀ P38 : Int32 → Int32 → Int32 → Int32 → Mem → Prop, (∀ (x1 : Int32) (x2 : Int32) (x3 : Int32) (x4 : Int32) (μ : Mem), B_X12_layMoved_38 post P38 x1 x2 x3 x4 μ → P38 x1 x2 x3 x4 μ) → P38 x1 x2 x3 x4 μ
theorem bv_X12_layMoved_38 {X : Cx} {w : Wd} {l : Launch} {D : va_G} {A : Nat → Prop} (g : Gd X w RX12 cX12_layMoved 5 rm_X12_layMoved) (hX : atX X l D A) (post : Mem → Prop) (hR : Rt X w shM 22 none (pV post)) (P38 : Int32 → Int32 → Int32 → Int32 → Mem → Prop) (hP38 : ∀ (x1 : Int32) (x2 : Int32) (x3 : Int32) (x4 : Int32) (μ : Mem), P38 x1 x2 x3 x4 μ → V X 38 [(0, .ref (w.1 0)), (1, .int x1), (2, .int x2), (3, .int x3), (4, .int x4)] [] (wls w shM 22 μ)) (x1 : Int32) (x2 : Int32) (x3 : Int32) (x4 : Int32) (μ : Mem) (h : B_X12_layMoved_38 post P38 x1 x2 x3 x4 μ) : V X 38 [(0, .ref (w.1 0)), (1, .int x1), (2, .int x2), (3, .int x3), (4, .int x4)] [] (wls w shM 22 μ) := by
  refine r_iload (pc := 38) 4 g dX12_layMoved_38 rfl ?_
  refine r_iload_n (pc := 40) 2 g dX12_layMoved_40 rfl ?_
  refine r_icmp_ge (pc := 41) 66 g dX12_layMoved_41 rfl (fun q => ?_) (fun q => ?_)
  · have h := h.1 q
    refine r_iload_n (pc := 66) 1 g dX12_layMoved_66 rfl ?_
    refine r_istore (pc := 67) (lv' := [(4, .int x1), (0, .ref (w.1 0)), (1, .int x1), (2, .int x2), (3, .int x3)]) g dX12_layMoved_67 rfl rfl ?_
    refine r_sub [1, 3, 4, 0] (lv' := [(0, .ref (w.1 0)), (2, .int x2), (3, .int x3), (4, .int x1)]) rfl ?_
    exact v_X12_layMoved_69 g hX post hR x2 x3 x1 μ h
  · have h := h.2 q
    refine r_aload_n (pc := 44) 0 g dX12_layMoved_44 rfl ?_
    refine r_getr (pc := 45) (μ := μ) g dX12_layMoved_45 fa_RX12_61 shM_out sM_0 rfl ?_
    refine r_iload (pc := 48) 4 g dX12_layMoved_48 rfl ?_
    refine r_aload_n (pc := 50) 0 g dX12_layMoved_50 rfl ?_
    refine r_getr (pc := 51) (μ := μ) g dX12_layMoved_51 fa_RX12_46 shM_out sM_0 rfl ?_
    refine r_iload (pc := 54) 4 g dX12_layMoved_54 rfl ?_
    refine r_iconst (pc := 56) g dX12_layMoved_56 ci_1 ?_
    refine r_iadd (pc := 57) g dX12_layMoved_57 ?_
    obtain ⟨b1, h⟩ := h
    refine r_iaload (pc := 58) (μ := μ) g dX12_layMoved_58 shM_out sM_13 b1 ?_
    obtain ⟨b2, h⟩ := h
    refine r_iastore (pc := 59) (μ := μ) g dX12_layMoved_59 shM_out sM_18 b2 ?_
    refine r_iinc (pc := 60) (lv' := [(4, .int (x4 + 1)), (0, .ref (w.1 0)), (1, .int x1), (2, .int x2), (3, .int x3)]) 4 g dX12_layMoved_60 rfl ci_1 rfl rfl ?_
    refine r_goto (pc := 63) 38 g dX12_layMoved_63 rfl ?_
    refine r_sub [1, 2, 3, 4, 0] (lv' := [(0, .ref (w.1 0)), (1, .int x1), (2, .int x2), (3, .int x3), (4, .int (x4 + 1))]) rfl ?_
    exact hP38 x1 x2 x3 (x4 + 1) (mset μ 18 x4.toNatClampNeg (μ 13 (x4 + 1).toNatClampNeg)) h
theorem v_X12_layMoved_38 {X : Cx} {w : Wd} {l : Launch} {D : va_G} {A : Nat → Prop} (g : Gd X w RX12 cX12_layMoved 5 rm_X12_layMoved) (hX : atX X l D A) (post : Mem → Prop) (hR : Rt X w shM 22 none (pV post)) (x1 : Int32) (x2 : Int32) (x3 : Int32) (x4 : Int32) (μ : Mem) (h : T_X12_layMoved_38 post x1 x2 x3 x4 μ) : V X 38 [(0, .ref (w.1 0)), (1, .int x1), (2, .int x2), (3, .int x3), (4, .int x4)] [] (wls w shM 22 μ) :=
  h (fun x1 x2 x3 x4 μ => V X 38 [(0, .ref (w.1 0)), (1, .int x1), (2, .int x2), (3, .int x3), (4, .int x4)] [] (wls w shM 22 μ)) (fun x1 x2 x3 x4 μ h => bv_X12_layMoved_38 g hX post hR (fun x1 x2 x3 x4 μ => V X 38 [(0, .ref (w.1 0)), (1, .int x1), (2, .int x2), (3, .int x3), (4, .int x4)] [] (wls w shM 22 μ)) (fun _ _ _ _ _ h => h) x1 x2 x3 x4 μ h)
def B_X12_layMoved_2 (post : Mem → Prop) (P2 : Int32 → Int32 → Int32 → Mem → Prop) (x1 : Int32) (x2 : Int32) (x3 : Int32) (μ : Mem) : Prop :=
  (((μ 0 5) ≤ x3 → vp_in x1 9 ∧ T_X12_layMoved_38 post x1 x2 (μ 13 x1.toNatClampNeg) x1 μ) ∧ (¬ (μ 0 5) ≤ x3 → vp_in x3 9 ∧ vp_in x3 9 ∧ P2 x1 x2 (x3 + 1) (mset μ 18 x3.toNatClampNeg (μ 13 x3.toNatClampNeg))))
def T_X12_layMoved_2 (post : Mem → Prop) (x1 : Int32) (x2 : Int32) (x3 : Int32) (μ : Mem) : Prop :=
  ∀ P2 : Int32 → Int32 → Int32 → Mem → Prop, (∀ (x1 : Int32) (x2 : Int32) (x3 : Int32) (μ : Mem), B_X12_layMoved_2 post P2 x1 x2 x3 μ → P2 x1 x2 x3 μ) → P2 x1 x2 x3 μ
theorem bv_X12_layMoved_2 {X : Cx} {w : Wd} {l : Launch} {D : va_G} {A : Nat → Prop} (g : Gd X w RX12 cX12_layMoved 5 rm_X12_layMoved) (hX : atX X l D A) (post : Mem → Prop) (hR : Rt X w shM 22 none (pV post)) (P2 : Int32 → Int32 → Int32 → Mem → Prop) (hP2 : ∀ (x1 : Int32) (x2 : Int32) (x3 : Int32) (μ : Mem), P2 x1 x2 x3 μ → V X 2 [(0, .ref (w.1 0)), (1, .int x1), (2, .int x2), (3, .int x3)] [] (wls w shM 22 μ)) (x1 : Int32) (x2 : Int32) (x3 : Int32) (μ : Mem) (h : B_X12_layMoved_2 post P2 x1 x2 x3 μ) : V X 2 [(0, .ref (w.1 0)), (1, .int x1), (2, .int x2), (3, .int x3)] [] (wls w shM 22 μ) := by
  refine r_iload_n (pc := 2) 3 g dX12_layMoved_2 rfl ?_
  refine r_aload_n (pc := 3) 0 g dX12_layMoved_3 rfl ?_
  refine r_geti (pc := 4) (μ := μ) g dX12_layMoved_4 fa_RX12_83 shM_out sM_0 rfl ?_
  refine r_icmp_ge (pc := 7) 28 g dX12_layMoved_7 rfl (fun q => ?_) (fun q => ?_)
  · have h := h.1 q
    refine r_aload_n (pc := 28) 0 g dX12_layMoved_28 rfl ?_
    refine r_getr (pc := 29) (μ := μ) g dX12_layMoved_29 fa_RX12_46 shM_out sM_0 rfl ?_
    refine r_iload_n (pc := 32) 1 g dX12_layMoved_32 rfl ?_
    obtain ⟨b1, h⟩ := h
    refine r_iaload (pc := 33) (μ := μ) g dX12_layMoved_33 shM_out sM_13 b1 ?_
    refine r_istore_n (pc := 34) (lv' := [(3, .int (μ 13 x1.toNatClampNeg)), (0, .ref (w.1 0)), (1, .int x1), (2, .int x2)]) g dX12_layMoved_34 rfl rfl ?_
    refine r_iload_n (pc := 35) 2 g dX12_layMoved_35 rfl ?_
    refine r_istore (pc := 36) (lv' := [(4, .int x1), (3, .int (μ 13 x1.toNatClampNeg)), (0, .ref (w.1 0)), (1, .int x1), (2, .int x2)]) g dX12_layMoved_36 rfl rfl ?_
    refine r_sub [2, 3, 4, 1, 0] (lv' := [(0, .ref (w.1 0)), (1, .int x1), (2, .int x2), (3, .int (μ 13 x1.toNatClampNeg)), (4, .int x1)]) rfl ?_
    exact v_X12_layMoved_38 g hX post hR x1 x2 (μ 13 x1.toNatClampNeg) x1 μ h
  · have h := h.2 q
    refine r_aload_n (pc := 10) 0 g dX12_layMoved_10 rfl ?_
    refine r_getr (pc := 11) (μ := μ) g dX12_layMoved_11 fa_RX12_61 shM_out sM_0 rfl ?_
    refine r_iload_n (pc := 14) 3 g dX12_layMoved_14 rfl ?_
    refine r_aload_n (pc := 15) 0 g dX12_layMoved_15 rfl ?_
    refine r_getr (pc := 16) (μ := μ) g dX12_layMoved_16 fa_RX12_46 shM_out sM_0 rfl ?_
    refine r_iload_n (pc := 19) 3 g dX12_layMoved_19 rfl ?_
    obtain ⟨b2, h⟩ := h
    refine r_iaload (pc := 20) (μ := μ) g dX12_layMoved_20 shM_out sM_13 b2 ?_
    obtain ⟨b3, h⟩ := h
    refine r_iastore (pc := 21) (μ := μ) g dX12_layMoved_21 shM_out sM_18 b3 ?_
    refine r_iinc (pc := 22) (lv' := [(3, .int (x3 + 1)), (0, .ref (w.1 0)), (1, .int x1), (2, .int x2)]) 3 g dX12_layMoved_22 rfl ci_1 rfl rfl ?_
    refine r_goto (pc := 25) 2 g dX12_layMoved_25 rfl ?_
    refine r_sub [1, 2, 3, 0] (lv' := [(0, .ref (w.1 0)), (1, .int x1), (2, .int x2), (3, .int (x3 + 1))]) rfl ?_
    exact hP2 x1 x2 (x3 + 1) (mset μ 18 x3.toNatClampNeg (μ 13 x3.toNatClampNeg)) h
theorem v_X12_layMoved_2 {X : Cx} {w : Wd} {l : Launch} {D : va_G} {A : Nat → Prop} (g : Gd X w RX12 cX12_layMoved 5 rm_X12_layMoved) (hX : atX X l D A) (post : Mem → Prop) (hR : Rt X w shM 22 none (pV post)) (x1 : Int32) (x2 : Int32) (x3 : Int32) (μ : Mem) (h : T_X12_layMoved_2 post x1 x2 x3 μ) : V X 2 [(0, .ref (w.1 0)), (1, .int x1), (2, .int x2), (3, .int x3)] [] (wls w shM 22 μ) :=
  h (fun x1 x2 x3 μ => V X 2 [(0, .ref (w.1 0)), (1, .int x1), (2, .int x2), (3, .int x3)] [] (wls w shM 22 μ)) (fun x1 x2 x3 μ h => bv_X12_layMoved_2 g hX post hR (fun x1 x2 x3 μ => V X 2 [(0, .ref (w.1 0)), (1, .int x1), (2, .int x2), (3, .int x3)] [] (wls w shM 22 μ)) (fun _ _ _ _ h => h) x1 x2 x3 μ h)
def T_X12_layMoved (x1 : Int32) (x2 : Int32) (μ : Mem) (post : Mem → Prop) : Prop :=
  T_X12_layMoved_2 post x1 x2 0 μ
theorem m_X12_layMoved {w : Wd} {l : Launch} {D : va_G} {A : Nat → Prop} (x1 : Int32) (x2 : Int32) (μ : Mem) (post : Mem → Prop) (h : T_X12_layMoved x1 x2 μ post) : MetX l D A w shM 22 yX12_layMoved cX12_layMoved 5 none rm_X12_layMoved [.ref (w.1 0), .int x1, .int x2] μ (pV post) := by
  refine metX_of (by decide) rfl (lv := [(0, .ref (w.1 0)), (1, .int x1), (2, .int x2)]) rfl (fun X hX g hR => ?_)
  refine r_iconst (pc := 0) g dX12_layMoved_0 ci_0 ?_
  refine r_istore_n (pc := 1) (lv' := [(3, .int 0), (0, .ref (w.1 0)), (1, .int x1), (2, .int x2)]) g dX12_layMoved_1 rfl rfl ?_
  refine r_sub [1, 2, 3, 0] (lv' := [(0, .ref (w.1 0)), (1, .int x1), (2, .int x2), (3, .int 0)]) rfl ?_
  exact v_X12_layMoved_2 g hX post hR x1 x2 0 μ h
abbrev rm_X12_moveOnce : Room := { frames := 4, cells := 0, slots := 0, locals := 93 }
def B_X12_moveOnce_62 (post : Int32 → Mem → Prop) (P62 : Int32 → Mem → Prop) (x3 : Int32) (μ : Mem) : Prop :=
  (((μ 0 5) ≤ x3 → post 1 μ) ∧ (¬ (μ 0 5) ≤ x3 → vp_in x3 9 ∧ vp_in x3 9 ∧ P62 (x3 + 1) (mset μ 13 x3.toNatClampNeg (μ 18 x3.toNatClampNeg))))
def T_X12_moveOnce_62 (post : Int32 → Mem → Prop) (x3 : Int32) (μ : Mem) : Prop :=
  ∀ P62 : Int32 → Mem → Prop, (∀ (x3 : Int32) (μ : Mem), B_X12_moveOnce_62 post P62 x3 μ → P62 x3 μ) → P62 x3 μ
theorem bv_X12_moveOnce_62 {X : Cx} {w : Wd} {l : Launch} {D : va_G} {A : Nat → Prop} (g : Gd X w RX12 cX12_moveOnce 4 rm_X12_moveOnce) (hX : atX X l D A) (post : Int32 → Mem → Prop) (hR : Rt X w shM 22 (some .boolean) (pI post)) (P62 : Int32 → Mem → Prop) (hP62 : ∀ (x3 : Int32) (μ : Mem), P62 x3 μ → V X 62 [(0, .ref (w.1 0)), (3, .int x3)] [] (wls w shM 22 μ)) (x3 : Int32) (μ : Mem) (h : B_X12_moveOnce_62 post P62 x3 μ) : V X 62 [(0, .ref (w.1 0)), (3, .int x3)] [] (wls w shM 22 μ) := by
  refine r_iload_n (pc := 62) 1 g dX12_moveOnce_62 rfl ?_
  refine r_aload_n (pc := 63) 0 g dX12_moveOnce_63 rfl ?_
  refine r_geti (pc := 64) (μ := μ) g dX12_moveOnce_64 fa_RX12_83 shM_out sM_0 rfl ?_
  refine r_icmp_ge (pc := 67) 88 g dX12_moveOnce_67 rfl (fun q => ?_) (fun q => ?_)
  · have h := h.1 q
    refine r_iconst (pc := 88) g dX12_moveOnce_88 ci_1 ?_
    exact r_zreti (pc := 89) g hR dX12_moveOnce_89 (Or.inr rfl) h
  · have h := h.2 q
    refine r_aload_n (pc := 70) 0 g dX12_moveOnce_70 rfl ?_
    refine r_getr (pc := 71) (μ := μ) g dX12_moveOnce_71 fa_RX12_46 shM_out sM_0 rfl ?_
    refine r_iload_n (pc := 74) 1 g dX12_moveOnce_74 rfl ?_
    refine r_aload_n (pc := 75) 0 g dX12_moveOnce_75 rfl ?_
    refine r_getr (pc := 76) (μ := μ) g dX12_moveOnce_76 fa_RX12_61 shM_out sM_0 rfl ?_
    refine r_iload_n (pc := 79) 1 g dX12_moveOnce_79 rfl ?_
    obtain ⟨b1, h⟩ := h
    refine r_iaload (pc := 80) (μ := μ) g dX12_moveOnce_80 shM_out sM_18 b1 ?_
    obtain ⟨b2, h⟩ := h
    refine r_iastore (pc := 81) (μ := μ) g dX12_moveOnce_81 shM_out sM_13 b2 ?_
    refine r_iinc (pc := 82) (lv' := [(3, .int (x3 + 1)), (0, .ref (w.1 0))]) 1 g dX12_moveOnce_82 rfl ci_1 rfl rfl ?_
    refine r_goto (pc := 85) 62 g dX12_moveOnce_85 rfl ?_
    refine r_sub [1, 0] (lv' := [(0, .ref (w.1 0)), (3, .int (x3 + 1))]) rfl ?_
    exact hP62 (x3 + 1) (mset μ 13 x3.toNatClampNeg (μ 18 x3.toNatClampNeg)) h
theorem v_X12_moveOnce_62 {X : Cx} {w : Wd} {l : Launch} {D : va_G} {A : Nat → Prop} (g : Gd X w RX12 cX12_moveOnce 4 rm_X12_moveOnce) (hX : atX X l D A) (post : Int32 → Mem → Prop) (hR : Rt X w shM 22 (some .boolean) (pI post)) (x3 : Int32) (μ : Mem) (h : T_X12_moveOnce_62 post x3 μ) : V X 62 [(0, .ref (w.1 0)), (3, .int x3)] [] (wls w shM 22 μ) :=
  h (fun x3 μ => V X 62 [(0, .ref (w.1 0)), (3, .int x3)] [] (wls w shM 22 μ)) (fun x3 μ h => bv_X12_moveOnce_62 g hX post hR (fun x3 μ => V X 62 [(0, .ref (w.1 0)), (3, .int x3)] [] (wls w shM 22 μ)) (fun _ _ h => h) x3 μ h)
def B_X12_moveOnce_12 (post : Int32 → Mem → Prop) (P2 : Int32 → Mem → Prop) (P12 : Int32 → Int32 → Mem → Prop) (x1 : Int32) (x2 : Int32) (μ : Mem) : Prop :=
  (((μ 0 5) ≤ x2 → P2 (x1 + 1) μ) ∧ (¬ (μ 0 5) ≤ x2 → ((¬ x1 = x2 → T_X12_layMoved x1 x2 μ (fun (μ2 : Mem) => T_X12_isLawful 18 μ2 (fun (u3 : Int32) (μ4 : Mem) => ((u3 = 0 → P12 x1 (x2 + 1) μ4) ∧ (¬ u3 = 0 → T_X12_isBetter 18 13 μ4 (fun (u5 : Int32) (μ6 : Mem) => ((u5 = 0 → P12 x1 (x2 + 1) μ6) ∧ (¬ u5 = 0 → T_X12_moveOnce_62 post 0 μ6)))))))) ∧ (x1 = x2 → P12 x1 (x2 + 1) μ))))
def T_X12_moveOnce_12 (post : Int32 → Mem → Prop) (P2 : Int32 → Mem → Prop) (x1 : Int32) (x2 : Int32) (μ : Mem) : Prop :=
  ∀ P12 : Int32 → Int32 → Mem → Prop, (∀ (x1 : Int32) (x2 : Int32) (μ : Mem), B_X12_moveOnce_12 post P2 P12 x1 x2 μ → P12 x1 x2 μ) → P12 x1 x2 μ
theorem bv_X12_moveOnce_12 {X : Cx} {w : Wd} {l : Launch} {D : va_G} {A : Nat → Prop} (g : Gd X w RX12 cX12_moveOnce 4 rm_X12_moveOnce) (hX : atX X l D A) (post : Int32 → Mem → Prop) (hR : Rt X w shM 22 (some .boolean) (pI post)) (P2 : Int32 → Mem → Prop) (hP2 : ∀ (x1 : Int32) (μ : Mem), P2 x1 μ → V X 2 [(0, .ref (w.1 0)), (1, .int x1)] [] (wls w shM 22 μ)) (P12 : Int32 → Int32 → Mem → Prop) (hP12 : ∀ (x1 : Int32) (x2 : Int32) (μ : Mem), P12 x1 x2 μ → V X 12 [(0, .ref (w.1 0)), (1, .int x1), (2, .int x2)] [] (wls w shM 22 μ)) (x1 : Int32) (x2 : Int32) (μ : Mem) (h : B_X12_moveOnce_12 post P2 P12 x1 x2 μ) : V X 12 [(0, .ref (w.1 0)), (1, .int x1), (2, .int x2)] [] (wls w shM 22 μ) := by
  refine r_iload_n (pc := 12) 2 g dX12_moveOnce_12 rfl ?_
  refine r_aload_n (pc := 13) 0 g dX12_moveOnce_13 rfl ?_
  refine r_geti (pc := 14) (μ := μ) g dX12_moveOnce_14 fa_RX12_83 shM_out sM_0 rfl ?_
  refine r_icmp_ge (pc := 17) 96 g dX12_moveOnce_17 rfl (fun q => ?_) (fun q => ?_)
  · have h := h.1 q
    refine r_iinc (pc := 96) (lv' := [(1, .int (x1 + 1)), (0, .ref (w.1 0)), (2, .int x2)]) 1 g dX12_moveOnce_96 rfl ci_1 rfl rfl ?_
    refine r_goto (pc := 99) 2 g dX12_moveOnce_99 rfl ?_
    refine r_sub [1, 0] (lv' := [(0, .ref (w.1 0)), (1, .int (x1 + 1))]) rfl ?_
    exact hP2 (x1 + 1) μ h
  · have h := h.2 q
    refine r_iload_n (pc := 20) 1 g dX12_moveOnce_20 rfl ?_
    refine r_iload_n (pc := 21) 2 g dX12_moveOnce_21 rfl ?_
    refine r_icmp_ne (pc := 22) 28 g dX12_moveOnce_22 rfl (fun q => ?_) (fun q => ?_)
    · have h := h.1 q
      refine r_aload_n (pc := 28) 0 g dX12_moveOnce_28 rfl ?_
      refine r_iload_n (pc := 29) 1 g dX12_moveOnce_29 rfl ?_
      refine r_iload_n (pc := 30) 2 g dX12_moveOnce_30 rfl ?_
      refine r_callVv (pc := 31) (st := []) g hX dX12_moveOnce_31 (m_X12_layMoved x1 x2 μ _ h) kb_RX12_232 kv_X12_layMoved shM_out sM_0 rfl rfl rfl rfl (fun μ2 h => ?_)
      refine r_aload_n (pc := 34) 0 g dX12_moveOnce_34 rfl ?_
      refine r_aload_n (pc := 35) 0 g dX12_moveOnce_35 rfl ?_
      refine r_getr (pc := 36) (μ := μ2) g dX12_moveOnce_36 fa_RX12_61 shM_out sM_0 rfl ?_
      refine r_callVi (pc := 39) (st := []) g hX dX12_moveOnce_39 (m_X12_isLawful 18 μ2 _ h) kb_RX12_150 kv_X12_isLawful shM_out sM_0 rfl rfl rfl rfl (fun u3 μ4 h => ?_)
      refine r_if_eq (pc := 42) 90 g dX12_moveOnce_42 rfl (fun q => ?_) (fun q => ?_)
      · have h := h.1 q
        refine r_iinc (pc := 90) (lv' := [(2, .int (x2 + 1)), (0, .ref (w.1 0)), (1, .int x1)]) 2 g dX12_moveOnce_90 rfl ci_1 rfl rfl ?_
        refine r_goto (pc := 93) 12 g dX12_moveOnce_93 rfl ?_
        refine r_sub [1, 2, 0] (lv' := [(0, .ref (w.1 0)), (1, .int x1), (2, .int (x2 + 1))]) rfl ?_
        exact hP12 x1 (x2 + 1) μ4 h
      · have h := h.2 q
        refine r_aload_n (pc := 45) 0 g dX12_moveOnce_45 rfl ?_
        refine r_aload_n (pc := 46) 0 g dX12_moveOnce_46 rfl ?_
        refine r_getr (pc := 47) (μ := μ4) g dX12_moveOnce_47 fa_RX12_61 shM_out sM_0 rfl ?_
        refine r_aload_n (pc := 50) 0 g dX12_moveOnce_50 rfl ?_
        refine r_getr (pc := 51) (μ := μ4) g dX12_moveOnce_51 fa_RX12_46 shM_out sM_0 rfl ?_
        refine r_callVi (pc := 54) (st := []) g hX dX12_moveOnce_54 (m_X12_isBetter 18 13 μ4 _ h) kb_RX12_201 kv_X12_isBetter shM_out sM_0 rfl rfl rfl rfl (fun u5 μ6 h => ?_)
        refine r_if_eq (pc := 57) 90 g dX12_moveOnce_57 rfl (fun q => ?_) (fun q => ?_)
        · have h := h.1 q
          refine r_iinc (pc := 90) (lv' := [(2, .int (x2 + 1)), (0, .ref (w.1 0)), (1, .int x1)]) 2 g dX12_moveOnce_90 rfl ci_1 rfl rfl ?_
          refine r_goto (pc := 93) 12 g dX12_moveOnce_93 rfl ?_
          refine r_sub [1, 2, 0] (lv' := [(0, .ref (w.1 0)), (1, .int x1), (2, .int (x2 + 1))]) rfl ?_
          exact hP12 x1 (x2 + 1) μ6 h
        · have h := h.2 q
          refine r_iconst (pc := 60) g dX12_moveOnce_60 ci_0 ?_
          refine r_istore_n (pc := 61) (lv' := [(3, .int 0), (0, .ref (w.1 0)), (1, .int x1), (2, .int x2)]) g dX12_moveOnce_61 rfl rfl ?_
          refine r_sub [1, 0] (lv' := [(0, .ref (w.1 0)), (3, .int 0)]) rfl ?_
          exact v_X12_moveOnce_62 g hX post hR 0 μ6 h
    · have h := h.2 q
      refine r_goto (pc := 25) 90 g dX12_moveOnce_25 rfl ?_
      refine r_iinc (pc := 90) (lv' := [(2, .int (x2 + 1)), (0, .ref (w.1 0)), (1, .int x1)]) 2 g dX12_moveOnce_90 rfl ci_1 rfl rfl ?_
      refine r_goto (pc := 93) 12 g dX12_moveOnce_93 rfl ?_
      refine r_sub [1, 2, 0] (lv' := [(0, .ref (w.1 0)), (1, .int x1), (2, .int (x2 + 1))]) rfl ?_
      exact hP12 x1 (x2 + 1) μ h
theorem v_X12_moveOnce_12 {X : Cx} {w : Wd} {l : Launch} {D : va_G} {A : Nat → Prop} (g : Gd X w RX12 cX12_moveOnce 4 rm_X12_moveOnce) (hX : atX X l D A) (post : Int32 → Mem → Prop) (hR : Rt X w shM 22 (some .boolean) (pI post)) (P2 : Int32 → Mem → Prop) (hP2 : ∀ (x1 : Int32) (μ : Mem), P2 x1 μ → V X 2 [(0, .ref (w.1 0)), (1, .int x1)] [] (wls w shM 22 μ)) (x1 : Int32) (x2 : Int32) (μ : Mem) (h : T_X12_moveOnce_12 post P2 x1 x2 μ) : V X 12 [(0, .ref (w.1 0)), (1, .int x1), (2, .int x2)] [] (wls w shM 22 μ) :=
  h (fun x1 x2 μ => V X 12 [(0, .ref (w.1 0)), (1, .int x1), (2, .int x2)] [] (wls w shM 22 μ)) (fun x1 x2 μ h => bv_X12_moveOnce_12 g hX post hR P2 hP2 (fun x1 x2 μ => V X 12 [(0, .ref (w.1 0)), (1, .int x1), (2, .int x2)] [] (wls w shM 22 μ)) (fun _ _ _ h => h) x1 x2 μ h)
def B_X12_moveOnce_2 (post : Int32 → Mem → Prop) (P2 : Int32 → Mem → Prop) (x1 : Int32) (μ : Mem) : Prop :=
  (((μ 0 5) ≤ x1 → post 0 μ) ∧ (¬ (μ 0 5) ≤ x1 → T_X12_moveOnce_12 post P2 x1 0 μ))
def T_X12_moveOnce_2 (post : Int32 → Mem → Prop) (x1 : Int32) (μ : Mem) : Prop :=
  ∀ P2 : Int32 → Mem → Prop, (∀ (x1 : Int32) (μ : Mem), B_X12_moveOnce_2 post P2 x1 μ → P2 x1 μ) → P2 x1 μ
theorem bv_X12_moveOnce_2 {X : Cx} {w : Wd} {l : Launch} {D : va_G} {A : Nat → Prop} (g : Gd X w RX12 cX12_moveOnce 4 rm_X12_moveOnce) (hX : atX X l D A) (post : Int32 → Mem → Prop) (hR : Rt X w shM 22 (some .boolean) (pI post)) (P2 : Int32 → Mem → Prop) (hP2 : ∀ (x1 : Int32) (μ : Mem), P2 x1 μ → V X 2 [(0, .ref (w.1 0)), (1, .int x1)] [] (wls w shM 22 μ)) (x1 : Int32) (μ : Mem) (h : B_X12_moveOnce_2 post P2 x1 μ) : V X 2 [(0, .ref (w.1 0)), (1, .int x1)] [] (wls w shM 22 μ) := by
  refine r_iload_n (pc := 2) 1 g dX12_moveOnce_2 rfl ?_
  refine r_aload_n (pc := 3) 0 g dX12_moveOnce_3 rfl ?_
  refine r_geti (pc := 4) (μ := μ) g dX12_moveOnce_4 fa_RX12_83 shM_out sM_0 rfl ?_
  refine r_icmp_ge (pc := 7) 102 g dX12_moveOnce_7 rfl (fun q => ?_) (fun q => ?_)
  · have h := h.1 q
    refine r_iconst (pc := 102) g dX12_moveOnce_102 ci_0 ?_
    exact r_zreti (pc := 103) g hR dX12_moveOnce_103 (Or.inl rfl) h
  · have h := h.2 q
    refine r_iconst (pc := 10) g dX12_moveOnce_10 ci_0 ?_
    refine r_istore_n (pc := 11) (lv' := [(2, .int 0), (0, .ref (w.1 0)), (1, .int x1)]) g dX12_moveOnce_11 rfl rfl ?_
    refine r_sub [1, 2, 0] (lv' := [(0, .ref (w.1 0)), (1, .int x1), (2, .int 0)]) rfl ?_
    exact v_X12_moveOnce_12 g hX post hR P2 hP2 x1 0 μ h
theorem v_X12_moveOnce_2 {X : Cx} {w : Wd} {l : Launch} {D : va_G} {A : Nat → Prop} (g : Gd X w RX12 cX12_moveOnce 4 rm_X12_moveOnce) (hX : atX X l D A) (post : Int32 → Mem → Prop) (hR : Rt X w shM 22 (some .boolean) (pI post)) (x1 : Int32) (μ : Mem) (h : T_X12_moveOnce_2 post x1 μ) : V X 2 [(0, .ref (w.1 0)), (1, .int x1)] [] (wls w shM 22 μ) :=
  h (fun x1 μ => V X 2 [(0, .ref (w.1 0)), (1, .int x1)] [] (wls w shM 22 μ)) (fun x1 μ h => bv_X12_moveOnce_2 g hX post hR (fun x1 μ => V X 2 [(0, .ref (w.1 0)), (1, .int x1)] [] (wls w shM 22 μ)) (fun _ _ h => h) x1 μ h)
def T_X12_moveOnce (μ : Mem) (post : Int32 → Mem → Prop) : Prop :=
  T_X12_moveOnce_2 post 0 μ
theorem m_X12_moveOnce {w : Wd} {l : Launch} {D : va_G} {A : Nat → Prop} (μ : Mem) (post : Int32 → Mem → Prop) (h : T_X12_moveOnce μ post) : MetX l D A w shM 22 yX12_moveOnce cX12_moveOnce 4 (some .boolean) rm_X12_moveOnce [.ref (w.1 0)] μ (pI post) := by
  refine metX_of (by decide) rfl (lv := [(0, .ref (w.1 0))]) rfl (fun X hX g hR => ?_)
  refine r_iconst (pc := 0) g dX12_moveOnce_0 ci_0 ?_
  refine r_istore_n (pc := 1) (lv' := [(1, .int 0), (0, .ref (w.1 0))]) g dX12_moveOnce_1 rfl rfl ?_
  refine r_sub [1, 0] (lv' := [(0, .ref (w.1 0)), (1, .int 0)]) rfl ?_
  exact v_X12_moveOnce_2 g hX post hR 0 μ h
abbrev rm_X12_move : Room := { frames := 5, cells := 0, slots := 0, locals := 116 }
def B_X12_move_31 (post : Int32 → Mem → Prop) (P31 : Int32 → Mem → Prop) (x2 : Int32) (μ : Mem) : Prop :=
  ((x2 = 0 → T_X12_comes 1 μ (fun (u1 : Int32) (μ2 : Mem) => post u1 μ2)) ∧ (¬ x2 = 0 → T_X12_moveOnce μ (fun (u3 : Int32) (μ4 : Mem) => P31 u3 μ4)))
def T_X12_move_31 (post : Int32 → Mem → Prop) (x2 : Int32) (μ : Mem) : Prop :=
  ∀ P31 : Int32 → Mem → Prop, (∀ (x2 : Int32) (μ : Mem), B_X12_move_31 post P31 x2 μ → P31 x2 μ) → P31 x2 μ
theorem bv_X12_move_31 {X : Cx} {w : Wd} {l : Launch} {D : va_G} {A : Nat → Prop} (g : Gd X w RX12 cX12_move 3 rm_X12_move) (hX : atX X l D A) (post : Int32 → Mem → Prop) (hR : Rt X w shM 22 (some .int) (pI post)) (P31 : Int32 → Mem → Prop) (hP31 : ∀ (x2 : Int32) (μ : Mem), P31 x2 μ → V X 31 [(0, .ref (w.1 0)), (2, .int x2)] [] (wls w shM 22 μ)) (x2 : Int32) (μ : Mem) (h : B_X12_move_31 post P31 x2 μ) : V X 31 [(0, .ref (w.1 0)), (2, .int x2)] [] (wls w shM 22 μ) := by
  refine r_iload_n (pc := 31) 1 g dX12_move_31 rfl ?_
  refine r_if_eq (pc := 32) 43 g dX12_move_32 rfl (fun q => ?_) (fun q => ?_)
  · have h := h.1 q
    refine r_aload_n (pc := 43) 0 g dX12_move_43 rfl ?_
    refine r_iconst (pc := 44) g dX12_move_44 ci_1 ?_
    refine r_callVi (pc := 45) (st := []) g hX dX12_move_45 (m_X12_comes 1 μ _ h) kb_RX12_154 kv_X12_comes shM_out sM_0 rfl rfl rfl rfl (fun u1 μ2 h => ?_)
    exact r_ireti (pc := 48) g hR dX12_move_48 h
  · have h := h.2 q
    refine r_aload_n (pc := 35) 0 g dX12_move_35 rfl ?_
    refine r_callVi (pc := 36) (st := []) g hX dX12_move_36 (m_X12_moveOnce μ _ h) kb_RX12_236 kv_X12_moveOnce shM_out sM_0 rfl rfl rfl rfl (fun u3 μ4 h => ?_)
    refine r_istore_n (pc := 39) (lv' := [(2, .int u3), (0, .ref (w.1 0))]) g dX12_move_39 rfl rfl ?_
    refine r_goto (pc := 40) 31 g dX12_move_40 rfl ?_
    refine r_sub [1, 0] (lv' := [(0, .ref (w.1 0)), (2, .int u3)]) rfl ?_
    exact hP31 u3 μ4 h
theorem v_X12_move_31 {X : Cx} {w : Wd} {l : Launch} {D : va_G} {A : Nat → Prop} (g : Gd X w RX12 cX12_move 3 rm_X12_move) (hX : atX X l D A) (post : Int32 → Mem → Prop) (hR : Rt X w shM 22 (some .int) (pI post)) (x2 : Int32) (μ : Mem) (h : T_X12_move_31 post x2 μ) : V X 31 [(0, .ref (w.1 0)), (2, .int x2)] [] (wls w shM 22 μ) :=
  h (fun x2 μ => V X 31 [(0, .ref (w.1 0)), (2, .int x2)] [] (wls w shM 22 μ)) (fun x2 μ h => bv_X12_move_31 g hX post hR (fun x2 μ => V X 31 [(0, .ref (w.1 0)), (2, .int x2)] [] (wls w shM 22 μ)) (fun _ _ h => h) x2 μ h)
def T_X12_move (x1 : Int32) (μ : Mem) (post : Int32 → Mem → Prop) : Prop :=
  T_X12_isOrder x1 μ (fun (u1 : Int32) (μ2 : Mem) => ((¬ u1 = 0 → T_X12_lookAt x1 μ2 (fun (μ4 : Mem) => T_X12_isLawful 13 μ4 (fun (u5 : Int32) (μ6 : Mem) => ((¬ u5 = 0 → T_X12_move_31 post 1 μ6) ∧ (u5 = 0 → post (-3) μ6))))) ∧ (u1 = 0 → post (-1) μ2)))
theorem m_X12_move {w : Wd} {l : Launch} {D : va_G} {A : Nat → Prop} (x1 : Int32) (μ : Mem) (post : Int32 → Mem → Prop) (h : T_X12_move x1 μ post) : MetX l D A w shM 22 yX12_move cX12_move 3 (some .int) rm_X12_move [.ref (w.1 0), .int x1] μ (pI post) := by
  refine metX_of (by decide) rfl (lv := [(0, .ref (w.1 0)), (1, .int x1)]) rfl (fun X hX g hR => ?_)
  refine r_aload_n (pc := 0) 0 g dX12_move_0 rfl ?_
  refine r_iload_n (pc := 1) 1 g dX12_move_1 rfl ?_
  refine r_callVi (pc := 2) (st := []) g hX dX12_move_2 (m_X12_isOrder x1 μ _ h) kb_RX12_157 kv_X12_isOrder shM_out sM_0 rfl rfl rfl rfl (fun u1 μ2 h => ?_)
  refine r_if_ne (pc := 5) 10 g dX12_move_5 rfl (fun q => ?_) (fun q => ?_)
  · have h := h.1 q
    refine r_aload_n (pc := 10) 0 g dX12_move_10 rfl ?_
    refine r_iload_n (pc := 11) 1 g dX12_move_11 rfl ?_
    refine r_callVv (pc := 12) (st := []) g hX dX12_move_12 (m_X12_lookAt x1 μ2 _ h) kb_RX12_160 kv_X12_lookAt shM_out sM_0 rfl rfl rfl rfl (fun μ4 h => ?_)
    refine r_aload_n (pc := 15) 0 g dX12_move_15 rfl ?_
    refine r_aload_n (pc := 16) 0 g dX12_move_16 rfl ?_
    refine r_getr (pc := 17) (μ := μ4) g dX12_move_17 fa_RX12_46 shM_out sM_0 rfl ?_
    refine r_callVi (pc := 20) (st := []) g hX dX12_move_20 (m_X12_isLawful 13 μ4 _ h) kb_RX12_150 kv_X12_isLawful shM_out sM_0 rfl rfl rfl rfl (fun u5 μ6 h => ?_)
    refine r_if_ne (pc := 23) 29 g dX12_move_23 rfl (fun q => ?_) (fun q => ?_)
    · have h := h.1 q
      refine r_iconst (pc := 29) g dX12_move_29 ci_1 ?_
      refine r_istore_n (pc := 30) (lv' := [(2, .int 1), (0, .ref (w.1 0)), (1, .int x1)]) g dX12_move_30 rfl rfl ?_
      refine r_sub [1, 0] (lv' := [(0, .ref (w.1 0)), (2, .int 1)]) rfl ?_
      exact v_X12_move_31 g hX post hR 1 μ6 h
    · have h := h.2 q
      refine r_bipush (pc := 26) g dX12_move_26 cb_m3 ?_
      exact r_ireti (pc := 28) g hR dX12_move_28 h
  · have h := h.2 q
    refine r_iconst (pc := 8) g dX12_move_8 ci_m1 ?_
    exact r_ireti (pc := 9) g hR dX12_move_9 h
abbrev rm_X12_moves : Room := { frames := 5, cells := 0, slots := 0, locals := 116 }
def B_X12_moves_31 (post : Int32 → Mem → Prop) (P31 : Int32 → Mem → Prop) (x2 : Int32) (μ : Mem) : Prop :=
  T_X12_moveOnce μ (fun (u1 : Int32) (μ2 : Mem) => ((u1 = 0 → post x2 μ2) ∧ (¬ u1 = 0 → P31 (x2 + 1) μ2)))
def T_X12_moves_31 (post : Int32 → Mem → Prop) (x2 : Int32) (μ : Mem) : Prop :=
  ∀ P31 : Int32 → Mem → Prop, (∀ (x2 : Int32) (μ : Mem), B_X12_moves_31 post P31 x2 μ → P31 x2 μ) → P31 x2 μ
theorem bv_X12_moves_31 {X : Cx} {w : Wd} {l : Launch} {D : va_G} {A : Nat → Prop} (g : Gd X w RX12 cX12_moves 3 rm_X12_moves) (hX : atX X l D A) (post : Int32 → Mem → Prop) (hR : Rt X w shM 22 (some .int) (pI post)) (P31 : Int32 → Mem → Prop) (hP31 : ∀ (x2 : Int32) (μ : Mem), P31 x2 μ → V X 31 [(0, .ref (w.1 0)), (2, .int x2)] [] (wls w shM 22 μ)) (x2 : Int32) (μ : Mem) (h : B_X12_moves_31 post P31 x2 μ) : V X 31 [(0, .ref (w.1 0)), (2, .int x2)] [] (wls w shM 22 μ) := by
  refine r_aload_n (pc := 31) 0 g dX12_moves_31 rfl ?_
  refine r_callVi (pc := 32) (st := []) g hX dX12_moves_32 (m_X12_moveOnce μ _ h) kb_RX12_236 kv_X12_moveOnce shM_out sM_0 rfl rfl rfl rfl (fun u1 μ2 h => ?_)
  refine r_if_eq (pc := 35) 44 g dX12_moves_35 rfl (fun q => ?_) (fun q => ?_)
  · have h := h.1 q
    refine r_iload_n (pc := 44) 1 g dX12_moves_44 rfl ?_
    exact r_ireti (pc := 45) g hR dX12_moves_45 h
  · have h := h.2 q
    refine r_iinc (pc := 38) (lv' := [(2, .int (x2 + 1)), (0, .ref (w.1 0))]) 1 g dX12_moves_38 rfl ci_1 rfl rfl ?_
    refine r_goto (pc := 41) 31 g dX12_moves_41 rfl ?_
    refine r_sub [1, 0] (lv' := [(0, .ref (w.1 0)), (2, .int (x2 + 1))]) rfl ?_
    exact hP31 (x2 + 1) μ2 h
theorem v_X12_moves_31 {X : Cx} {w : Wd} {l : Launch} {D : va_G} {A : Nat → Prop} (g : Gd X w RX12 cX12_moves 3 rm_X12_moves) (hX : atX X l D A) (post : Int32 → Mem → Prop) (hR : Rt X w shM 22 (some .int) (pI post)) (x2 : Int32) (μ : Mem) (h : T_X12_moves_31 post x2 μ) : V X 31 [(0, .ref (w.1 0)), (2, .int x2)] [] (wls w shM 22 μ) :=
  h (fun x2 μ => V X 31 [(0, .ref (w.1 0)), (2, .int x2)] [] (wls w shM 22 μ)) (fun x2 μ h => bv_X12_moves_31 g hX post hR (fun x2 μ => V X 31 [(0, .ref (w.1 0)), (2, .int x2)] [] (wls w shM 22 μ)) (fun _ _ h => h) x2 μ h)
def T_X12_moves (x1 : Int32) (μ : Mem) (post : Int32 → Mem → Prop) : Prop :=
  T_X12_isOrder x1 μ (fun (u1 : Int32) (μ2 : Mem) => ((¬ u1 = 0 → T_X12_lookAt x1 μ2 (fun (μ4 : Mem) => T_X12_isLawful 13 μ4 (fun (u5 : Int32) (μ6 : Mem) => ((¬ u5 = 0 → T_X12_moves_31 post 0 μ6) ∧ (u5 = 0 → post (-3) μ6))))) ∧ (u1 = 0 → post (-1) μ2)))
theorem m_X12_moves {w : Wd} {l : Launch} {D : va_G} {A : Nat → Prop} (x1 : Int32) (μ : Mem) (post : Int32 → Mem → Prop) (h : T_X12_moves x1 μ post) : MetX l D A w shM 22 yX12_moves cX12_moves 3 (some .int) rm_X12_moves [.ref (w.1 0), .int x1] μ (pI post) := by
  refine metX_of (by decide) rfl (lv := [(0, .ref (w.1 0)), (1, .int x1)]) rfl (fun X hX g hR => ?_)
  refine r_aload_n (pc := 0) 0 g dX12_moves_0 rfl ?_
  refine r_iload_n (pc := 1) 1 g dX12_moves_1 rfl ?_
  refine r_callVi (pc := 2) (st := []) g hX dX12_moves_2 (m_X12_isOrder x1 μ _ h) kb_RX12_157 kv_X12_isOrder shM_out sM_0 rfl rfl rfl rfl (fun u1 μ2 h => ?_)
  refine r_if_ne (pc := 5) 10 g dX12_moves_5 rfl (fun q => ?_) (fun q => ?_)
  · have h := h.1 q
    refine r_aload_n (pc := 10) 0 g dX12_moves_10 rfl ?_
    refine r_iload_n (pc := 11) 1 g dX12_moves_11 rfl ?_
    refine r_callVv (pc := 12) (st := []) g hX dX12_moves_12 (m_X12_lookAt x1 μ2 _ h) kb_RX12_160 kv_X12_lookAt shM_out sM_0 rfl rfl rfl rfl (fun μ4 h => ?_)
    refine r_aload_n (pc := 15) 0 g dX12_moves_15 rfl ?_
    refine r_aload_n (pc := 16) 0 g dX12_moves_16 rfl ?_
    refine r_getr (pc := 17) (μ := μ4) g dX12_moves_17 fa_RX12_46 shM_out sM_0 rfl ?_
    refine r_callVi (pc := 20) (st := []) g hX dX12_moves_20 (m_X12_isLawful 13 μ4 _ h) kb_RX12_150 kv_X12_isLawful shM_out sM_0 rfl rfl rfl rfl (fun u5 μ6 h => ?_)
    refine r_if_ne (pc := 23) 29 g dX12_moves_23 rfl (fun q => ?_) (fun q => ?_)
    · have h := h.1 q
      refine r_iconst (pc := 29) g dX12_moves_29 ci_0 ?_
      refine r_istore_n (pc := 30) (lv' := [(2, .int 0), (0, .ref (w.1 0)), (1, .int x1)]) g dX12_moves_30 rfl rfl ?_
      refine r_sub [1, 0] (lv' := [(0, .ref (w.1 0)), (2, .int 0)]) rfl ?_
      exact v_X12_moves_31 g hX post hR 0 μ6 h
    · have h := h.2 q
      refine r_bipush (pc := 26) g dX12_moves_26 cb_m3 ?_
      exact r_ireti (pc := 28) g hR dX12_moves_28 h
  · have h := h.2 q
    refine r_iconst (pc := 8) g dX12_moves_8 ci_m1 ?_
    exact r_ireti (pc := 9) g hR dX12_moves_9 h
abbrev rm_X12_betweenAt : Room := { frames := 1, cells := 0, slots := 0, locals := 25 }
def T_X12_betweenAt (x1 : Int32) (μ : Mem) (post : Int32 → Mem → Prop) : Prop :=
  T_X12_openAt 13 x1 μ (fun (u1 : Int32) (μ2 : Mem) => vp_in x1 9 ∧ vp_in (μ2 13 x1.toNatClampNeg) 9 ∧ post (u1 &&& ((μ2 4 (μ2 13 x1.toNatClampNeg).toNatClampNeg) ^^^ (-1))) μ2)
theorem m_X12_betweenAt {w : Wd} {l : Launch} {D : va_G} {A : Nat → Prop} (x1 : Int32) (μ : Mem) (post : Int32 → Mem → Prop) (h : T_X12_betweenAt x1 μ post) : MetX l D A w shM 22 yX12_betweenAt cX12_betweenAt 2 (some .int) rm_X12_betweenAt [.ref (w.1 0), .int x1] μ (pI post) := by
  refine metX_of (by decide) rfl (lv := [(0, .ref (w.1 0)), (1, .int x1)]) rfl (fun X hX g hR => ?_)
  refine r_aload_n (pc := 0) 0 g dX12_betweenAt_0 rfl ?_
  refine r_aload_n (pc := 1) 0 g dX12_betweenAt_1 rfl ?_
  refine r_getr (pc := 2) (μ := μ) g dX12_betweenAt_2 fa_RX12_46 shM_out sM_0 rfl ?_
  refine r_iload_n (pc := 5) 1 g dX12_betweenAt_5 rfl ?_
  refine r_callVi (pc := 6) (st := []) g hX dX12_betweenAt_6 (m_X12_openAt 13 x1 μ _ h) kb_RX12_143 kv_X12_openAt shM_out sM_0 rfl rfl rfl rfl (fun u1 μ2 h => ?_)
  refine r_aload_n (pc := 9) 0 g dX12_betweenAt_9 rfl ?_
  refine r_getr (pc := 10) (μ := μ2) g dX12_betweenAt_10 fa_RX12_19 shM_out sM_0 rfl ?_
  refine r_aload_n (pc := 13) 0 g dX12_betweenAt_13 rfl ?_
  refine r_getr (pc := 14) (μ := μ2) g dX12_betweenAt_14 fa_RX12_46 shM_out sM_0 rfl ?_
  refine r_iload_n (pc := 17) 1 g dX12_betweenAt_17 rfl ?_
  obtain ⟨b3, h⟩ := h
  refine r_iaload (pc := 18) (μ := μ2) g dX12_betweenAt_18 shM_out sM_13 b3 ?_
  obtain ⟨b4, h⟩ := h
  refine r_iaload (pc := 19) (μ := μ2) g dX12_betweenAt_19 shM_out sM_4 b4 ?_
  refine r_iconst (pc := 20) g dX12_betweenAt_20 ci_m1 ?_
  refine r_ixor (pc := 21) g dX12_betweenAt_21 ?_
  refine r_iand (pc := 22) g dX12_betweenAt_22 ?_
  exact r_ireti (pc := 23) g hR dX12_betweenAt_23 h
abbrev rm_X12_priceOf : Room := { frames := 1, cells := 0, slots := 0, locals := 21 }
def T_X12_priceOf_29 (post : Int32 → Mem → Prop) (P4 : Int32 → Int32 → Int32 → Mem → Prop) (x1 : Int32) (x3 : Int32) (s0 : Int32) (s1 : Int32) (μ : Mem) : Prop :=
  P4 x1 (s1 + s0) (x3 + 1) μ
theorem v_X12_priceOf_29 {X : Cx} {w : Wd} {l : Launch} {D : va_G} {A : Nat → Prop} (g : Gd X w RX12 cX12_priceOf 4 rm_X12_priceOf) (hX : atX X l D A) (post : Int32 → Mem → Prop) (hR : Rt X w shM 22 (some .int) (pI post)) (P4 : Int32 → Int32 → Int32 → Mem → Prop) (hP4 : ∀ (x1 : Int32) (x2 : Int32) (x3 : Int32) (μ : Mem), P4 x1 x2 x3 μ → V X 4 [(0, .ref (w.1 0)), (1, .int x1), (2, .int x2), (3, .int x3)] [] (wls w shM 22 μ)) (x1 : Int32) (x3 : Int32) (s0 : Int32) (s1 : Int32) (μ : Mem) (h : T_X12_priceOf_29 post P4 x1 x3 s0 s1 μ) : V X 29 [(0, .ref (w.1 0)), (1, .int x1), (3, .int x3)] [.int s0, .int s1] (wls w shM 22 μ) := by
  refine r_iadd (pc := 29) g dX12_priceOf_29 ?_
  refine r_istore_n (pc := 30) (lv' := [(2, .int (s1 + s0)), (0, .ref (w.1 0)), (1, .int x1), (3, .int x3)]) g dX12_priceOf_30 rfl rfl ?_
  refine r_iinc (pc := 31) (lv' := [(3, .int (x3 + 1)), (2, .int (s1 + s0)), (0, .ref (w.1 0)), (1, .int x1)]) 3 g dX12_priceOf_31 rfl ci_1 rfl rfl ?_
  refine r_goto (pc := 34) 4 g dX12_priceOf_34 rfl ?_
  refine r_sub [2, 3, 1, 0] (lv' := [(0, .ref (w.1 0)), (1, .int x1), (2, .int (s1 + s0)), (3, .int (x3 + 1))]) rfl ?_
  exact hP4 x1 (s1 + s0) (x3 + 1) μ h
def B_X12_priceOf_4 (post : Int32 → Mem → Prop) (P4 : Int32 → Int32 → Int32 → Mem → Prop) (x1 : Int32) (x2 : Int32) (x3 : Int32) (μ : Mem) : Prop :=
  ((10 ≤ x3 → post x2 μ) ∧ (¬ 10 ≤ x3 → T_X12_has x1 x3 μ (fun (u1 : Int32) (μ2 : Mem) => ((u1 = 0 → T_X12_priceOf_29 post P4 x1 x3 0 x2 μ2) ∧ (¬ u1 = 0 → vp_in x3 10 ∧ T_X12_priceOf_29 post P4 x1 x3 (μ2 7 x3.toNatClampNeg) x2 μ2)))))
def T_X12_priceOf_4 (post : Int32 → Mem → Prop) (x1 : Int32) (x2 : Int32) (x3 : Int32) (μ : Mem) : Prop :=
  ∀ P4 : Int32 → Int32 → Int32 → Mem → Prop, (∀ (x1 : Int32) (x2 : Int32) (x3 : Int32) (μ : Mem), B_X12_priceOf_4 post P4 x1 x2 x3 μ → P4 x1 x2 x3 μ) → P4 x1 x2 x3 μ
theorem bv_X12_priceOf_4 {X : Cx} {w : Wd} {l : Launch} {D : va_G} {A : Nat → Prop} (g : Gd X w RX12 cX12_priceOf 4 rm_X12_priceOf) (hX : atX X l D A) (post : Int32 → Mem → Prop) (hR : Rt X w shM 22 (some .int) (pI post)) (P4 : Int32 → Int32 → Int32 → Mem → Prop) (hP4 : ∀ (x1 : Int32) (x2 : Int32) (x3 : Int32) (μ : Mem), P4 x1 x2 x3 μ → V X 4 [(0, .ref (w.1 0)), (1, .int x1), (2, .int x2), (3, .int x3)] [] (wls w shM 22 μ)) (x1 : Int32) (x2 : Int32) (x3 : Int32) (μ : Mem) (h : B_X12_priceOf_4 post P4 x1 x2 x3 μ) : V X 4 [(0, .ref (w.1 0)), (1, .int x1), (2, .int x2), (3, .int x3)] [] (wls w shM 22 μ) := by
  refine r_iload_n (pc := 4) 3 g dX12_priceOf_4 rfl ?_
  refine r_bipush (pc := 5) g dX12_priceOf_5 cb_10 ?_
  refine r_icmp_ge (pc := 7) 37 g dX12_priceOf_7 rfl (fun q => ?_) (fun q => ?_)
  · have h := h.1 q
    refine r_iload_n (pc := 37) 2 g dX12_priceOf_37 rfl ?_
    exact r_ireti (pc := 38) g hR dX12_priceOf_38 h
  · have h := h.2 q
    refine r_iload_n (pc := 10) 2 g dX12_priceOf_10 rfl ?_
    refine r_iload_n (pc := 11) 1 g dX12_priceOf_11 rfl ?_
    refine r_iload_n (pc := 12) 3 g dX12_priceOf_12 rfl ?_
    refine r_callSi (pc := 13) (st := [.int x2]) g hX dX12_priceOf_13 (m_X12_has x1 x3 μ _ h) kb_RX12_96 k_1123 rfl rfl rfl rfl (fun u1 μ2 h => ?_)
    refine r_if_eq (pc := 16) 28 g dX12_priceOf_16 rfl (fun q => ?_) (fun q => ?_)
    · have h := h.1 q
      refine r_iconst (pc := 28) g dX12_priceOf_28 ci_0 ?_
      refine r_sub [0, 1, 3] (lv' := [(0, .ref (w.1 0)), (1, .int x1), (3, .int x3)]) rfl ?_
      exact v_X12_priceOf_29 g hX post hR P4 hP4 x1 x3 0 x2 μ2 h
    · have h := h.2 q
      refine r_aload_n (pc := 19) 0 g dX12_priceOf_19 rfl ?_
      refine r_getr (pc := 20) (μ := μ2) g dX12_priceOf_20 fa_RX12_28 shM_out sM_0 rfl ?_
      refine r_iload_n (pc := 23) 3 g dX12_priceOf_23 rfl ?_
      obtain ⟨b3, h⟩ := h
      refine r_iaload (pc := 24) (μ := μ2) g dX12_priceOf_24 shM_out sM_7 b3 ?_
      refine r_goto (pc := 25) 29 g dX12_priceOf_25 rfl ?_
      refine r_sub [0, 1, 3] (lv' := [(0, .ref (w.1 0)), (1, .int x1), (3, .int x3)]) rfl ?_
      exact v_X12_priceOf_29 g hX post hR P4 hP4 x1 x3 (μ2 7 x3.toNatClampNeg) x2 μ2 h
theorem v_X12_priceOf_4 {X : Cx} {w : Wd} {l : Launch} {D : va_G} {A : Nat → Prop} (g : Gd X w RX12 cX12_priceOf 4 rm_X12_priceOf) (hX : atX X l D A) (post : Int32 → Mem → Prop) (hR : Rt X w shM 22 (some .int) (pI post)) (x1 : Int32) (x2 : Int32) (x3 : Int32) (μ : Mem) (h : T_X12_priceOf_4 post x1 x2 x3 μ) : V X 4 [(0, .ref (w.1 0)), (1, .int x1), (2, .int x2), (3, .int x3)] [] (wls w shM 22 μ) :=
  h (fun x1 x2 x3 μ => V X 4 [(0, .ref (w.1 0)), (1, .int x1), (2, .int x2), (3, .int x3)] [] (wls w shM 22 μ)) (fun x1 x2 x3 μ h => bv_X12_priceOf_4 g hX post hR (fun x1 x2 x3 μ => V X 4 [(0, .ref (w.1 0)), (1, .int x1), (2, .int x2), (3, .int x3)] [] (wls w shM 22 μ)) (fun _ _ _ _ h => h) x1 x2 x3 μ h)
def T_X12_priceOf (x1 : Int32) (μ : Mem) (post : Int32 → Mem → Prop) : Prop :=
  T_X12_priceOf_4 post x1 0 0 μ
theorem m_X12_priceOf {w : Wd} {l : Launch} {D : va_G} {A : Nat → Prop} (x1 : Int32) (μ : Mem) (post : Int32 → Mem → Prop) (h : T_X12_priceOf x1 μ post) : MetX l D A w shM 22 yX12_priceOf cX12_priceOf 4 (some .int) rm_X12_priceOf [.ref (w.1 0), .int x1] μ (pI post) := by
  refine metX_of (by decide) rfl (lv := [(0, .ref (w.1 0)), (1, .int x1)]) rfl (fun X hX g hR => ?_)
  refine r_iconst (pc := 0) g dX12_priceOf_0 ci_0 ?_
  refine r_istore_n (pc := 1) (lv' := [(2, .int 0), (0, .ref (w.1 0)), (1, .int x1)]) g dX12_priceOf_1 rfl rfl ?_
  refine r_iconst (pc := 2) g dX12_priceOf_2 ci_0 ?_
  refine r_istore_n (pc := 3) (lv' := [(3, .int 0), (2, .int 0), (0, .ref (w.1 0)), (1, .int x1)]) g dX12_priceOf_3 rfl rfl ?_
  refine r_sub [2, 3, 1, 0] (lv' := [(0, .ref (w.1 0)), (1, .int x1), (2, .int 0), (3, .int 0)]) rfl ?_
  exact v_X12_priceOf_4 g hX post hR x1 0 0 μ h
abbrev rm_X12_cheapestWith : Room := { frames := 2, cells := 0, slots := 0, locals := 46 }
def T_X12_cheapestWith_24 (post : Int32 → Mem → Prop) (P2 : Int32 → Int32 → Mem → Prop) (x1 : Int32) (x2 : Int32) (s0 : Int32) (s1 : Int32) (μ : Mem) : Prop :=
  vp_in s1 1024 ∧ P2 x1 (x2 + 1) (mset μ 20 s1.toNatClampNeg s0)
theorem v_X12_cheapestWith_24 {X : Cx} {w : Wd} {l : Launch} {D : va_G} {A : Nat → Prop} (g : Gd X w RX12 cX12_cheapestWith 11 rm_X12_cheapestWith) (hX : atX X l D A) (post : Int32 → Mem → Prop) (hR : Rt X w shM 22 (some .int) (pI post)) (P2 : Int32 → Int32 → Mem → Prop) (hP2 : ∀ (x1 : Int32) (x2 : Int32) (μ : Mem), P2 x1 x2 μ → V X 2 [(0, .ref (w.1 0)), (1, .int x1), (2, .int x2)] [] (wls w shM 22 μ)) (x1 : Int32) (x2 : Int32) (s0 : Int32) (s1 : Int32) (μ : Mem) (h : T_X12_cheapestWith_24 post P2 x1 x2 s0 s1 μ) : V X 24 [(0, .ref (w.1 0)), (1, .int x1), (2, .int x2)] [.int s0, .int s1, .ref (w.1 20)] (wls w shM 22 μ) := by
  obtain ⟨b1, h⟩ := h
  refine r_iastore (pc := 24) (μ := μ) g dX12_cheapestWith_24 shM_out sM_20 b1 ?_
  refine r_iinc (pc := 25) (lv' := [(2, .int (x2 + 1)), (0, .ref (w.1 0)), (1, .int x1)]) 2 g dX12_cheapestWith_25 rfl ci_1 rfl rfl ?_
  refine r_goto (pc := 28) 2 g dX12_cheapestWith_28 rfl ?_
  refine r_sub [1, 2, 0] (lv' := [(0, .ref (w.1 0)), (1, .int x1), (2, .int (x2 + 1))]) rfl ?_
  exact hP2 x1 (x2 + 1) (mset μ 20 s1.toNatClampNeg s0) h
def T_X12_cheapestWith_253 (post : Int32 → Mem → Prop) (P35 : Int32 → Int32 → Int32 → Mem → Prop) (P105 : Int32 → Int32 → Int32 → Int32 → Int32 → Int32 → Mem → Prop) (P193 : Int32 → Int32 → Int32 → Int32 → Int32 → Int32 → Int32 → Int32 → Int32 → Mem → Prop) (x1 : Int32) (x2 : Int32) (x3 : Int32) (x4 : Int32) (x5 : Int32) (x6 : Int32) (x8 : Int32) (x9 : Int32) (s0 : Int32) (μ : Mem) : Prop :=
  P193 x1 x2 x3 x4 x5 x6 x8 x9 s0 μ
theorem v_X12_cheapestWith_253 {X : Cx} {w : Wd} {l : Launch} {D : va_G} {A : Nat → Prop} (g : Gd X w RX12 cX12_cheapestWith 11 rm_X12_cheapestWith) (hX : atX X l D A) (post : Int32 → Mem → Prop) (hR : Rt X w shM 22 (some .int) (pI post)) (P35 : Int32 → Int32 → Int32 → Mem → Prop) (hP35 : ∀ (x1 : Int32) (x2 : Int32) (x3 : Int32) (μ : Mem), P35 x1 x2 x3 μ → V X 35 [(0, .ref (w.1 0)), (1, .int x1), (2, .int x2), (3, .int x3)] [] (wls w shM 22 μ)) (P105 : Int32 → Int32 → Int32 → Int32 → Int32 → Int32 → Mem → Prop) (hP105 : ∀ (x1 : Int32) (x2 : Int32) (x3 : Int32) (x4 : Int32) (x5 : Int32) (x6 : Int32) (μ : Mem), P105 x1 x2 x3 x4 x5 x6 μ → V X 105 [(0, .ref (w.1 0)), (1, .int x1), (2, .int x2), (3, .int x3), (4, .int x4), (5, .int x5), (6, .int x6)] [] (wls w shM 22 μ)) (P193 : Int32 → Int32 → Int32 → Int32 → Int32 → Int32 → Int32 → Int32 → Int32 → Mem → Prop) (hP193 : ∀ (x1 : Int32) (x2 : Int32) (x3 : Int32) (x4 : Int32) (x5 : Int32) (x6 : Int32) (x8 : Int32) (x9 : Int32) (x10 : Int32) (μ : Mem), P193 x1 x2 x3 x4 x5 x6 x8 x9 x10 μ → V X 193 [(0, .ref (w.1 0)), (1, .int x1), (2, .int x2), (3, .int x3), (4, .int x4), (5, .int x5), (6, .int x6), (8, .int x8), (9, .int x9), (10, .int x10)] [] (wls w shM 22 μ)) (x1 : Int32) (x2 : Int32) (x3 : Int32) (x4 : Int32) (x5 : Int32) (x6 : Int32) (x8 : Int32) (x9 : Int32) (s0 : Int32) (μ : Mem) (h : T_X12_cheapestWith_253 post P35 P105 P193 x1 x2 x3 x4 x5 x6 x8 x9 s0 μ) : V X 253 [(0, .ref (w.1 0)), (1, .int x1), (2, .int x2), (3, .int x3), (4, .int x4), (5, .int x5), (6, .int x6), (8, .int x8), (9, .int x9)] [.int s0] (wls w shM 22 μ) := by
  refine r_istore (pc := 253) (lv' := [(10, .int s0), (0, .ref (w.1 0)), (1, .int x1), (2, .int x2), (3, .int x3), (4, .int x4), (5, .int x5), (6, .int x6), (8, .int x8), (9, .int x9)]) g dX12_cheapestWith_253 rfl rfl ?_
  refine r_goto (pc := 255) 193 g dX12_cheapestWith_255 rfl ?_
  refine r_sub [1, 2, 3, 4, 5, 6, 7, 8, 9, 0] (lv' := [(0, .ref (w.1 0)), (1, .int x1), (2, .int x2), (3, .int x3), (4, .int x4), (5, .int x5), (6, .int x6), (8, .int x8), (9, .int x9), (10, .int s0)]) rfl ?_
  exact hP193 x1 x2 x3 x4 x5 x6 x8 x9 s0 μ h
def T_X12_cheapestWith_237 (post : Int32 → Mem → Prop) (P35 : Int32 → Int32 → Int32 → Mem → Prop) (P105 : Int32 → Int32 → Int32 → Int32 → Int32 → Int32 → Mem → Prop) (P193 : Int32 → Int32 → Int32 → Int32 → Int32 → Int32 → Int32 → Int32 → Int32 → Mem → Prop) (x1 : Int32) (x2 : Int32) (x3 : Int32) (x4 : Int32) (x5 : Int32) (x6 : Int32) (x8 : Int32) (x9 : Int32) (x10 : Int32) (μ : Mem) : Prop :=
  ((¬ x10 = 0 → T_X12_cheapestWith_253 post P35 P105 P193 x1 x2 x3 x4 x5 x6 x8 x9 ((x10 - 1) &&& x9) μ) ∧ (x10 = 0 → T_X12_cheapestWith_253 post P35 P105 P193 x1 x2 x3 x4 x5 x6 x8 x9 (-1) μ))
theorem v_X12_cheapestWith_237 {X : Cx} {w : Wd} {l : Launch} {D : va_G} {A : Nat → Prop} (g : Gd X w RX12 cX12_cheapestWith 11 rm_X12_cheapestWith) (hX : atX X l D A) (post : Int32 → Mem → Prop) (hR : Rt X w shM 22 (some .int) (pI post)) (P35 : Int32 → Int32 → Int32 → Mem → Prop) (hP35 : ∀ (x1 : Int32) (x2 : Int32) (x3 : Int32) (μ : Mem), P35 x1 x2 x3 μ → V X 35 [(0, .ref (w.1 0)), (1, .int x1), (2, .int x2), (3, .int x3)] [] (wls w shM 22 μ)) (P105 : Int32 → Int32 → Int32 → Int32 → Int32 → Int32 → Mem → Prop) (hP105 : ∀ (x1 : Int32) (x2 : Int32) (x3 : Int32) (x4 : Int32) (x5 : Int32) (x6 : Int32) (μ : Mem), P105 x1 x2 x3 x4 x5 x6 μ → V X 105 [(0, .ref (w.1 0)), (1, .int x1), (2, .int x2), (3, .int x3), (4, .int x4), (5, .int x5), (6, .int x6)] [] (wls w shM 22 μ)) (P193 : Int32 → Int32 → Int32 → Int32 → Int32 → Int32 → Int32 → Int32 → Int32 → Mem → Prop) (hP193 : ∀ (x1 : Int32) (x2 : Int32) (x3 : Int32) (x4 : Int32) (x5 : Int32) (x6 : Int32) (x8 : Int32) (x9 : Int32) (x10 : Int32) (μ : Mem), P193 x1 x2 x3 x4 x5 x6 x8 x9 x10 μ → V X 193 [(0, .ref (w.1 0)), (1, .int x1), (2, .int x2), (3, .int x3), (4, .int x4), (5, .int x5), (6, .int x6), (8, .int x8), (9, .int x9), (10, .int x10)] [] (wls w shM 22 μ)) (x1 : Int32) (x2 : Int32) (x3 : Int32) (x4 : Int32) (x5 : Int32) (x6 : Int32) (x8 : Int32) (x9 : Int32) (x10 : Int32) (μ : Mem) (h : T_X12_cheapestWith_237 post P35 P105 P193 x1 x2 x3 x4 x5 x6 x8 x9 x10 μ) : V X 237 [(0, .ref (w.1 0)), (1, .int x1), (2, .int x2), (3, .int x3), (4, .int x4), (5, .int x5), (6, .int x6), (8, .int x8), (9, .int x9), (10, .int x10)] [] (wls w shM 22 μ) := by
  refine r_iload (pc := 237) 9 g dX12_cheapestWith_237 rfl ?_
  refine r_if_ne (pc := 239) 246 g dX12_cheapestWith_239 rfl (fun q => ?_) (fun q => ?_)
  · have h := h.1 q
    refine r_iload (pc := 246) 9 g dX12_cheapestWith_246 rfl ?_
    refine r_iconst (pc := 248) g dX12_cheapestWith_248 ci_1 ?_
    refine r_isub (pc := 249) g dX12_cheapestWith_249 ?_
    refine r_iload (pc := 250) 8 g dX12_cheapestWith_250 rfl ?_
    refine r_iand (pc := 252) g dX12_cheapestWith_252 ?_
    refine r_sub [0, 1, 2, 3, 4, 5, 6, 7, 8] (lv' := [(0, .ref (w.1 0)), (1, .int x1), (2, .int x2), (3, .int x3), (4, .int x4), (5, .int x5), (6, .int x6), (8, .int x8), (9, .int x9)]) rfl ?_
    exact v_X12_cheapestWith_253 g hX post hR P35 hP35 P105 hP105 P193 hP193 x1 x2 x3 x4 x5 x6 x8 x9 ((x10 - 1) &&& x9) μ h
  · have h := h.2 q
    refine r_iconst (pc := 242) g dX12_cheapestWith_242 ci_m1 ?_
    refine r_goto (pc := 243) 253 g dX12_cheapestWith_243 rfl ?_
    refine r_sub [0, 1, 2, 3, 4, 5, 6, 7, 8] (lv' := [(0, .ref (w.1 0)), (1, .int x1), (2, .int x2), (3, .int x3), (4, .int x4), (5, .int x5), (6, .int x6), (8, .int x8), (9, .int x9)]) rfl ?_
    exact v_X12_cheapestWith_253 g hX post hR P35 hP35 P105 hP105 P193 hP193 x1 x2 x3 x4 x5 x6 x8 x9 (-1) μ h
def B_X12_cheapestWith_193 (post : Int32 → Mem → Prop) (P35 : Int32 → Int32 → Int32 → Mem → Prop) (P105 : Int32 → Int32 → Int32 → Int32 → Int32 → Int32 → Mem → Prop) (P193 : Int32 → Int32 → Int32 → Int32 → Int32 → Int32 → Int32 → Int32 → Int32 → Mem → Prop) (x1 : Int32) (x2 : Int32) (x3 : Int32) (x4 : Int32) (x5 : Int32) (x6 : Int32) (x8 : Int32) (x9 : Int32) (x10 : Int32) (μ : Mem) : Prop :=
  ((x10 < 0 → P105 x1 x2 x3 x4 x5 (x6 + 1) μ) ∧ (¬ x10 < 0 → vp_in x4 9 ∧ T_X12_sizeOf (x10 ||| (μ 4 x4.toNatClampNeg)) μ (fun (u2 : Int32) (μ3 : Mem) => ((x1 < u2 → T_X12_cheapestWith_237 post P35 P105 P193 x1 x2 x3 x4 x5 x6 x8 x9 x10 μ3) ∧ (¬ x1 < u2 → vp_in x10 1024 ∧ (((μ3 21 x10.toNatClampNeg) ≤ x8 → T_X12_cheapestWith_237 post P35 P105 P193 x1 x2 x3 x4 x5 x6 x8 x9 x10 μ3) ∧ (¬ (μ3 21 x10.toNatClampNeg) ≤ x8 → vp_in x10 1024 ∧ T_X12_cheapestWith_237 post P35 P105 P193 x1 x2 x3 x4 x5 x6 x8 x9 x10 (mset μ3 21 x10.toNatClampNeg x8))))))))
def T_X12_cheapestWith_193 (post : Int32 → Mem → Prop) (P35 : Int32 → Int32 → Int32 → Mem → Prop) (P105 : Int32 → Int32 → Int32 → Int32 → Int32 → Int32 → Mem → Prop) (x1 : Int32) (x2 : Int32) (x3 : Int32) (x4 : Int32) (x5 : Int32) (x6 : Int32) (x8 : Int32) (x9 : Int32) (x10 : Int32) (μ : Mem) : Prop :=
  ∀ P193 : Int32 → Int32 → Int32 → Int32 → Int32 → Int32 → Int32 → Int32 → Int32 → Mem → Prop, (∀ (x1 : Int32) (x2 : Int32) (x3 : Int32) (x4 : Int32) (x5 : Int32) (x6 : Int32) (x8 : Int32) (x9 : Int32) (x10 : Int32) (μ : Mem), B_X12_cheapestWith_193 post P35 P105 P193 x1 x2 x3 x4 x5 x6 x8 x9 x10 μ → P193 x1 x2 x3 x4 x5 x6 x8 x9 x10 μ) → P193 x1 x2 x3 x4 x5 x6 x8 x9 x10 μ
theorem bv_X12_cheapestWith_193 {X : Cx} {w : Wd} {l : Launch} {D : va_G} {A : Nat → Prop} (g : Gd X w RX12 cX12_cheapestWith 11 rm_X12_cheapestWith) (hX : atX X l D A) (post : Int32 → Mem → Prop) (hR : Rt X w shM 22 (some .int) (pI post)) (P35 : Int32 → Int32 → Int32 → Mem → Prop) (hP35 : ∀ (x1 : Int32) (x2 : Int32) (x3 : Int32) (μ : Mem), P35 x1 x2 x3 μ → V X 35 [(0, .ref (w.1 0)), (1, .int x1), (2, .int x2), (3, .int x3)] [] (wls w shM 22 μ)) (P105 : Int32 → Int32 → Int32 → Int32 → Int32 → Int32 → Mem → Prop) (hP105 : ∀ (x1 : Int32) (x2 : Int32) (x3 : Int32) (x4 : Int32) (x5 : Int32) (x6 : Int32) (μ : Mem), P105 x1 x2 x3 x4 x5 x6 μ → V X 105 [(0, .ref (w.1 0)), (1, .int x1), (2, .int x2), (3, .int x3), (4, .int x4), (5, .int x5), (6, .int x6)] [] (wls w shM 22 μ)) (P193 : Int32 → Int32 → Int32 → Int32 → Int32 → Int32 → Int32 → Int32 → Int32 → Mem → Prop) (hP193 : ∀ (x1 : Int32) (x2 : Int32) (x3 : Int32) (x4 : Int32) (x5 : Int32) (x6 : Int32) (x8 : Int32) (x9 : Int32) (x10 : Int32) (μ : Mem), P193 x1 x2 x3 x4 x5 x6 x8 x9 x10 μ → V X 193 [(0, .ref (w.1 0)), (1, .int x1), (2, .int x2), (3, .int x3), (4, .int x4), (5, .int x5), (6, .int x6), (8, .int x8), (9, .int x9), (10, .int x10)] [] (wls w shM 22 μ)) (x1 : Int32) (x2 : Int32) (x3 : Int32) (x4 : Int32) (x5 : Int32) (x6 : Int32) (x8 : Int32) (x9 : Int32) (x10 : Int32) (μ : Mem) (h : B_X12_cheapestWith_193 post P35 P105 P193 x1 x2 x3 x4 x5 x6 x8 x9 x10 μ) : V X 193 [(0, .ref (w.1 0)), (1, .int x1), (2, .int x2), (3, .int x3), (4, .int x4), (5, .int x5), (6, .int x6), (8, .int x8), (9, .int x9), (10, .int x10)] [] (wls w shM 22 μ) := by
  refine r_iload (pc := 193) 9 g dX12_cheapestWith_193 rfl ?_
  refine r_if_lt (pc := 195) 258 g dX12_cheapestWith_195 rfl (fun q => ?_) (fun q => ?_)
  · have h := h.1 q
    refine r_iinc (pc := 258) (lv' := [(6, .int (x6 + 1)), (0, .ref (w.1 0)), (1, .int x1), (2, .int x2), (3, .int x3), (4, .int x4), (5, .int x5), (8, .int x8), (9, .int x9), (10, .int x10)]) 6 g dX12_cheapestWith_258 rfl ci_1 rfl rfl ?_
    refine r_goto (pc := 261) 105 g dX12_cheapestWith_261 rfl ?_
    refine r_sub [1, 2, 3, 4, 5, 6, 0] (lv' := [(0, .ref (w.1 0)), (1, .int x1), (2, .int x2), (3, .int x3), (4, .int x4), (5, .int x5), (6, .int (x6 + 1))]) rfl ?_
    exact hP105 x1 x2 x3 x4 x5 (x6 + 1) μ h
  · have h := h.2 q
    refine r_aload_n (pc := 198) 0 g dX12_cheapestWith_198 rfl ?_
    refine r_iload (pc := 199) 9 g dX12_cheapestWith_199 rfl ?_
    refine r_aload_n (pc := 201) 0 g dX12_cheapestWith_201 rfl ?_
    refine r_getr (pc := 202) (μ := μ) g dX12_cheapestWith_202 fa_RX12_19 shM_out sM_0 rfl ?_
    refine r_iload (pc := 205) 4 g dX12_cheapestWith_205 rfl ?_
    obtain ⟨b1, h⟩ := h
    refine r_iaload (pc := 207) (μ := μ) g dX12_cheapestWith_207 shM_out sM_4 b1 ?_
    refine r_ior (pc := 208) g dX12_cheapestWith_208 ?_
    refine r_callVi (pc := 209) (st := []) g hX dX12_cheapestWith_209 (m_X12_sizeOf (x10 ||| (μ 4 x4.toNatClampNeg)) μ _ h) kb_RX12_147 kv_X12_sizeOf shM_out sM_0 rfl rfl rfl rfl (fun u2 μ3 h => ?_)
    refine r_iload_n (pc := 212) 1 g dX12_cheapestWith_212 rfl ?_
    refine r_icmp_gt (pc := 213) 237 g dX12_cheapestWith_213 rfl (fun q => ?_) (fun q => ?_)
    · have h := h.1 q
      refine r_sub [0, 1, 2, 3, 4, 5, 6, 7, 8, 9] (lv' := [(0, .ref (w.1 0)), (1, .int x1), (2, .int x2), (3, .int x3), (4, .int x4), (5, .int x5), (6, .int x6), (8, .int x8), (9, .int x9), (10, .int x10)]) rfl ?_
      exact v_X12_cheapestWith_237 g hX post hR P35 hP35 P105 hP105 P193 hP193 x1 x2 x3 x4 x5 x6 x8 x9 x10 μ3 h
    · have h := h.2 q
      refine r_iload (pc := 216) 7 g dX12_cheapestWith_216 rfl ?_
      refine r_aload_n (pc := 218) 0 g dX12_cheapestWith_218 rfl ?_
      refine r_getr (pc := 219) (μ := μ3) g dX12_cheapestWith_219 fa_RX12_70 shM_out sM_0 rfl ?_
      refine r_iload (pc := 222) 9 g dX12_cheapestWith_222 rfl ?_
      obtain ⟨b4, h⟩ := h
      refine r_iaload (pc := 224) (μ := μ3) g dX12_cheapestWith_224 shM_out sM_21 b4 ?_
      refine r_icmp_ge (pc := 225) 237 g dX12_cheapestWith_225 rfl (fun q => ?_) (fun q => ?_)
      · have h := h.1 q
        refine r_sub [0, 1, 2, 3, 4, 5, 6, 7, 8, 9] (lv' := [(0, .ref (w.1 0)), (1, .int x1), (2, .int x2), (3, .int x3), (4, .int x4), (5, .int x5), (6, .int x6), (8, .int x8), (9, .int x9), (10, .int x10)]) rfl ?_
        exact v_X12_cheapestWith_237 g hX post hR P35 hP35 P105 hP105 P193 hP193 x1 x2 x3 x4 x5 x6 x8 x9 x10 μ3 h
      · have h := h.2 q
        refine r_aload_n (pc := 228) 0 g dX12_cheapestWith_228 rfl ?_
        refine r_getr (pc := 229) (μ := μ3) g dX12_cheapestWith_229 fa_RX12_70 shM_out sM_0 rfl ?_
        refine r_iload (pc := 232) 9 g dX12_cheapestWith_232 rfl ?_
        refine r_iload (pc := 234) 7 g dX12_cheapestWith_234 rfl ?_
        obtain ⟨b5, h⟩ := h
        refine r_iastore (pc := 236) (μ := μ3) g dX12_cheapestWith_236 shM_out sM_21 b5 ?_
        refine r_sub [0, 1, 2, 3, 4, 5, 6, 7, 8, 9] (lv' := [(0, .ref (w.1 0)), (1, .int x1), (2, .int x2), (3, .int x3), (4, .int x4), (5, .int x5), (6, .int x6), (8, .int x8), (9, .int x9), (10, .int x10)]) rfl ?_
        exact v_X12_cheapestWith_237 g hX post hR P35 hP35 P105 hP105 P193 hP193 x1 x2 x3 x4 x5 x6 x8 x9 x10 (mset μ3 21 x10.toNatClampNeg x8) h
theorem v_X12_cheapestWith_193 {X : Cx} {w : Wd} {l : Launch} {D : va_G} {A : Nat → Prop} (g : Gd X w RX12 cX12_cheapestWith 11 rm_X12_cheapestWith) (hX : atX X l D A) (post : Int32 → Mem → Prop) (hR : Rt X w shM 22 (some .int) (pI post)) (P35 : Int32 → Int32 → Int32 → Mem → Prop) (hP35 : ∀ (x1 : Int32) (x2 : Int32) (x3 : Int32) (μ : Mem), P35 x1 x2 x3 μ → V X 35 [(0, .ref (w.1 0)), (1, .int x1), (2, .int x2), (3, .int x3)] [] (wls w shM 22 μ)) (P105 : Int32 → Int32 → Int32 → Int32 → Int32 → Int32 → Mem → Prop) (hP105 : ∀ (x1 : Int32) (x2 : Int32) (x3 : Int32) (x4 : Int32) (x5 : Int32) (x6 : Int32) (μ : Mem), P105 x1 x2 x3 x4 x5 x6 μ → V X 105 [(0, .ref (w.1 0)), (1, .int x1), (2, .int x2), (3, .int x3), (4, .int x4), (5, .int x5), (6, .int x6)] [] (wls w shM 22 μ)) (x1 : Int32) (x2 : Int32) (x3 : Int32) (x4 : Int32) (x5 : Int32) (x6 : Int32) (x8 : Int32) (x9 : Int32) (x10 : Int32) (μ : Mem) (h : T_X12_cheapestWith_193 post P35 P105 x1 x2 x3 x4 x5 x6 x8 x9 x10 μ) : V X 193 [(0, .ref (w.1 0)), (1, .int x1), (2, .int x2), (3, .int x3), (4, .int x4), (5, .int x5), (6, .int x6), (8, .int x8), (9, .int x9), (10, .int x10)] [] (wls w shM 22 μ) :=
  h (fun x1 x2 x3 x4 x5 x6 x8 x9 x10 μ => V X 193 [(0, .ref (w.1 0)), (1, .int x1), (2, .int x2), (3, .int x3), (4, .int x4), (5, .int x5), (6, .int x6), (8, .int x8), (9, .int x9), (10, .int x10)] [] (wls w shM 22 μ)) (fun x1 x2 x3 x4 x5 x6 x8 x9 x10 μ h => bv_X12_cheapestWith_193 g hX post hR P35 hP35 P105 hP105 (fun x1 x2 x3 x4 x5 x6 x8 x9 x10 μ => V X 193 [(0, .ref (w.1 0)), (1, .int x1), (2, .int x2), (3, .int x3), (4, .int x4), (5, .int x5), (6, .int x6), (8, .int x8), (9, .int x9), (10, .int x10)] [] (wls w shM 22 μ)) (fun _ _ _ _ _ _ _ _ _ _ h => h) x1 x2 x3 x4 x5 x6 x8 x9 x10 μ h)
def T_X12_cheapestWith_151 (post : Int32 → Mem → Prop) (P35 : Int32 → Int32 → Int32 → Mem → Prop) (P105 : Int32 → Int32 → Int32 → Int32 → Int32 → Int32 → Mem → Prop) (x1 : Int32) (x2 : Int32) (x3 : Int32) (x4 : Int32) (x5 : Int32) (x6 : Int32) (s0 : Int32) (s1 : Int32) (μ : Mem) : Prop :=
  vp_in x6 1024 ∧ vp_in x4 9 ∧ T_X12_priceOf (((μ 4 x4.toNatClampNeg) &&& x2) &&& ((s1 ||| s0) ^^^ (-1))) μ (fun (u3 : Int32) (μ4 : Mem) => T_X12_cheapestWith_193 post P35 P105 x1 x2 x3 x4 x5 x6 ((μ 20 x6.toNatClampNeg) + u3) ((s1 ||| s0) &&& x5) ((s1 ||| s0) &&& x5) μ4)
theorem v_X12_cheapestWith_151 {X : Cx} {w : Wd} {l : Launch} {D : va_G} {A : Nat → Prop} (g : Gd X w RX12 cX12_cheapestWith 11 rm_X12_cheapestWith) (hX : atX X l D A) (post : Int32 → Mem → Prop) (hR : Rt X w shM 22 (some .int) (pI post)) (P35 : Int32 → Int32 → Int32 → Mem → Prop) (hP35 : ∀ (x1 : Int32) (x2 : Int32) (x3 : Int32) (μ : Mem), P35 x1 x2 x3 μ → V X 35 [(0, .ref (w.1 0)), (1, .int x1), (2, .int x2), (3, .int x3)] [] (wls w shM 22 μ)) (P105 : Int32 → Int32 → Int32 → Int32 → Int32 → Int32 → Mem → Prop) (hP105 : ∀ (x1 : Int32) (x2 : Int32) (x3 : Int32) (x4 : Int32) (x5 : Int32) (x6 : Int32) (μ : Mem), P105 x1 x2 x3 x4 x5 x6 μ → V X 105 [(0, .ref (w.1 0)), (1, .int x1), (2, .int x2), (3, .int x3), (4, .int x4), (5, .int x5), (6, .int x6)] [] (wls w shM 22 μ)) (x1 : Int32) (x2 : Int32) (x3 : Int32) (x4 : Int32) (x5 : Int32) (x6 : Int32) (s0 : Int32) (s1 : Int32) (μ : Mem) (h : T_X12_cheapestWith_151 post P35 P105 x1 x2 x3 x4 x5 x6 s0 s1 μ) : V X 151 [(0, .ref (w.1 0)), (1, .int x1), (2, .int x2), (3, .int x3), (4, .int x4), (5, .int x5), (6, .int x6)] [.int s0, .int s1] (wls w shM 22 μ) := by
  refine r_ior (pc := 151) g dX12_cheapestWith_151 ?_
  refine r_istore (pc := 152) (lv' := [(7, .int (s1 ||| s0)), (0, .ref (w.1 0)), (1, .int x1), (2, .int x2), (3, .int x3), (4, .int x4), (5, .int x5), (6, .int x6)]) g dX12_cheapestWith_152 rfl rfl ?_
  refine r_aload_n (pc := 154) 1 g dX12_cheapestWith_154 rfl ?_
  refine r_getr (pc := 155) (μ := μ) g dX12_cheapestWith_155 fa_RX12_67 shM_out sM_0 rfl ?_
  refine r_iload (pc := 158) 7 g dX12_cheapestWith_158 rfl ?_
  obtain ⟨b1, h⟩ := h
  refine r_iaload (pc := 160) (μ := μ) g dX12_cheapestWith_160 shM_out sM_20 b1 ?_
  refine r_aload_n (pc := 161) 1 g dX12_cheapestWith_161 rfl ?_
  refine r_aload_n (pc := 162) 1 g dX12_cheapestWith_162 rfl ?_
  refine r_getr (pc := 163) (μ := μ) g dX12_cheapestWith_163 fa_RX12_19 shM_out sM_0 rfl ?_
  refine r_iload (pc := 166) 5 g dX12_cheapestWith_166 rfl ?_
  obtain ⟨b2, h⟩ := h
  refine r_iaload (pc := 168) (μ := μ) g dX12_cheapestWith_168 shM_out sM_4 b2 ?_
  refine r_iload_n (pc := 169) 3 g dX12_cheapestWith_169 rfl ?_
  refine r_iand (pc := 170) g dX12_cheapestWith_170 ?_
  refine r_iload (pc := 171) 0 g dX12_cheapestWith_171 rfl ?_
  refine r_iconst (pc := 173) g dX12_cheapestWith_173 ci_m1 ?_
  refine r_ixor (pc := 174) g dX12_cheapestWith_174 ?_
  refine r_iand (pc := 175) g dX12_cheapestWith_175 ?_
  refine r_callVi (pc := 176) (st := [.int (μ 20 x6.toNatClampNeg)]) g hX dX12_cheapestWith_176 (m_X12_priceOf (((μ 4 x4.toNatClampNeg) &&& x2) &&& ((s1 ||| s0) ^^^ (-1))) μ _ h) kb_RX12_242 kv_X12_priceOf shM_out sM_0 rfl rfl rfl rfl (fun u3 μ4 h => ?_)
  refine r_iadd (pc := 179) g dX12_cheapestWith_179 ?_
  refine r_istore (pc := 180) (lv' := [(8, .int ((μ 20 x6.toNatClampNeg) + u3)), (7, .int (s1 ||| s0)), (0, .ref (w.1 0)), (1, .int x1), (2, .int x2), (3, .int x3), (4, .int x4), (5, .int x5), (6, .int x6)]) g dX12_cheapestWith_180 rfl rfl ?_
  refine r_iload (pc := 182) 1 g dX12_cheapestWith_182 rfl ?_
  refine r_iload (pc := 184) 7 g dX12_cheapestWith_184 rfl ?_
  refine r_iand (pc := 186) g dX12_cheapestWith_186 ?_
  refine r_istore (pc := 187) (lv' := [(9, .int ((s1 ||| s0) &&& x5)), (8, .int ((μ 20 x6.toNatClampNeg) + u3)), (7, .int (s1 ||| s0)), (0, .ref (w.1 0)), (1, .int x1), (2, .int x2), (3, .int x3), (4, .int x4), (5, .int x5), (6, .int x6)]) g dX12_cheapestWith_187 rfl rfl ?_
  refine r_iload (pc := 189) 0 g dX12_cheapestWith_189 rfl ?_
  refine r_istore (pc := 191) (lv' := [(10, .int ((s1 ||| s0) &&& x5)), (9, .int ((s1 ||| s0) &&& x5)), (8, .int ((μ 20 x6.toNatClampNeg) + u3)), (7, .int (s1 ||| s0)), (0, .ref (w.1 0)), (1, .int x1), (2, .int x2), (3, .int x3), (4, .int x4), (5, .int x5), (6, .int x6)]) g dX12_cheapestWith_191 rfl rfl ?_
  refine r_sub [4, 5, 6, 7, 8, 9, 10, 2, 1, 0] (lv' := [(0, .ref (w.1 0)), (1, .int x1), (2, .int x2), (3, .int x3), (4, .int x4), (5, .int x5), (6, .int x6), (8, .int ((μ 20 x6.toNatClampNeg) + u3)), (9, .int ((s1 ||| s0) &&& x5)), (10, .int ((s1 ||| s0) &&& x5))]) rfl ?_
  exact v_X12_cheapestWith_193 g hX post hR P35 hP35 P105 hP105 x1 x2 x3 x4 x5 x6 ((μ 20 x6.toNatClampNeg) + u3) ((s1 ||| s0) &&& x5) ((s1 ||| s0) &&& x5) μ4 h
def B_X12_cheapestWith_267 (post : Int32 → Mem → Prop) (P35 : Int32 → Int32 → Int32 → Mem → Prop) (P267 : Int32 → Int32 → Int32 → Int32 → Int32 → Mem → Prop) (x1 : Int32) (x2 : Int32) (x3 : Int32) (x4 : Int32) (x6 : Int32) (μ : Mem) : Prop :=
  ((1024 ≤ x6 → vp_in x4 9 ∧ P35 x1 (x2 ||| (μ 4 x4.toNatClampNeg)) (x3 + 1) μ) ∧ (¬ 1024 ≤ x6 → vp_in x6 1024 ∧ vp_in x6 1024 ∧ P267 x1 x2 x3 x4 (x6 + 1) (mset μ 20 x6.toNatClampNeg (μ 21 x6.toNatClampNeg))))
def T_X12_cheapestWith_267 (post : Int32 → Mem → Prop) (P35 : Int32 → Int32 → Int32 → Mem → Prop) (x1 : Int32) (x2 : Int32) (x3 : Int32) (x4 : Int32) (x6 : Int32) (μ : Mem) : Prop :=
  ∀ P267 : Int32 → Int32 → Int32 → Int32 → Int32 → Mem → Prop, (∀ (x1 : Int32) (x2 : Int32) (x3 : Int32) (x4 : Int32) (x6 : Int32) (μ : Mem), B_X12_cheapestWith_267 post P35 P267 x1 x2 x3 x4 x6 μ → P267 x1 x2 x3 x4 x6 μ) → P267 x1 x2 x3 x4 x6 μ
theorem bv_X12_cheapestWith_267 {X : Cx} {w : Wd} {l : Launch} {D : va_G} {A : Nat → Prop} (g : Gd X w RX12 cX12_cheapestWith 11 rm_X12_cheapestWith) (hX : atX X l D A) (post : Int32 → Mem → Prop) (hR : Rt X w shM 22 (some .int) (pI post)) (P35 : Int32 → Int32 → Int32 → Mem → Prop) (hP35 : ∀ (x1 : Int32) (x2 : Int32) (x3 : Int32) (μ : Mem), P35 x1 x2 x3 μ → V X 35 [(0, .ref (w.1 0)), (1, .int x1), (2, .int x2), (3, .int x3)] [] (wls w shM 22 μ)) (P267 : Int32 → Int32 → Int32 → Int32 → Int32 → Mem → Prop) (hP267 : ∀ (x1 : Int32) (x2 : Int32) (x3 : Int32) (x4 : Int32) (x6 : Int32) (μ : Mem), P267 x1 x2 x3 x4 x6 μ → V X 267 [(0, .ref (w.1 0)), (1, .int x1), (2, .int x2), (3, .int x3), (4, .int x4), (6, .int x6)] [] (wls w shM 22 μ)) (x1 : Int32) (x2 : Int32) (x3 : Int32) (x4 : Int32) (x6 : Int32) (μ : Mem) (h : B_X12_cheapestWith_267 post P35 P267 x1 x2 x3 x4 x6 μ) : V X 267 [(0, .ref (w.1 0)), (1, .int x1), (2, .int x2), (3, .int x3), (4, .int x4), (6, .int x6)] [] (wls w shM 22 μ) := by
  refine r_iload (pc := 267) 5 g dX12_cheapestWith_267 rfl ?_
  refine r_sipush (pc := 269) g dX12_cheapestWith_269 cs_1024 ?_
  refine r_icmp_ge (pc := 272) 295 g dX12_cheapestWith_272 rfl (fun q => ?_) (fun q => ?_)
  · have h := h.1 q
    refine r_iload_n (pc := 295) 2 g dX12_cheapestWith_295 rfl ?_
    refine r_aload_n (pc := 296) 0 g dX12_cheapestWith_296 rfl ?_
    refine r_getr (pc := 297) (μ := μ) g dX12_cheapestWith_297 fa_RX12_19 shM_out sM_0 rfl ?_
    refine r_iload (pc := 300) 4 g dX12_cheapestWith_300 rfl ?_
    obtain ⟨b1, h⟩ := h
    refine r_iaload (pc := 302) (μ := μ) g dX12_cheapestWith_302 shM_out sM_4 b1 ?_
    refine r_ior (pc := 303) g dX12_cheapestWith_303 ?_
    refine r_istore_n (pc := 304) (lv' := [(2, .int (x2 ||| (μ 4 x4.toNatClampNeg))), (0, .ref (w.1 0)), (1, .int x1), (3, .int x3), (4, .int x4), (6, .int x6)]) g dX12_cheapestWith_304 rfl rfl ?_
    refine r_iinc (pc := 305) (lv' := [(3, .int (x3 + 1)), (2, .int (x2 ||| (μ 4 x4.toNatClampNeg))), (0, .ref (w.1 0)), (1, .int x1), (4, .int x4), (6, .int x6)]) 3 g dX12_cheapestWith_305 rfl ci_1 rfl rfl ?_
    refine r_goto (pc := 308) 35 g dX12_cheapestWith_308 rfl ?_
    refine r_sub [2, 3, 1, 0] (lv' := [(0, .ref (w.1 0)), (1, .int x1), (2, .int (x2 ||| (μ 4 x4.toNatClampNeg))), (3, .int (x3 + 1))]) rfl ?_
    exact hP35 x1 (x2 ||| (μ 4 x4.toNatClampNeg)) (x3 + 1) μ h
  · have h := h.2 q
    refine r_aload_n (pc := 275) 0 g dX12_cheapestWith_275 rfl ?_
    refine r_getr (pc := 276) (μ := μ) g dX12_cheapestWith_276 fa_RX12_67 shM_out sM_0 rfl ?_
    refine r_iload (pc := 279) 5 g dX12_cheapestWith_279 rfl ?_
    refine r_aload_n (pc := 281) 0 g dX12_cheapestWith_281 rfl ?_
    refine r_getr (pc := 282) (μ := μ) g dX12_cheapestWith_282 fa_RX12_70 shM_out sM_0 rfl ?_
    refine r_iload (pc := 285) 5 g dX12_cheapestWith_285 rfl ?_
    obtain ⟨b2, h⟩ := h
    refine r_iaload (pc := 287) (μ := μ) g dX12_cheapestWith_287 shM_out sM_21 b2 ?_
    obtain ⟨b3, h⟩ := h
    refine r_iastore (pc := 288) (μ := μ) g dX12_cheapestWith_288 shM_out sM_20 b3 ?_
    refine r_iinc (pc := 289) (lv' := [(6, .int (x6 + 1)), (0, .ref (w.1 0)), (1, .int x1), (2, .int x2), (3, .int x3), (4, .int x4)]) 5 g dX12_cheapestWith_289 rfl ci_1 rfl rfl ?_
    refine r_goto (pc := 292) 267 g dX12_cheapestWith_292 rfl ?_
    refine r_sub [1, 2, 3, 4, 5, 0] (lv' := [(0, .ref (w.1 0)), (1, .int x1), (2, .int x2), (3, .int x3), (4, .int x4), (6, .int (x6 + 1))]) rfl ?_
    exact hP267 x1 x2 x3 x4 (x6 + 1) (mset μ 20 x6.toNatClampNeg (μ 21 x6.toNatClampNeg)) h
theorem v_X12_cheapestWith_267 {X : Cx} {w : Wd} {l : Launch} {D : va_G} {A : Nat → Prop} (g : Gd X w RX12 cX12_cheapestWith 11 rm_X12_cheapestWith) (hX : atX X l D A) (post : Int32 → Mem → Prop) (hR : Rt X w shM 22 (some .int) (pI post)) (P35 : Int32 → Int32 → Int32 → Mem → Prop) (hP35 : ∀ (x1 : Int32) (x2 : Int32) (x3 : Int32) (μ : Mem), P35 x1 x2 x3 μ → V X 35 [(0, .ref (w.1 0)), (1, .int x1), (2, .int x2), (3, .int x3)] [] (wls w shM 22 μ)) (x1 : Int32) (x2 : Int32) (x3 : Int32) (x4 : Int32) (x6 : Int32) (μ : Mem) (h : T_X12_cheapestWith_267 post P35 x1 x2 x3 x4 x6 μ) : V X 267 [(0, .ref (w.1 0)), (1, .int x1), (2, .int x2), (3, .int x3), (4, .int x4), (6, .int x6)] [] (wls w shM 22 μ) :=
  h (fun x1 x2 x3 x4 x6 μ => V X 267 [(0, .ref (w.1 0)), (1, .int x1), (2, .int x2), (3, .int x3), (4, .int x4), (6, .int x6)] [] (wls w shM 22 μ)) (fun x1 x2 x3 x4 x6 μ h => bv_X12_cheapestWith_267 g hX post hR P35 hP35 (fun x1 x2 x3 x4 x6 μ => V X 267 [(0, .ref (w.1 0)), (1, .int x1), (2, .int x2), (3, .int x3), (4, .int x4), (6, .int x6)] [] (wls w shM 22 μ)) (fun _ _ _ _ _ _ h => h) x1 x2 x3 x4 x6 μ h)
def B_X12_cheapestWith_105 (post : Int32 → Mem → Prop) (P35 : Int32 → Int32 → Int32 → Mem → Prop) (P105 : Int32 → Int32 → Int32 → Int32 → Int32 → Int32 → Mem → Prop) (x1 : Int32) (x2 : Int32) (x3 : Int32) (x4 : Int32) (x5 : Int32) (x6 : Int32) (μ : Mem) : Prop :=
  ((1024 ≤ x6 → T_X12_cheapestWith_267 post P35 x1 x2 x3 x4 0 μ) ∧ (¬ 1024 ≤ x6 → vp_in x6 1024 ∧ ((¬ (μ 20 x6.toNatClampNeg) = 1000000 → ((¬ x3 = 0 → vp_in (x3 - 1) 9 ∧ vp_in (μ 13 (x3 - 1).toNatClampNeg) 9 ∧ T_X12_cheapestWith_151 post P35 P105 x1 x2 x3 x4 x5 x6 (μ 4 (μ 13 (x3 - 1).toNatClampNeg).toNatClampNeg) x6 μ) ∧ (x3 = 0 → T_X12_cheapestWith_151 post P35 P105 x1 x2 x3 x4 x5 x6 0 x6 μ))) ∧ ((μ 20 x6.toNatClampNeg) = 1000000 → P105 x1 x2 x3 x4 x5 (x6 + 1) μ))))
def T_X12_cheapestWith_105 (post : Int32 → Mem → Prop) (P35 : Int32 → Int32 → Int32 → Mem → Prop) (x1 : Int32) (x2 : Int32) (x3 : Int32) (x4 : Int32) (x5 : Int32) (x6 : Int32) (μ : Mem) : Prop :=
  ∀ P105 : Int32 → Int32 → Int32 → Int32 → Int32 → Int32 → Mem → Prop, (∀ (x1 : Int32) (x2 : Int32) (x3 : Int32) (x4 : Int32) (x5 : Int32) (x6 : Int32) (μ : Mem), B_X12_cheapestWith_105 post P35 P105 x1 x2 x3 x4 x5 x6 μ → P105 x1 x2 x3 x4 x5 x6 μ) → P105 x1 x2 x3 x4 x5 x6 μ
theorem bv_X12_cheapestWith_105 {X : Cx} {w : Wd} {l : Launch} {D : va_G} {A : Nat → Prop} (g : Gd X w RX12 cX12_cheapestWith 11 rm_X12_cheapestWith) (hX : atX X l D A) (post : Int32 → Mem → Prop) (hR : Rt X w shM 22 (some .int) (pI post)) (P35 : Int32 → Int32 → Int32 → Mem → Prop) (hP35 : ∀ (x1 : Int32) (x2 : Int32) (x3 : Int32) (μ : Mem), P35 x1 x2 x3 μ → V X 35 [(0, .ref (w.1 0)), (1, .int x1), (2, .int x2), (3, .int x3)] [] (wls w shM 22 μ)) (P105 : Int32 → Int32 → Int32 → Int32 → Int32 → Int32 → Mem → Prop) (hP105 : ∀ (x1 : Int32) (x2 : Int32) (x3 : Int32) (x4 : Int32) (x5 : Int32) (x6 : Int32) (μ : Mem), P105 x1 x2 x3 x4 x5 x6 μ → V X 105 [(0, .ref (w.1 0)), (1, .int x1), (2, .int x2), (3, .int x3), (4, .int x4), (5, .int x5), (6, .int x6)] [] (wls w shM 22 μ)) (x1 : Int32) (x2 : Int32) (x3 : Int32) (x4 : Int32) (x5 : Int32) (x6 : Int32) (μ : Mem) (h : B_X12_cheapestWith_105 post P35 P105 x1 x2 x3 x4 x5 x6 μ) : V X 105 [(0, .ref (w.1 0)), (1, .int x1), (2, .int x2), (3, .int x3), (4, .int x4), (5, .int x5), (6, .int x6)] [] (wls w shM 22 μ) := by
  refine r_iload (pc := 105) 6 g dX12_cheapestWith_105 rfl ?_
  refine r_sipush (pc := 107) g dX12_cheapestWith_107 cs_1024 ?_
  refine r_icmp_ge (pc := 110) 264 g dX12_cheapestWith_110 rfl (fun q => ?_) (fun q => ?_)
  · have h := h.1 q
    refine r_iconst (pc := 264) g dX12_cheapestWith_264 ci_0 ?_
    refine r_istore (pc := 265) (lv' := [(6, .int 0), (0, .ref (w.1 0)), (1, .int x1), (2, .int x2), (3, .int x3), (4, .int x4), (5, .int x5)]) g dX12_cheapestWith_265 rfl rfl ?_
    refine r_sub [1, 2, 3, 4, 5, 0] (lv' := [(0, .ref (w.1 0)), (1, .int x1), (2, .int x2), (3, .int x3), (4, .int x4), (6, .int 0)]) rfl ?_
    exact v_X12_cheapestWith_267 g hX post hR P35 hP35 x1 x2 x3 x4 0 μ h
  · have h := h.2 q
    refine r_aload_n (pc := 113) 0 g dX12_cheapestWith_113 rfl ?_
    refine r_getr (pc := 114) (μ := μ) g dX12_cheapestWith_114 fa_RX12_67 shM_out sM_0 rfl ?_
    refine r_iload (pc := 117) 6 g dX12_cheapestWith_117 rfl ?_
    obtain ⟨b1, h⟩ := h
    refine r_iaload (pc := 119) (μ := μ) g dX12_cheapestWith_119 shM_out sM_20 b1 ?_
    refine r_ldc (pc := 120) g dX12_cheapestWith_120 k_1221 ?_
    refine r_icmp_ne (pc := 122) 128 g dX12_cheapestWith_122 rfl (fun q => ?_) (fun q => ?_)
    · have h := h.1 q
      refine r_iload (pc := 128) 6 g dX12_cheapestWith_128 rfl ?_
      refine r_iload_n (pc := 130) 3 g dX12_cheapestWith_130 rfl ?_
      refine r_if_ne (pc := 131) 138 g dX12_cheapestWith_131 rfl (fun q => ?_) (fun q => ?_)
      · have h := h.1 q
        refine r_aload_n (pc := 138) 0 g dX12_cheapestWith_138 rfl ?_
        refine r_getr (pc := 139) (μ := μ) g dX12_cheapestWith_139 fa_RX12_19 shM_out sM_0 rfl ?_
        refine r_aload_n (pc := 142) 0 g dX12_cheapestWith_142 rfl ?_
        refine r_getr (pc := 143) (μ := μ) g dX12_cheapestWith_143 fa_RX12_46 shM_out sM_0 rfl ?_
        refine r_iload_n (pc := 146) 3 g dX12_cheapestWith_146 rfl ?_
        refine r_iconst (pc := 147) g dX12_cheapestWith_147 ci_1 ?_
        refine r_isub (pc := 148) g dX12_cheapestWith_148 ?_
        obtain ⟨b2, h⟩ := h
        refine r_iaload (pc := 149) (μ := μ) g dX12_cheapestWith_149 shM_out sM_13 b2 ?_
        obtain ⟨b3, h⟩ := h
        refine r_iaload (pc := 150) (μ := μ) g dX12_cheapestWith_150 shM_out sM_4 b3 ?_
        refine r_sub [0, 1, 2, 3, 4, 5, 6] (lv' := [(0, .ref (w.1 0)), (1, .int x1), (2, .int x2), (3, .int x3), (4, .int x4), (5, .int x5), (6, .int x6)]) rfl ?_
        exact v_X12_cheapestWith_151 g hX post hR P35 hP35 P105 hP105 x1 x2 x3 x4 x5 x6 (μ 4 (μ 13 (x3 - 1).toNatClampNeg).toNatClampNeg) x6 μ h
      · have h := h.2 q
        refine r_iconst (pc := 134) g dX12_cheapestWith_134 ci_0 ?_
        refine r_goto (pc := 135) 151 g dX12_cheapestWith_135 rfl ?_
        refine r_sub [0, 1, 2, 3, 4, 5, 6] (lv' := [(0, .ref (w.1 0)), (1, .int x1), (2, .int x2), (3, .int x3), (4, .int x4), (5, .int x5), (6, .int x6)]) rfl ?_
        exact v_X12_cheapestWith_151 g hX post hR P35 hP35 P105 hP105 x1 x2 x3 x4 x5 x6 0 x6 μ h
    · have h := h.2 q
      refine r_goto (pc := 125) 258 g dX12_cheapestWith_125 rfl ?_
      refine r_iinc (pc := 258) (lv' := [(6, .int (x6 + 1)), (0, .ref (w.1 0)), (1, .int x1), (2, .int x2), (3, .int x3), (4, .int x4), (5, .int x5)]) 6 g dX12_cheapestWith_258 rfl ci_1 rfl rfl ?_
      refine r_goto (pc := 261) 105 g dX12_cheapestWith_261 rfl ?_
      refine r_sub [1, 2, 3, 4, 5, 6, 0] (lv' := [(0, .ref (w.1 0)), (1, .int x1), (2, .int x2), (3, .int x3), (4, .int x4), (5, .int x5), (6, .int (x6 + 1))]) rfl ?_
      exact hP105 x1 x2 x3 x4 x5 (x6 + 1) μ h
theorem v_X12_cheapestWith_105 {X : Cx} {w : Wd} {l : Launch} {D : va_G} {A : Nat → Prop} (g : Gd X w RX12 cX12_cheapestWith 11 rm_X12_cheapestWith) (hX : atX X l D A) (post : Int32 → Mem → Prop) (hR : Rt X w shM 22 (some .int) (pI post)) (P35 : Int32 → Int32 → Int32 → Mem → Prop) (hP35 : ∀ (x1 : Int32) (x2 : Int32) (x3 : Int32) (μ : Mem), P35 x1 x2 x3 μ → V X 35 [(0, .ref (w.1 0)), (1, .int x1), (2, .int x2), (3, .int x3)] [] (wls w shM 22 μ)) (x1 : Int32) (x2 : Int32) (x3 : Int32) (x4 : Int32) (x5 : Int32) (x6 : Int32) (μ : Mem) (h : T_X12_cheapestWith_105 post P35 x1 x2 x3 x4 x5 x6 μ) : V X 105 [(0, .ref (w.1 0)), (1, .int x1), (2, .int x2), (3, .int x3), (4, .int x4), (5, .int x5), (6, .int x6)] [] (wls w shM 22 μ) :=
  h (fun x1 x2 x3 x4 x5 x6 μ => V X 105 [(0, .ref (w.1 0)), (1, .int x1), (2, .int x2), (3, .int x3), (4, .int x4), (5, .int x5), (6, .int x6)] [] (wls w shM 22 μ)) (fun x1 x2 x3 x4 x5 x6 μ h => bv_X12_cheapestWith_105 g hX post hR P35 hP35 (fun x1 x2 x3 x4 x5 x6 μ => V X 105 [(0, .ref (w.1 0)), (1, .int x1), (2, .int x2), (3, .int x3), (4, .int x4), (5, .int x5), (6, .int x6)] [] (wls w shM 22 μ)) (fun _ _ _ _ _ _ _ h => h) x1 x2 x3 x4 x5 x6 μ h)
def B_X12_cheapestWith_79 (post : Int32 → Mem → Prop) (P35 : Int32 → Int32 → Int32 → Mem → Prop) (P79 : Int32 → Int32 → Int32 → Int32 → Int32 → Int32 → Mem → Prop) (x1 : Int32) (x2 : Int32) (x3 : Int32) (x4 : Int32) (x5 : Int32) (x6 : Int32) (μ : Mem) : Prop :=
  ((1024 ≤ x6 → T_X12_cheapestWith_105 post P35 x1 x2 x3 x4 x5 0 μ) ∧ (¬ 1024 ≤ x6 → vp_in x6 1024 ∧ P79 x1 x2 x3 x4 x5 (x6 + 1) (mset μ 21 x6.toNatClampNeg 1000000)))
def T_X12_cheapestWith_79 (post : Int32 → Mem → Prop) (P35 : Int32 → Int32 → Int32 → Mem → Prop) (x1 : Int32) (x2 : Int32) (x3 : Int32) (x4 : Int32) (x5 : Int32) (x6 : Int32) (μ : Mem) : Prop :=
  ∀ P79 : Int32 → Int32 → Int32 → Int32 → Int32 → Int32 → Mem → Prop, (∀ (x1 : Int32) (x2 : Int32) (x3 : Int32) (x4 : Int32) (x5 : Int32) (x6 : Int32) (μ : Mem), B_X12_cheapestWith_79 post P35 P79 x1 x2 x3 x4 x5 x6 μ → P79 x1 x2 x3 x4 x5 x6 μ) → P79 x1 x2 x3 x4 x5 x6 μ
theorem bv_X12_cheapestWith_79 {X : Cx} {w : Wd} {l : Launch} {D : va_G} {A : Nat → Prop} (g : Gd X w RX12 cX12_cheapestWith 11 rm_X12_cheapestWith) (hX : atX X l D A) (post : Int32 → Mem → Prop) (hR : Rt X w shM 22 (some .int) (pI post)) (P35 : Int32 → Int32 → Int32 → Mem → Prop) (hP35 : ∀ (x1 : Int32) (x2 : Int32) (x3 : Int32) (μ : Mem), P35 x1 x2 x3 μ → V X 35 [(0, .ref (w.1 0)), (1, .int x1), (2, .int x2), (3, .int x3)] [] (wls w shM 22 μ)) (P79 : Int32 → Int32 → Int32 → Int32 → Int32 → Int32 → Mem → Prop) (hP79 : ∀ (x1 : Int32) (x2 : Int32) (x3 : Int32) (x4 : Int32) (x5 : Int32) (x6 : Int32) (μ : Mem), P79 x1 x2 x3 x4 x5 x6 μ → V X 79 [(0, .ref (w.1 0)), (1, .int x1), (2, .int x2), (3, .int x3), (4, .int x4), (5, .int x5), (6, .int x6)] [] (wls w shM 22 μ)) (x1 : Int32) (x2 : Int32) (x3 : Int32) (x4 : Int32) (x5 : Int32) (x6 : Int32) (μ : Mem) (h : B_X12_cheapestWith_79 post P35 P79 x1 x2 x3 x4 x5 x6 μ) : V X 79 [(0, .ref (w.1 0)), (1, .int x1), (2, .int x2), (3, .int x3), (4, .int x4), (5, .int x5), (6, .int x6)] [] (wls w shM 22 μ) := by
  refine r_iload (pc := 79) 6 g dX12_cheapestWith_79 rfl ?_
  refine r_sipush (pc := 81) g dX12_cheapestWith_81 cs_1024 ?_
  refine r_icmp_ge (pc := 84) 102 g dX12_cheapestWith_84 rfl (fun q => ?_) (fun q => ?_)
  · have h := h.1 q
    refine r_iconst (pc := 102) g dX12_cheapestWith_102 ci_0 ?_
    refine r_istore (pc := 103) (lv' := [(6, .int 0), (0, .ref (w.1 0)), (1, .int x1), (2, .int x2), (3, .int x3), (4, .int x4), (5, .int x5)]) g dX12_cheapestWith_103 rfl rfl ?_
    refine r_sub [1, 2, 3, 4, 5, 6, 0] (lv' := [(0, .ref (w.1 0)), (1, .int x1), (2, .int x2), (3, .int x3), (4, .int x4), (5, .int x5), (6, .int 0)]) rfl ?_
    exact v_X12_cheapestWith_105 g hX post hR P35 hP35 x1 x2 x3 x4 x5 0 μ h
  · have h := h.2 q
    refine r_aload_n (pc := 87) 0 g dX12_cheapestWith_87 rfl ?_
    refine r_getr (pc := 88) (μ := μ) g dX12_cheapestWith_88 fa_RX12_70 shM_out sM_0 rfl ?_
    refine r_iload (pc := 91) 6 g dX12_cheapestWith_91 rfl ?_
    refine r_ldc (pc := 93) g dX12_cheapestWith_93 k_1221 ?_
    obtain ⟨b1, h⟩ := h
    refine r_iastore (pc := 95) (μ := μ) g dX12_cheapestWith_95 shM_out sM_21 b1 ?_
    refine r_iinc (pc := 96) (lv' := [(6, .int (x6 + 1)), (0, .ref (w.1 0)), (1, .int x1), (2, .int x2), (3, .int x3), (4, .int x4), (5, .int x5)]) 6 g dX12_cheapestWith_96 rfl ci_1 rfl rfl ?_
    refine r_goto (pc := 99) 79 g dX12_cheapestWith_99 rfl ?_
    refine r_sub [1, 2, 3, 4, 5, 6, 0] (lv' := [(0, .ref (w.1 0)), (1, .int x1), (2, .int x2), (3, .int x3), (4, .int x4), (5, .int x5), (6, .int (x6 + 1))]) rfl ?_
    exact hP79 x1 x2 x3 x4 x5 (x6 + 1) (mset μ 21 x6.toNatClampNeg 1000000) h
theorem v_X12_cheapestWith_79 {X : Cx} {w : Wd} {l : Launch} {D : va_G} {A : Nat → Prop} (g : Gd X w RX12 cX12_cheapestWith 11 rm_X12_cheapestWith) (hX : atX X l D A) (post : Int32 → Mem → Prop) (hR : Rt X w shM 22 (some .int) (pI post)) (P35 : Int32 → Int32 → Int32 → Mem → Prop) (hP35 : ∀ (x1 : Int32) (x2 : Int32) (x3 : Int32) (μ : Mem), P35 x1 x2 x3 μ → V X 35 [(0, .ref (w.1 0)), (1, .int x1), (2, .int x2), (3, .int x3)] [] (wls w shM 22 μ)) (x1 : Int32) (x2 : Int32) (x3 : Int32) (x4 : Int32) (x5 : Int32) (x6 : Int32) (μ : Mem) (h : T_X12_cheapestWith_79 post P35 x1 x2 x3 x4 x5 x6 μ) : V X 79 [(0, .ref (w.1 0)), (1, .int x1), (2, .int x2), (3, .int x3), (4, .int x4), (5, .int x5), (6, .int x6)] [] (wls w shM 22 μ) :=
  h (fun x1 x2 x3 x4 x5 x6 μ => V X 79 [(0, .ref (w.1 0)), (1, .int x1), (2, .int x2), (3, .int x3), (4, .int x4), (5, .int x5), (6, .int x6)] [] (wls w shM 22 μ)) (fun x1 x2 x3 x4 x5 x6 μ h => bv_X12_cheapestWith_79 g hX post hR P35 hP35 (fun x1 x2 x3 x4 x5 x6 μ => V X 79 [(0, .ref (w.1 0)), (1, .int x1), (2, .int x2), (3, .int x3), (4, .int x4), (5, .int x5), (6, .int x6)] [] (wls w shM 22 μ)) (fun _ _ _ _ _ _ _ h => h) x1 x2 x3 x4 x5 x6 μ h)
def T_X12_cheapestWith_347 (post : Int32 → Mem → Prop) (P317 : Int32 → Int32 → Mem → Prop) (x4 : Int32) (s0 : Int32) (μ : Mem) : Prop :=
  P317 s0 (x4 + 1) μ
theorem v_X12_cheapestWith_347 {X : Cx} {w : Wd} {l : Launch} {D : va_G} {A : Nat → Prop} (g : Gd X w RX12 cX12_cheapestWith 11 rm_X12_cheapestWith) (hX : atX X l D A) (post : Int32 → Mem → Prop) (hR : Rt X w shM 22 (some .int) (pI post)) (P317 : Int32 → Int32 → Mem → Prop) (hP317 : ∀ (x3 : Int32) (x4 : Int32) (μ : Mem), P317 x3 x4 μ → V X 317 [(0, .ref (w.1 0)), (3, .int x3), (4, .int x4)] [] (wls w shM 22 μ)) (x4 : Int32) (s0 : Int32) (μ : Mem) (h : T_X12_cheapestWith_347 post P317 x4 s0 μ) : V X 347 [(0, .ref (w.1 0)), (4, .int x4)] [.int s0] (wls w shM 22 μ) := by
  refine r_istore_n (pc := 347) (lv' := [(3, .int s0), (0, .ref (w.1 0)), (4, .int x4)]) g dX12_cheapestWith_347 rfl rfl ?_
  refine r_iinc (pc := 348) (lv' := [(4, .int (x4 + 1)), (3, .int s0), (0, .ref (w.1 0))]) 2 g dX12_cheapestWith_348 rfl ci_1 rfl rfl ?_
  refine r_goto (pc := 351) 317 g dX12_cheapestWith_351 rfl ?_
  refine r_sub [2, 1, 0] (lv' := [(0, .ref (w.1 0)), (3, .int s0), (4, .int (x4 + 1))]) rfl ?_
  exact hP317 s0 (x4 + 1) μ h
def B_X12_cheapestWith_317 (post : Int32 → Mem → Prop) (P317 : Int32 → Int32 → Mem → Prop) (x3 : Int32) (x4 : Int32) (μ : Mem) : Prop :=
  ((1024 ≤ x4 → post x3 μ) ∧ (¬ 1024 ≤ x4 → vp_in x4 1024 ∧ ((x3 ≤ (μ 20 x4.toNatClampNeg) → T_X12_cheapestWith_347 post P317 x4 x3 μ) ∧ (¬ x3 ≤ (μ 20 x4.toNatClampNeg) → vp_in x4 1024 ∧ T_X12_cheapestWith_347 post P317 x4 (μ 20 x4.toNatClampNeg) μ))))
def T_X12_cheapestWith_317 (post : Int32 → Mem → Prop) (x3 : Int32) (x4 : Int32) (μ : Mem) : Prop :=
  ∀ P317 : Int32 → Int32 → Mem → Prop, (∀ (x3 : Int32) (x4 : Int32) (μ : Mem), B_X12_cheapestWith_317 post P317 x3 x4 μ → P317 x3 x4 μ) → P317 x3 x4 μ
theorem bv_X12_cheapestWith_317 {X : Cx} {w : Wd} {l : Launch} {D : va_G} {A : Nat → Prop} (g : Gd X w RX12 cX12_cheapestWith 11 rm_X12_cheapestWith) (hX : atX X l D A) (post : Int32 → Mem → Prop) (hR : Rt X w shM 22 (some .int) (pI post)) (P317 : Int32 → Int32 → Mem → Prop) (hP317 : ∀ (x3 : Int32) (x4 : Int32) (μ : Mem), P317 x3 x4 μ → V X 317 [(0, .ref (w.1 0)), (3, .int x3), (4, .int x4)] [] (wls w shM 22 μ)) (x3 : Int32) (x4 : Int32) (μ : Mem) (h : B_X12_cheapestWith_317 post P317 x3 x4 μ) : V X 317 [(0, .ref (w.1 0)), (3, .int x3), (4, .int x4)] [] (wls w shM 22 μ) := by
  refine r_iload (pc := 317) 2 g dX12_cheapestWith_317 rfl ?_
  refine r_sipush (pc := 319) g dX12_cheapestWith_319 cs_1024 ?_
  refine r_icmp_ge (pc := 322) 354 g dX12_cheapestWith_322 rfl (fun q => ?_) (fun q => ?_)
  · have h := h.1 q
    refine r_iload_n (pc := 354) 1 g dX12_cheapestWith_354 rfl ?_
    exact r_ireti (pc := 355) g hR dX12_cheapestWith_355 h
  · have h := h.2 q
    refine r_aload_n (pc := 325) 0 g dX12_cheapestWith_325 rfl ?_
    refine r_getr (pc := 326) (μ := μ) g dX12_cheapestWith_326 fa_RX12_67 shM_out sM_0 rfl ?_
    refine r_iload (pc := 329) 2 g dX12_cheapestWith_329 rfl ?_
    obtain ⟨b1, h⟩ := h
    refine r_iaload (pc := 331) (μ := μ) g dX12_cheapestWith_331 shM_out sM_20 b1 ?_
    refine r_iload_n (pc := 332) 1 g dX12_cheapestWith_332 rfl ?_
    refine r_icmp_ge (pc := 333) 346 g dX12_cheapestWith_333 rfl (fun q => ?_) (fun q => ?_)
    · have h := h.1 q
      refine r_iload_n (pc := 346) 1 g dX12_cheapestWith_346 rfl ?_
      refine r_sub [0, 2] (lv' := [(0, .ref (w.1 0)), (4, .int x4)]) rfl ?_
      exact v_X12_cheapestWith_347 g hX post hR P317 hP317 x4 x3 μ h
    · have h := h.2 q
      refine r_aload_n (pc := 336) 0 g dX12_cheapestWith_336 rfl ?_
      refine r_getr (pc := 337) (μ := μ) g dX12_cheapestWith_337 fa_RX12_67 shM_out sM_0 rfl ?_
      refine r_iload (pc := 340) 2 g dX12_cheapestWith_340 rfl ?_
      obtain ⟨b2, h⟩ := h
      refine r_iaload (pc := 342) (μ := μ) g dX12_cheapestWith_342 shM_out sM_20 b2 ?_
      refine r_goto (pc := 343) 347 g dX12_cheapestWith_343 rfl ?_
      refine r_sub [0, 2] (lv' := [(0, .ref (w.1 0)), (4, .int x4)]) rfl ?_
      exact v_X12_cheapestWith_347 g hX post hR P317 hP317 x4 (μ 20 x4.toNatClampNeg) μ h
theorem v_X12_cheapestWith_317 {X : Cx} {w : Wd} {l : Launch} {D : va_G} {A : Nat → Prop} (g : Gd X w RX12 cX12_cheapestWith 11 rm_X12_cheapestWith) (hX : atX X l D A) (post : Int32 → Mem → Prop) (hR : Rt X w shM 22 (some .int) (pI post)) (x3 : Int32) (x4 : Int32) (μ : Mem) (h : T_X12_cheapestWith_317 post x3 x4 μ) : V X 317 [(0, .ref (w.1 0)), (3, .int x3), (4, .int x4)] [] (wls w shM 22 μ) :=
  h (fun x3 x4 μ => V X 317 [(0, .ref (w.1 0)), (3, .int x3), (4, .int x4)] [] (wls w shM 22 μ)) (fun x3 x4 μ h => bv_X12_cheapestWith_317 g hX post hR (fun x3 x4 μ => V X 317 [(0, .ref (w.1 0)), (3, .int x3), (4, .int x4)] [] (wls w shM 22 μ)) (fun _ _ _ h => h) x3 x4 μ h)
def B_X12_cheapestWith_35 (post : Int32 → Mem → Prop) (P35 : Int32 → Int32 → Int32 → Mem → Prop) (x1 : Int32) (x2 : Int32) (x3 : Int32) (μ : Mem) : Prop :=
  (((μ 0 5) ≤ x3 → T_X12_cheapestWith_317 post 1000000 0 μ) ∧ (¬ (μ 0 5) ≤ x3 → vp_in x3 9 ∧ vp_in (μ 13 x3.toNatClampNeg) 9 ∧ T_X12_sizeOf (μ 4 (μ 13 x3.toNatClampNeg).toNatClampNeg) μ (fun (u3 : Int32) (μ4 : Mem) => ((u3 ≤ x1 → T_X12_betweenAt x3 μ4 (fun (u5 : Int32) (μ6 : Mem) => T_X12_cheapestWith_79 post P35 x1 x2 x3 (μ 13 x3.toNatClampNeg) u5 0 μ6)) ∧ (¬ u3 ≤ x1 → post (-9) μ4)))))
def T_X12_cheapestWith_35 (post : Int32 → Mem → Prop) (x1 : Int32) (x2 : Int32) (x3 : Int32) (μ : Mem) : Prop :=
  ∀ P35 : Int32 → Int32 → Int32 → Mem → Prop, (∀ (x1 : Int32) (x2 : Int32) (x3 : Int32) (μ : Mem), B_X12_cheapestWith_35 post P35 x1 x2 x3 μ → P35 x1 x2 x3 μ) → P35 x1 x2 x3 μ
theorem bv_X12_cheapestWith_35 {X : Cx} {w : Wd} {l : Launch} {D : va_G} {A : Nat → Prop} (g : Gd X w RX12 cX12_cheapestWith 11 rm_X12_cheapestWith) (hX : atX X l D A) (post : Int32 → Mem → Prop) (hR : Rt X w shM 22 (some .int) (pI post)) (P35 : Int32 → Int32 → Int32 → Mem → Prop) (hP35 : ∀ (x1 : Int32) (x2 : Int32) (x3 : Int32) (μ : Mem), P35 x1 x2 x3 μ → V X 35 [(0, .ref (w.1 0)), (1, .int x1), (2, .int x2), (3, .int x3)] [] (wls w shM 22 μ)) (x1 : Int32) (x2 : Int32) (x3 : Int32) (μ : Mem) (h : B_X12_cheapestWith_35 post P35 x1 x2 x3 μ) : V X 35 [(0, .ref (w.1 0)), (1, .int x1), (2, .int x2), (3, .int x3)] [] (wls w shM 22 μ) := by
  refine r_iload_n (pc := 35) 3 g dX12_cheapestWith_35 rfl ?_
  refine r_aload_n (pc := 36) 0 g dX12_cheapestWith_36 rfl ?_
  refine r_geti (pc := 37) (μ := μ) g dX12_cheapestWith_37 fa_RX12_83 shM_out sM_0 rfl ?_
  refine r_icmp_ge (pc := 40) 311 g dX12_cheapestWith_40 rfl (fun q => ?_) (fun q => ?_)
  · have h := h.1 q
    refine r_ldc (pc := 311) g dX12_cheapestWith_311 k_1221 ?_
    refine r_istore_n (pc := 313) (lv' := [(3, .int 1000000), (0, .ref (w.1 0)), (1, .int x1), (2, .int x2)]) g dX12_cheapestWith_313 rfl rfl ?_
    refine r_iconst (pc := 314) g dX12_cheapestWith_314 ci_0 ?_
    refine r_istore (pc := 315) (lv' := [(4, .int 0), (3, .int 1000000), (0, .ref (w.1 0)), (1, .int x1), (2, .int x2)]) g dX12_cheapestWith_315 rfl rfl ?_
    refine r_sub [2, 1, 0] (lv' := [(0, .ref (w.1 0)), (3, .int 1000000), (4, .int 0)]) rfl ?_
    exact v_X12_cheapestWith_317 g hX post hR 1000000 0 μ h
  · have h := h.2 q
    refine r_aload_n (pc := 43) 0 g dX12_cheapestWith_43 rfl ?_
    refine r_getr (pc := 44) (μ := μ) g dX12_cheapestWith_44 fa_RX12_46 shM_out sM_0 rfl ?_
    refine r_iload_n (pc := 47) 3 g dX12_cheapestWith_47 rfl ?_
    obtain ⟨b1, h⟩ := h
    refine r_iaload (pc := 48) (μ := μ) g dX12_cheapestWith_48 shM_out sM_13 b1 ?_
    refine r_istore (pc := 49) (lv' := [(4, .int (μ 13 x3.toNatClampNeg)), (0, .ref (w.1 0)), (1, .int x1), (2, .int x2), (3, .int x3)]) g dX12_cheapestWith_49 rfl rfl ?_
    refine r_aload_n (pc := 51) 1 g dX12_cheapestWith_51 rfl ?_
    refine r_aload_n (pc := 52) 1 g dX12_cheapestWith_52 rfl ?_
    refine r_getr (pc := 53) (μ := μ) g dX12_cheapestWith_53 fa_RX12_19 shM_out sM_0 rfl ?_
    refine r_iload (pc := 56) 0 g dX12_cheapestWith_56 rfl ?_
    obtain ⟨b2, h⟩ := h
    refine r_iaload (pc := 58) (μ := μ) g dX12_cheapestWith_58 shM_out sM_4 b2 ?_
    refine r_callVi (pc := 59) (st := []) g hX dX12_cheapestWith_59 (m_X12_sizeOf (μ 4 (μ 13 x3.toNatClampNeg).toNatClampNeg) μ _ h) kb_RX12_147 kv_X12_sizeOf shM_out sM_0 rfl rfl rfl rfl (fun u3 μ4 h => ?_)
    refine r_iload_n (pc := 62) 2 g dX12_cheapestWith_62 rfl ?_
    refine r_icmp_le (pc := 63) 69 g dX12_cheapestWith_63 rfl (fun q => ?_) (fun q => ?_)
    · have h := h.1 q
      refine r_aload_n (pc := 69) 1 g dX12_cheapestWith_69 rfl ?_
      refine r_iload_n (pc := 70) 4 g dX12_cheapestWith_70 rfl ?_
      refine r_callVi (pc := 71) (st := []) g hX dX12_cheapestWith_71 (m_X12_betweenAt x3 μ4 _ h) kb_RX12_239 kv_X12_betweenAt shM_out sM_0 rfl rfl rfl rfl (fun u5 μ6 h => ?_)
      refine r_istore (pc := 74) (lv' := [(5, .int u5), (4, .int (μ 13 x3.toNatClampNeg)), (0, .ref (w.1 0)), (1, .int x1), (2, .int x2), (3, .int x3)]) g dX12_cheapestWith_74 rfl rfl ?_
      refine r_iconst (pc := 76) g dX12_cheapestWith_76 ci_0 ?_
      refine r_istore (pc := 77) (lv' := [(6, .int 0), (5, .int u5), (4, .int (μ 13 x3.toNatClampNeg)), (0, .ref (w.1 0)), (1, .int x1), (2, .int x2), (3, .int x3)]) g dX12_cheapestWith_77 rfl rfl ?_
      refine r_sub [3, 4, 5, 6, 2, 1, 0] (lv' := [(0, .ref (w.1 0)), (1, .int x1), (2, .int x2), (3, .int x3), (4, .int (μ 13 x3.toNatClampNeg)), (5, .int u5), (6, .int 0)]) rfl ?_
      exact v_X12_cheapestWith_79 g hX post hR P35 hP35 x1 x2 x3 (μ 13 x3.toNatClampNeg) u5 0 μ6 h
    · have h := h.2 q
      refine r_bipush (pc := 66) g dX12_cheapestWith_66 cb_m9 ?_
      exact r_ireti (pc := 68) g hR dX12_cheapestWith_68 h
theorem v_X12_cheapestWith_35 {X : Cx} {w : Wd} {l : Launch} {D : va_G} {A : Nat → Prop} (g : Gd X w RX12 cX12_cheapestWith 11 rm_X12_cheapestWith) (hX : atX X l D A) (post : Int32 → Mem → Prop) (hR : Rt X w shM 22 (some .int) (pI post)) (x1 : Int32) (x2 : Int32) (x3 : Int32) (μ : Mem) (h : T_X12_cheapestWith_35 post x1 x2 x3 μ) : V X 35 [(0, .ref (w.1 0)), (1, .int x1), (2, .int x2), (3, .int x3)] [] (wls w shM 22 μ) :=
  h (fun x1 x2 x3 μ => V X 35 [(0, .ref (w.1 0)), (1, .int x1), (2, .int x2), (3, .int x3)] [] (wls w shM 22 μ)) (fun x1 x2 x3 μ h => bv_X12_cheapestWith_35 g hX post hR (fun x1 x2 x3 μ => V X 35 [(0, .ref (w.1 0)), (1, .int x1), (2, .int x2), (3, .int x3)] [] (wls w shM 22 μ)) (fun _ _ _ _ h => h) x1 x2 x3 μ h)
def B_X12_cheapestWith_2 (post : Int32 → Mem → Prop) (P2 : Int32 → Int32 → Mem → Prop) (x1 : Int32) (x2 : Int32) (μ : Mem) : Prop :=
  ((1024 ≤ x2 → T_X12_cheapestWith_35 post x1 0 0 μ) ∧ (¬ 1024 ≤ x2 → ((¬ x2 = 0 → T_X12_cheapestWith_24 post P2 x1 x2 1000000 x2 μ) ∧ (x2 = 0 → T_X12_cheapestWith_24 post P2 x1 x2 0 x2 μ))))
def T_X12_cheapestWith_2 (post : Int32 → Mem → Prop) (x1 : Int32) (x2 : Int32) (μ : Mem) : Prop :=
  ∀ P2 : Int32 → Int32 → Mem → Prop, (∀ (x1 : Int32) (x2 : Int32) (μ : Mem), B_X12_cheapestWith_2 post P2 x1 x2 μ → P2 x1 x2 μ) → P2 x1 x2 μ
theorem bv_X12_cheapestWith_2 {X : Cx} {w : Wd} {l : Launch} {D : va_G} {A : Nat → Prop} (g : Gd X w RX12 cX12_cheapestWith 11 rm_X12_cheapestWith) (hX : atX X l D A) (post : Int32 → Mem → Prop) (hR : Rt X w shM 22 (some .int) (pI post)) (P2 : Int32 → Int32 → Mem → Prop) (hP2 : ∀ (x1 : Int32) (x2 : Int32) (μ : Mem), P2 x1 x2 μ → V X 2 [(0, .ref (w.1 0)), (1, .int x1), (2, .int x2)] [] (wls w shM 22 μ)) (x1 : Int32) (x2 : Int32) (μ : Mem) (h : B_X12_cheapestWith_2 post P2 x1 x2 μ) : V X 2 [(0, .ref (w.1 0)), (1, .int x1), (2, .int x2)] [] (wls w shM 22 μ) := by
  refine r_iload_n (pc := 2) 2 g dX12_cheapestWith_2 rfl ?_
  refine r_sipush (pc := 3) g dX12_cheapestWith_3 cs_1024 ?_
  refine r_icmp_ge (pc := 6) 31 g dX12_cheapestWith_6 rfl (fun q => ?_) (fun q => ?_)
  · have h := h.1 q
    refine r_iconst (pc := 31) g dX12_cheapestWith_31 ci_0 ?_
    refine r_istore_n (pc := 32) (lv' := [(2, .int 0), (0, .ref (w.1 0)), (1, .int x1)]) g dX12_cheapestWith_32 rfl rfl ?_
    refine r_iconst (pc := 33) g dX12_cheapestWith_33 ci_0 ?_
    refine r_istore_n (pc := 34) (lv' := [(3, .int 0), (2, .int 0), (0, .ref (w.1 0)), (1, .int x1)]) g dX12_cheapestWith_34 rfl rfl ?_
    refine r_sub [2, 3, 1, 0] (lv' := [(0, .ref (w.1 0)), (1, .int x1), (2, .int 0), (3, .int 0)]) rfl ?_
    exact v_X12_cheapestWith_35 g hX post hR x1 0 0 μ h
  · have h := h.2 q
    refine r_aload_n (pc := 9) 0 g dX12_cheapestWith_9 rfl ?_
    refine r_getr (pc := 10) (μ := μ) g dX12_cheapestWith_10 fa_RX12_67 shM_out sM_0 rfl ?_
    refine r_iload_n (pc := 13) 2 g dX12_cheapestWith_13 rfl ?_
    refine r_iload_n (pc := 14) 2 g dX12_cheapestWith_14 rfl ?_
    refine r_if_ne (pc := 15) 22 g dX12_cheapestWith_15 rfl (fun q => ?_) (fun q => ?_)
    · have h := h.1 q
      refine r_ldc (pc := 22) g dX12_cheapestWith_22 k_1221 ?_
      refine r_sub [0, 1, 2] (lv' := [(0, .ref (w.1 0)), (1, .int x1), (2, .int x2)]) rfl ?_
      exact v_X12_cheapestWith_24 g hX post hR P2 hP2 x1 x2 1000000 x2 μ h
    · have h := h.2 q
      refine r_iconst (pc := 18) g dX12_cheapestWith_18 ci_0 ?_
      refine r_goto (pc := 19) 24 g dX12_cheapestWith_19 rfl ?_
      refine r_sub [0, 1, 2] (lv' := [(0, .ref (w.1 0)), (1, .int x1), (2, .int x2)]) rfl ?_
      exact v_X12_cheapestWith_24 g hX post hR P2 hP2 x1 x2 0 x2 μ h
theorem v_X12_cheapestWith_2 {X : Cx} {w : Wd} {l : Launch} {D : va_G} {A : Nat → Prop} (g : Gd X w RX12 cX12_cheapestWith 11 rm_X12_cheapestWith) (hX : atX X l D A) (post : Int32 → Mem → Prop) (hR : Rt X w shM 22 (some .int) (pI post)) (x1 : Int32) (x2 : Int32) (μ : Mem) (h : T_X12_cheapestWith_2 post x1 x2 μ) : V X 2 [(0, .ref (w.1 0)), (1, .int x1), (2, .int x2)] [] (wls w shM 22 μ) :=
  h (fun x1 x2 μ => V X 2 [(0, .ref (w.1 0)), (1, .int x1), (2, .int x2)] [] (wls w shM 22 μ)) (fun x1 x2 μ h => bv_X12_cheapestWith_2 g hX post hR (fun x1 x2 μ => V X 2 [(0, .ref (w.1 0)), (1, .int x1), (2, .int x2)] [] (wls w shM 22 μ)) (fun _ _ _ h => h) x1 x2 μ h)
def T_X12_cheapestWith (x1 : Int32) (μ : Mem) (post : Int32 → Mem → Prop) : Prop :=
  T_X12_cheapestWith_2 post x1 0 μ
theorem m_X12_cheapestWith {w : Wd} {l : Launch} {D : va_G} {A : Nat → Prop} (x1 : Int32) (μ : Mem) (post : Int32 → Mem → Prop) (h : T_X12_cheapestWith x1 μ post) : MetX l D A w shM 22 yX12_cheapestWith cX12_cheapestWith 11 (some .int) rm_X12_cheapestWith [.ref (w.1 0), .int x1] μ (pI post) := by
  refine metX_of (by decide) rfl (lv := [(0, .ref (w.1 0)), (1, .int x1)]) rfl (fun X hX g hR => ?_)
  refine r_iconst (pc := 0) g dX12_cheapestWith_0 ci_0 ?_
  refine r_istore_n (pc := 1) (lv' := [(2, .int 0), (0, .ref (w.1 0)), (1, .int x1)]) g dX12_cheapestWith_1 rfl rfl ?_
  refine r_sub [1, 2, 0] (lv' := [(0, .ref (w.1 0)), (1, .int x1), (2, .int 0)]) rfl ?_
  exact v_X12_cheapestWith_2 g hX post hR x1 0 μ h
abbrev rm_X12_cheapest : Room := { frames := 3, cells := 0, slots := 0, locals := 76 }
def T_X12_cheapest (x1 : Int32) (x2 : Int32) (μ : Mem) (post : Int32 → Mem → Prop) : Prop :=
  T_X12_isOrder x1 μ (fun (u1 : Int32) (μ2 : Mem) => ((¬ u1 = 0 → T_X12_isIn x2 0 99 μ2 (fun (u3 : Int32) (μ4 : Mem) => ((¬ u3 = 0 → T_X12_lookAt x1 μ4 (fun (μ6 : Mem) => T_X12_cheapestWith x2 μ6 (fun (u7 : Int32) (μ8 : Mem) => post u7 μ8))) ∧ (u3 = 0 → post (-2) μ4)))) ∧ (u1 = 0 → post (-1) μ2)))
theorem m_X12_cheapest {w : Wd} {l : Launch} {D : va_G} {A : Nat → Prop} (x1 : Int32) (x2 : Int32) (μ : Mem) (post : Int32 → Mem → Prop) (h : T_X12_cheapest x1 x2 μ post) : MetX l D A w shM 22 yX12_cheapest cX12_cheapest 3 (some .int) rm_X12_cheapest [.ref (w.1 0), .int x1, .int x2] μ (pI post) := by
  refine metX_of (by decide) rfl (lv := [(0, .ref (w.1 0)), (1, .int x1), (2, .int x2)]) rfl (fun X hX g hR => ?_)
  refine r_aload_n (pc := 0) 0 g dX12_cheapest_0 rfl ?_
  refine r_iload_n (pc := 1) 1 g dX12_cheapest_1 rfl ?_
  refine r_callVi (pc := 2) (st := []) g hX dX12_cheapest_2 (m_X12_isOrder x1 μ _ h) kb_RX12_157 kv_X12_isOrder shM_out sM_0 rfl rfl rfl rfl (fun u1 μ2 h => ?_)
  refine r_if_ne (pc := 5) 10 g dX12_cheapest_5 rfl (fun q => ?_) (fun q => ?_)
  · have h := h.1 q
    refine r_iload_n (pc := 10) 2 g dX12_cheapest_10 rfl ?_
    refine r_iconst (pc := 11) g dX12_cheapest_11 ci_0 ?_
    refine r_bipush (pc := 12) g dX12_cheapest_12 cb_99 ?_
    refine r_callSi (pc := 14) (st := []) g hX dX12_cheapest_14 (m_X12_isIn x2 0 99 μ2 _ h) kb_RX12_79 k_1097 rfl rfl rfl rfl (fun u3 μ4 h => ?_)
    refine r_if_ne (pc := 17) 23 g dX12_cheapest_17 rfl (fun q => ?_) (fun q => ?_)
    · have h := h.1 q
      refine r_aload_n (pc := 23) 0 g dX12_cheapest_23 rfl ?_
      refine r_iload_n (pc := 24) 1 g dX12_cheapest_24 rfl ?_
      refine r_callVv (pc := 25) (st := []) g hX dX12_cheapest_25 (m_X12_lookAt x1 μ4 _ h) kb_RX12_160 kv_X12_lookAt shM_out sM_0 rfl rfl rfl rfl (fun μ6 h => ?_)
      refine r_aload_n (pc := 28) 0 g dX12_cheapest_28 rfl ?_
      refine r_iload_n (pc := 29) 2 g dX12_cheapest_29 rfl ?_
      refine r_callVi (pc := 30) (st := []) g hX dX12_cheapest_30 (m_X12_cheapestWith x2 μ6 _ h) kb_RX12_245 kv_X12_cheapestWith shM_out sM_0 rfl rfl rfl rfl (fun u7 μ8 h => ?_)
      exact r_ireti (pc := 33) g hR dX12_cheapest_33 h
    · have h := h.2 q
      refine r_bipush (pc := 20) g dX12_cheapest_20 cb_m2 ?_
      exact r_ireti (pc := 22) g hR dX12_cheapest_22 h
  · have h := h.2 q
    refine r_iconst (pc := 8) g dX12_cheapest_8 ci_m1 ?_
    exact r_ireti (pc := 9) g hR dX12_cheapest_9 h
