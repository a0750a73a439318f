theorem dX11_cell_0 : decode cX11_cell 0 = .ok (.aload_n 0, 1) := by decide +kernel
theorem dX11_cell_1 : decode cX11_cell 1 = .ok (.iconst 0, 1) := by decide +kernel
theorem dX11_cell_2 : decode cX11_cell 2 = .ok (.putfield 94, 3) := by decide +kernel
theorem dX11_cell_5 : decode cX11_cell 5 = .ok (.iload_n 1, 1) := by decide +kernel
theorem dX11_cell_6 : decode cX11_cell 6 = .ok (.invokestatic 98, 3) := by decide +kernel
theorem dX11_cell_9 : decode cX11_cell 9 = .ok (.ifCond .eq 10, 3) := by decide +kernel
theorem dX11_cell_12 : decode cX11_cell 12 = .ok (.iload_n 3, 1) := by decide +kernel
theorem dX11_cell_13 : decode cX11_cell 13 = .ok (.invokestatic 102, 3) := by decide +kernel
theorem dX11_cell_16 : decode cX11_cell 16 = .ok (.ifCond .ne 7, 3) := by decide +kernel
theorem dX11_cell_19 : decode cX11_cell 19 = .ok (.ldc2_w 333, 3) := by decide +kernel
theorem dX11_cell_22 : decode cX11_cell 22 = .ok (.lreturn, 1) := by decide +kernel
theorem dX11_cell_23 : decode cX11_cell 23 = .ok (.aload_n 0, 1) := by decide +kernel
theorem dX11_cell_24 : decode cX11_cell 24 = .ok (.aload_n 0, 1) := by decide +kernel
theorem dX11_cell_25 : decode cX11_cell 25 = .ok (.getfield 14, 3) := by decide +kernel
theorem dX11_cell_28 : decode cX11_cell 28 = .ok (.iload_n 1, 1) := by decide +kernel
theorem dX11_cell_29 : decode cX11_cell 29 = .ok (.iload_n 3, 1) := by decide +kernel
theorem dX11_cell_30 : decode cX11_cell 30 = .ok (.iload_n 2, 1) := by decide +kernel
theorem dX11_cell_31 : decode cX11_cell 31 = .ok (.invokevirtual 327, 3) := by decide +kernel
theorem dX11_cell_34 : decode cX11_cell 34 = .ok (.putfield 94, 3) := by decide +kernel
theorem dX11_cell_37 : decode cX11_cell 37 = .ok (.aload_n 0, 1) := by decide +kernel
theorem dX11_cell_38 : decode cX11_cell 38 = .ok (.getfield 94, 3) := by decide +kernel
theorem dX11_cell_41 : decode cX11_cell 41 = .ok (.ifCond .eq 9, 3) := by decide +kernel
theorem dX11_cell_44 : decode cX11_cell 44 = .ok (.ldc2_w 333, 3) := by decide +kernel
theorem dX11_cell_47 : decode cX11_cell 47 = .ok (.goto 15, 3) := by decide +kernel
theorem dX11_cell_50 : decode cX11_cell 50 = .ok (.aload_n 0, 1) := by decide +kernel
theorem dX11_cell_51 : decode cX11_cell 51 = .ok (.getfield 14, 3) := by decide +kernel
theorem dX11_cell_54 : decode cX11_cell 54 = .ok (.getfield 113, 3) := by decide +kernel
theorem dX11_cell_57 : decode cX11_cell 57 = .ok (.iload_n 1, 1) := by decide +kernel
theorem dX11_cell_58 : decode cX11_cell 58 = .ok (.aaload, 1) := by decide +kernel
theorem dX11_cell_59 : decode cX11_cell 59 = .ok (.iload_n 2, 1) := by decide +kernel
theorem dX11_cell_60 : decode cX11_cell 60 = .ok (.iaload, 1) := by decide +kernel
theorem dX11_cell_61 : decode cX11_cell 61 = .ok (.i2l, 1) := by decide +kernel
theorem dX11_cell_62 : decode cX11_cell 62 = .ok (.lreturn, 1) := by decide +kernel
theorem dX11_leave_0 : decode cX11_leave 0 = .ok (.aload_n 0, 1) := by decide +kernel
theorem dX11_leave_1 : decode cX11_leave 1 = .ok (.aload_n 0, 1) := by decide +kernel
theorem dX11_leave_2 : decode cX11_leave 2 = .ok (.getfield 348, 3) := by decide +kernel
theorem dX11_leave_5 : decode cX11_leave 5 = .ok (.bipush 31, 2) := by decide +kernel
theorem dX11_leave_7 : decode cX11_leave 7 = .ok (.imul, 1) := by decide +kernel
theorem dX11_leave_8 : decode cX11_leave 8 = .ok (.iload_n 1, 1) := by decide +kernel
theorem dX11_leave_9 : decode cX11_leave 9 = .ok (.iadd, 1) := by decide +kernel
theorem dX11_leave_10 : decode cX11_leave 10 = .ok (.putfield 348, 3) := by decide +kernel
theorem dX11_leave_13 : decode cX11_leave 13 = .ok (.return_, 1) := by decide +kernel
theorem dX11_tellRow_0 : decode cX11_tellRow 0 = .ok (.aload_n 0, 1) := by decide +kernel
theorem dX11_tellRow_1 : decode cX11_tellRow 1 = .ok (.iconst 1, 1) := by decide +kernel
theorem dX11_tellRow_2 : decode cX11_tellRow 2 = .ok (.invokevirtual 344, 3) := by decide +kernel
theorem dX11_tellRow_5 : decode cX11_tellRow 5 = .ok (.aload_n 0, 1) := by decide +kernel
theorem dX11_tellRow_6 : decode cX11_tellRow 6 = .ok (.getfield 44, 3) := by decide +kernel
theorem dX11_tellRow_9 : decode cX11_tellRow 9 = .ok (.aload_n 0, 1) := by decide +kernel
theorem dX11_tellRow_10 : decode cX11_tellRow 10 = .ok (.getfield 35, 3) := by decide +kernel
theorem dX11_tellRow_13 : decode cX11_tellRow 13 = .ok (.getfield 197, 3) := by decide +kernel
theorem dX11_tellRow_16 : decode cX11_tellRow 16 = .ok (.iload_n 1, 1) := by decide +kernel
theorem dX11_tellRow_17 : decode cX11_tellRow 17 = .ok (.aaload, 1) := by decide +kernel
theorem dX11_tellRow_18 : decode cX11_tellRow 18 = .ok (.invokevirtual 184, 3) := by decide +kernel
theorem dX11_tellRow_21 : decode cX11_tellRow 21 = .ok (.aload_n 0, 1) := by decide +kernel
theorem dX11_tellRow_22 : decode cX11_tellRow 22 = .ok (.getfield 44, 3) := by decide +kernel
theorem dX11_tellRow_25 : decode cX11_tellRow 25 = .ok (.getfield 203, 3) := by decide +kernel
theorem dX11_tellRow_28 : decode cX11_tellRow 28 = .ok (.ireturn, 1) := by decide +kernel
theorem dX11_tellBefore_0 : decode cX11_tellBefore 0 = .ok (.aload_n 0, 1) := by decide +kernel
theorem dX11_tellBefore_1 : decode cX11_tellBefore 1 = .ok (.iconst 2, 1) := by decide +kernel
theorem dX11_tellBefore_2 : decode cX11_tellBefore 2 = .ok (.invokevirtual 344, 3) := by decide +kernel
theorem dX11_tellBefore_5 : decode cX11_tellBefore 5 = .ok (.aload_n 0, 1) := by decide +kernel
theorem dX11_tellBefore_6 : decode cX11_tellBefore 6 = .ok (.iload_n 1, 1) := by decide +kernel
theorem dX11_tellBefore_7 : decode cX11_tellBefore 7 = .ok (.invokevirtual 341, 3) := by decide +kernel
theorem dX11_tellBefore_10 : decode cX11_tellBefore 10 = .ok (.sipush 1000, 3) := by decide +kernel
theorem dX11_tellBefore_13 : decode cX11_tellBefore 13 = .ok (.iadd, 1) := by decide +kernel
theorem dX11_tellBefore_14 : decode cX11_tellBefore 14 = .ok (.ireturn, 1) := by decide +kernel
theorem dX11_tellAgain_0 : decode cX11_tellAgain 0 = .ok (.aload_n 0, 1) := by decide +kernel
theorem dX11_tellAgain_1 : decode cX11_tellAgain 1 = .ok (.iconst 3, 1) := by decide +kernel
theorem dX11_tellAgain_2 : decode cX11_tellAgain 2 = .ok (.invokevirtual 344, 3) := by decide +kernel
theorem dX11_tellAgain_5 : decode cX11_tellAgain 5 = .ok (.aload_n 0, 1) := by decide +kernel
theorem dX11_tellAgain_6 : decode cX11_tellAgain 6 = .ok (.iload_n 1, 1) := by decide +kernel
theorem dX11_tellAgain_7 : decode cX11_tellAgain 7 = .ok (.invokevirtual 338, 3) := by decide +kernel
theorem dX11_tellAgain_10 : decode cX11_tellAgain 10 = .ok (.istore_n 2, 1) := by decide +kernel
theorem dX11_tellAgain_11 : decode cX11_tellAgain 11 = .ok (.iload_n 2, 1) := by decide +kernel
theorem dX11_tellAgain_12 : decode cX11_tellAgain 12 = .ok (.aload_n 0, 1) := by decide +kernel
theorem dX11_tellAgain_13 : decode cX11_tellAgain 13 = .ok (.iload_n 1, 1) := by decide +kernel
theorem dX11_tellAgain_14 : decode cX11_tellAgain 14 = .ok (.invokevirtual 341, 3) := by decide +kernel
theorem dX11_tellAgain_17 : decode cX11_tellAgain 17 = .ok (.iadd, 1) := by decide +kernel
theorem dX11_tellAgain_18 : decode cX11_tellAgain 18 = .ok (.ireturn, 1) := by decide +kernel
theorem dX11_tell_0 : decode cX11_tell 0 = .ok (.aload_n 0, 1) := by decide +kernel
theorem dX11_tell_1 : decode cX11_tell 1 = .ok (.getfield 35, 3) := by decide +kernel
theorem dX11_tell_4 : decode cX11_tell 4 = .ok (.iload_n 1, 1) := by decide +kernel
theorem dX11_tell_5 : decode cX11_tell 5 = .ok (.invokevirtual 196, 3) := by decide +kernel
theorem dX11_tell_8 : decode cX11_tell 8 = .ok (.ifCond .ne 5, 3) := by decide +kernel
theorem dX11_tell_11 : decode cX11_tell 11 = .ok (.iconst (-1), 1) := by decide +kernel
theorem dX11_tell_12 : decode cX11_tell 12 = .ok (.ireturn, 1) := by decide +kernel
theorem dX11_tell_13 : decode cX11_tell 13 = .ok (.aload_n 0, 1) := by decide +kernel
theorem dX11_tell_14 : decode cX11_tell 14 = .ok (.getfield 35, 3) := by decide +kernel
theorem dX11_tell_17 : decode cX11_tell 17 = .ok (.getfield 200, 3) := by decide +kernel
theorem dX11_tell_20 : decode cX11_tell 20 = .ok (.iload_n 1, 1) := by decide +kernel
theorem dX11_tell_21 : decode cX11_tell 21 = .ok (.iaload, 1) := by decide +kernel
theorem dX11_tell_22 : decode cX11_tell 22 = .ok (.lookupswitch 38 #[(1, 32), (2, 26)], 26) := by decide +kernel
theorem dX11_tell_48 : decode cX11_tell 48 = .ok (.aload_n 0, 1) := by decide +kernel
theorem dX11_tell_49 : decode cX11_tell 49 = .ok (.iload_n 1, 1) := by decide +kernel
theorem dX11_tell_50 : decode cX11_tell 50 = .ok (.invokevirtual 335, 3) := by decide +kernel
theorem dX11_tell_53 : decode cX11_tell 53 = .ok (.ireturn, 1) := by decide +kernel
theorem dX11_tell_54 : decode cX11_tell 54 = .ok (.aload_n 0, 1) := by decide +kernel
theorem dX11_tell_55 : decode cX11_tell 55 = .ok (.iload_n 1, 1) := by decide +kernel
theorem dX11_tell_56 : decode cX11_tell 56 = .ok (.invokevirtual 338, 3) := by decide +kernel
theorem dX11_tell_59 : decode cX11_tell 59 = .ok (.ireturn, 1) := by decide +kernel
theorem dX11_tell_60 : decode cX11_tell 60 = .ok (.aload_n 0, 1) := by decide +kernel
theorem dX11_tell_61 : decode cX11_tell 61 = .ok (.iload_n 1, 1) := by decide +kernel
theorem dX11_tell_62 : decode cX11_tell 62 = .ok (.invokevirtual 341, 3) := by decide +kernel
theorem dX11_tell_65 : decode cX11_tell 65 = .ok (.ireturn, 1) := by decide +kernel
theorem dX11_show_0 : decode cX11_show 0 = .ok (.aload_n 0, 1) := by decide +kernel
theorem dX11_show_1 : decode cX11_show 1 = .ok (.getfield 35, 3) := by decide +kernel
theorem dX11_show_4 : decode cX11_show 4 = .ok (.iload_n 1, 1) := by decide +kernel
theorem dX11_show_5 : decode cX11_show 5 = .ok (.invokevirtual 196, 3) := by decide +kernel
theorem dX11_show_8 : decode cX11_show 8 = .ok (.ifCond .ne 5, 3) := by decide +kernel
theorem dX11_show_11 : decode cX11_show 11 = .ok (.iconst (-1), 1) := by decide +kernel
theorem dX11_show_12 : decode cX11_show 12 = .ok (.ireturn, 1) := by decide +kernel
theorem dX11_show_13 : decode cX11_show 13 = .ok (.aload_n 0, 1) := by decide +kernel
theorem dX11_show_14 : decode cX11_show 14 = .ok (.getfield 35, 3) := by decide +kernel
theorem dX11_show_17 : decode cX11_show 17 = .ok (.getfield 200, 3) := by decide +kernel
theorem dX11_show_20 : decode cX11_show 20 = .ok (.iload_n 1, 1) := by decide +kernel
theorem dX11_show_21 : decode cX11_show 21 = .ok (.iaload, 1) := by decide +kernel
theorem dX11_show_22 : decode cX11_show 22 = .ok (.iconst 2, 1) := by decide +kernel
theorem dX11_show_23 : decode cX11_show 23 = .ok (.if_icmp .ne 7, 3) := by decide +kernel
theorem dX11_show_26 : decode cX11_show 26 = .ok (.iconst 1, 1) := by decide +kernel
theorem dX11_show_27 : decode cX11_show 27 = .ok (.goto 4, 3) := by decide +kernel
theorem dX11_show_30 : decode cX11_show 30 = .ok (.iconst 0, 1) := by decide +kernel
theorem dX11_show_31 : decode cX11_show 31 = .ok (.istore_n 2, 1) := by decide +kernel
theorem dX11_show_32 : decode cX11_show 32 = .ok (.aload_n 0, 1) := by decide +kernel
theorem dX11_show_33 : decode cX11_show 33 = .ok (.iload_n 2, 1) := by decide +kernel
theorem dX11_show_34 : decode cX11_show 34 = .ok (.ifCond .eq 7, 3) := by decide +kernel
theorem dX11_show_37 : decode cX11_show 37 = .ok (.iconst 5, 1) := by decide +kernel
theorem dX11_show_38 : decode cX11_show 38 = .ok (.goto 4, 3) := by decide +kernel
theorem dX11_show_41 : decode cX11_show 41 = .ok (.iconst 4, 1) := by decide +kernel
theorem dX11_show_42 : decode cX11_show 42 = .ok (.invokevirtual 344, 3) := by decide +kernel
theorem dX11_show_45 : decode cX11_show 45 = .ok (.iload_n 2, 1) := by decide +kernel
theorem dX11_show_46 : decode cX11_show 46 = .ok (.ifCond .eq 8, 3) := by decide +kernel
theorem dX11_show_49 : decode cX11_show 49 = .ok (.bipush 80, 2) := by decide +kernel
theorem dX11_show_51 : decode cX11_show 51 = .ok (.goto 4, 3) := by decide +kernel
theorem dX11_show_54 : decode cX11_show 54 = .ok (.iload_n 1, 1) := by decide +kernel
theorem dX11_show_55 : decode cX11_show 55 = .ok (.ireturn, 1) := by decide +kernel
theorem dX11_as_0 : decode cX11_as 0 = .ok (.aload_n 0, 1) := by decide +kernel
theorem dX11_as_1 : decode cX11_as 1 = .ok (.iconst 0, 1) := by decide +kernel
theorem dX11_as_2 : decode cX11_as 2 = .ok (.putfield 94, 3) := by decide +kernel
theorem dX11_as_5 : decode cX11_as 5 = .ok (.aload_n 0, 1) := by decide +kernel
theorem dX11_as_6 : decode cX11_as 6 = .ok (.getfield 35, 3) := by decide +kernel
theorem dX11_as_9 : decode cX11_as 9 = .ok (.iload_n 1, 1) := by decide +kernel
theorem dX11_as_10 : decode cX11_as 10 = .ok (.invokevirtual 196, 3) := by decide +kernel
theorem dX11_as_13 : decode cX11_as 13 = .ok (.ifCond .ne 5, 3) := by decide +kernel
theorem dX11_as_16 : decode cX11_as 16 = .ok (.iconst (-1), 1) := by decide +kernel
theorem dX11_as_17 : decode cX11_as 17 = .ok (.ireturn, 1) := by decide +kernel
theorem dX11_as_18 : decode cX11_as 18 = .ok (.iload_n 2, 1) := by decide +kernel
theorem dX11_as_19 : decode cX11_as 19 = .ok (.invokestatic 169, 3) := by decide +kernel
theorem dX11_as_22 : decode cX11_as 22 = .ok (.ifCond .ne 6, 3) := by decide +kernel
theorem dX11_as_25 : decode cX11_as 25 = .ok (.bipush (-2), 2) := by decide +kernel
theorem dX11_as_27 : decode cX11_as 27 = .ok (.ireturn, 1) := by decide +kernel
theorem dX11_as_28 : decode cX11_as 28 = .ok (.aload_n 0, 1) := by decide +kernel
theorem dX11_as_29 : decode cX11_as 29 = .ok (.getfield 35, 3) := by decide +kernel
theorem dX11_as_32 : decode cX11_as 32 = .ok (.getfield 200, 3) := by decide +kernel
theorem dX11_as_35 : decode cX11_as 35 = .ok (.iload_n 1, 1) := by decide +kernel
theorem dX11_as_36 : decode cX11_as 36 = .ok (.iaload, 1) := by decide +kernel
theorem dX11_as_37 : decode cX11_as 37 = .ok (.iload_n 2, 1) := by decide +kernel
theorem dX11_as_38 : decode cX11_as 38 = .ok (.if_icmp .ge 11, 3) := by decide +kernel
theorem dX11_as_41 : decode cX11_as 41 = .ok (.aload_n 0, 1) := by decide +kernel
theorem dX11_as_42 : decode cX11_as 42 = .ok (.iconst 2, 1) := by decide +kernel
theorem dX11_as_43 : decode cX11_as 43 = .ok (.invokevirtual 109, 3) := by decide +kernel
theorem dX11_as_46 : decode cX11_as 46 = .ok (.goto 4, 3) := by decide +kernel
theorem dX11_as_49 : decode cX11_as 49 = .ok (.iconst 1, 1) := by decide +kernel
theorem dX11_as_50 : decode cX11_as 50 = .ok (.ireturn, 1) := by decide +kernel
theorem dX11_trace_0 : decode cX11_trace 0 = .ok (.aload_n 0, 1) := by decide +kernel
theorem dX11_trace_1 : decode cX11_trace 1 = .ok (.getfield 348, 3) := by decide +kernel
theorem dX11_trace_4 : decode cX11_trace 4 = .ok (.ireturn, 1) := by decide +kernel
theorem dX11_fault_0 : decode cX11_fault 0 = .ok (.aload_n 0, 1) := by decide +kernel
theorem dX11_fault_1 : decode cX11_fault 1 = .ok (.getfield 94, 3) := by decide +kernel
theorem dX11_fault_4 : decode cX11_fault 4 = .ok (.ireturn, 1) := by decide +kernel
theorem dX11_many_0 : decode cX11_many 0 = .ok (.iload_n 1, 1) := by decide +kernel
theorem dX11_many_1 : decode cX11_many 1 = .ok (.tableswitch 73 0 3 #[31, 39, 47, 55], 31) := by decide +kernel
theorem dX11_many_32 : decode cX11_many 32 = .ok (.aload_n 0, 1) := by decide +kernel
theorem dX11_many_33 : decode cX11_many 33 = .ok (.getfield 28, 3) := by decide +kernel
theorem dX11_many_36 : decode cX11_many 36 = .ok (.getfield 128, 3) := by decide +kernel
theorem dX11_many_39 : decode cX11_many 39 = .ok (.ireturn, 1) := by decide +kernel
theorem dX11_many_40 : decode cX11_many 40 = .ok (.aload_n 0, 1) := by decide +kernel
theorem dX11_many_41 : decode cX11_many 41 = .ok (.getfield 35, 3) := by decide +kernel
theorem dX11_many_44 : decode cX11_many 44 = .ok (.getfield 125, 3) := by decide +kernel
theorem dX11_many_47 : decode cX11_many 47 = .ok (.ireturn, 1) := by decide +kernel
theorem dX11_many_48 : decode cX11_many 48 = .ok (.aload_n 0, 1) := by decide +kernel
theorem dX11_many_49 : decode cX11_many 49 = .ok (.getfield 28, 3) := by decide +kernel
theorem dX11_many_52 : decode cX11_many 52 = .ok (.invokevirtual 351, 3) := by decide +kernel
theorem dX11_many_55 : decode cX11_many 55 = .ok (.ireturn, 1) := by decide +kernel
theorem dX11_many_56 : decode cX11_many 56 = .ok (.aload_n 0, 1) := by decide +kernel
theorem dX11_many_57 : decode cX11_many 57 = .ok (.getfield 28, 3) := by decide +kernel
theorem dX11_many_60 : decode cX11_many 60 = .ok (.aload_n 0, 1) := by decide +kernel
theorem dX11_many_61 : decode cX11_many 61 = .ok (.getfield 28, 3) := by decide +kernel
theorem dX11_many_64 : decode cX11_many 64 = .ok (.invokevirtual 129, 3) := by decide +kernel
theorem dX11_many_67 : decode cX11_many 67 = .ok (.invokevirtual 354, 3) := by decide +kernel
theorem dX11_many_70 : decode cX11_many 70 = .ok (.invokestatic 357, 3) := by decide +kernel
theorem dX11_many_73 : decode cX11_many 73 = .ok (.ireturn, 1) := by decide +kernel
theorem dX11_many_74 : decode cX11_many 74 = .ok (.bipush (-2), 2) := by decide +kernel
theorem dX11_many_76 : decode cX11_many 76 = .ok (.ireturn, 1) := by decide +kernel
abbrev rm_X11_cell : Room := { frames := 2, cells := 0, slots := 0, locals := 46 }
def T_X11_cell_19 (post : Int64 → Mem → Prop) (μ : Mem) : Prop :=
  post (-9223372036854775808) μ
theorem v_X11_cell_19 {X : Cx} {w : Wd} {l : Launch} {D : va_G} {A : Nat → Prop} (g : Gd X w RX11 cX11_cell 4 rm_X11_cell) (hX : atX X l D A) (post : Int64 → Mem → Prop) (hR : Rt X w shX 58 (some .long) (pL post)) (μ : Mem) (h : T_X11_cell_19 post μ) : V X 19 [] [] (wls w shX 58 μ) := by
  refine r_ldc2_w (pc := 19) g dX11_cell_19 k_947 ?_
  exact r_lretl (pc := 22) g hR dX11_cell_22 h
def T_X11_cell (x1 : Int32) (x2 : Int32) (x3 : Int32) (μ : Mem) (post : Int64 → Mem → Prop) : Prop :=
  T_X11_isSheet x1 (mset μ 0 13 0) (fun (u1 : Int32) (μ2 : Mem) => ((u1 = 0 → T_X11_cell_19 post μ2) ∧ (¬ u1 = 0 → T_X11_isLane x3 μ2 (fun (u3 : Int32) (μ4 : Mem) => ((¬ u3 = 0 → T_X7_cellFault x1 x3 x2 μ4 (fun (u5 : Int32) (μ6 : Mem) => ((((mset μ6 0 13 u5) 0 13) = 0 → vp_in x1 4 ∧ vp_in x2 60 ∧ post (((mset μ6 0 13 u5) (5 + x1.toNatClampNeg) x2.toNatClampNeg).toInt64) (mset μ6 0 13 u5)) ∧ (¬ ((mset μ6 0 13 u5) 0 13) = 0 → post (-9223372036854775808) (mset μ6 0 13 u5))))) ∧ (u3 = 0 → T_X11_cell_19 post μ4))))))
theorem m_X11_cell {w : Wd} {l : Launch} {D : va_G} {A : Nat → Prop} (x1 : Int32) (x2 : Int32) (x3 : Int32) (μ : Mem) (post : Int64 → Mem → Prop) (h : T_X11_cell x1 x2 x3 μ post) : MetX l D A w shX 58 yX11_cell cX11_cell 4 (some .long) rm_X11_cell [.ref (w.1 0), .int x1, .int x2, .int x3] μ (pL post) := by
  refine metX_of (by decide) rfl (lv := [(0, .ref (w.1 0)), (1, .int x1), (2, .int x2), (3, .int x3)]) rfl (fun X hX g hR => ?_)
  refine r_aload_n (pc := 0) 0 g dX11_cell_0 rfl ?_
  refine r_iconst (pc := 1) g dX11_cell_1 ci_0 ?_
  refine r_puti (pc := 2) (μ := μ) g dX11_cell_2 fp_RX11_94 shX_out sX_0 rfl ?_
  refine r_iload_n (pc := 5) 1 g dX11_cell_5 rfl ?_
  refine r_callSi (pc := 6) (st := []) g hX dX11_cell_6 (m_X11_isSheet x1 (mset μ 0 13 0) _ h) kb_RX11_98 k_466 rfl rfl rfl rfl (fun u1 μ2 h => ?_)
  refine r_if_eq (pc := 9) 19 g dX11_cell_9 rfl (fun q => ?_) (fun q => ?_)
  · have h := h.1 q
    refine r_sub [] (lv' := []) rfl ?_
    exact v_X11_cell_19 g hX post hR μ2 h
  · have h := h.2 q
    refine r_iload_n (pc := 12) 3 g dX11_cell_12 rfl ?_
    refine r_callSi (pc := 13) (st := []) g hX dX11_cell_13 (m_X11_isLane x3 μ2 _ h) kb_RX11_102 k_469 rfl rfl rfl rfl (fun u3 μ4 h => ?_)
    refine r_if_ne (pc := 16) 23 g dX11_cell_16 rfl (fun q => ?_) (fun q => ?_)
    · have h := h.1 q
      refine r_aload_n (pc := 23) 0 g dX11_cell_23 rfl ?_
      refine r_aload_n (pc := 24) 0 g dX11_cell_24 rfl ?_
      refine r_getr (pc := 25) (μ := μ4) g dX11_cell_25 fa_RX11_14 shX_out sX_0 rfl ?_
      refine r_iload_n (pc := 28) 1 g dX11_cell_28 rfl ?_
      refine r_iload_n (pc := 29) 3 g dX11_cell_29 rfl ?_
      refine r_iload_n (pc := 30) 2 g dX11_cell_30 rfl ?_
      refine r_callVi (pc := 31) (st := [.ref (w.1 0)]) g hX dX11_cell_31 (m_X7_cellFault x1 x3 x2 μ4 _ h) kb_RX11_327 kv_X7_cellFault shX_out sX_1 rfl rfl rfl rfl (fun u5 μ6 h => ?_)
      refine r_puti (pc := 34) (μ := μ6) g dX11_cell_34 fp_RX11_94 shX_out sX_0 rfl ?_
      refine r_aload_n (pc := 37) 0 g dX11_cell_37 rfl ?_
      refine r_geti (pc := 38) (μ := mset μ6 0 13 u5) g dX11_cell_38 fa_RX11_94 shX_out sX_0 rfl ?_
      refine r_if_eq (pc := 41) 50 g dX11_cell_41 rfl (fun q => ?_) (fun q => ?_)
      · have h := h.1 q
        refine r_aload_n (pc := 50) 0 g dX11_cell_50 rfl ?_
        refine r_getr (pc := 51) (μ := mset μ6 0 13 u5) g dX11_cell_51 fa_RX11_14 shX_out sX_0 rfl ?_
        refine r_getr (pc := 54) (μ := mset μ6 0 13 u5) g dX11_cell_54 fa_RX11_113 shX_out sX_1 rfl ?_
        refine r_iload_n (pc := 57) 1 g dX11_cell_57 rfl ?_
        obtain ⟨b7, h⟩ := h
        refine r_aaload (pc := 58) (μ := mset μ6 0 13 u5) g dX11_cell_58 (by decide) sX_2 b7 ?_
        refine r_iload_n (pc := 59) 2 g dX11_cell_59 rfl ?_
        obtain ⟨b8, h⟩ := h
        refine r_iaload (pc := 60) (μ := mset μ6 0 13 u5) g dX11_cell_60 shX_out (shX_rows5 b7) b8 ?_
        refine r_i2l (pc := 61) g dX11_cell_61 ?_
        exact r_lretl (pc := 62) g hR dX11_cell_62 h
      · have h := h.2 q
        refine r_ldc2_w (pc := 44) g dX11_cell_44 k_947 ?_
        refine r_goto (pc := 47) 62 g dX11_cell_47 rfl ?_
        exact r_lretl (pc := 62) g hR dX11_cell_62 h
    · have h := h.2 q
      refine r_sub [] (lv' := []) rfl ?_
      exact v_X11_cell_19 g hX post hR μ4 h
abbrev rm_X11_leave : Room := { frames := 0, cells := 0, slots := 0, locals := 0 }
def T_X11_leave (x1 : Int32) (μ : Mem) (post : Mem → Prop) : Prop :=
  post (mset μ 0 12 (((μ 0 12) * 31) + x1))
theorem m_X11_leave {w : Wd} {l : Launch} {D : va_G} {A : Nat → Prop} (x1 : Int32) (μ : Mem) (post : Mem → Prop) (h : T_X11_leave x1 μ post) : MetX l D A w shX 58 yX11_leave cX11_leave 2 none rm_X11_leave [.ref (w.1 0), .int x1] μ (pV post) := by
  refine metX_of (by decide) rfl (lv := [(0, .ref (w.1 0)), (1, .int x1)]) rfl (fun X hX g hR => ?_)
  refine r_aload_n (pc := 0) 0 g dX11_leave_0 rfl ?_
  refine r_aload_n (pc := 1) 0 g dX11_leave_1 rfl ?_
  refine r_geti (pc := 2) (μ := μ) g dX11_leave_2 fa_RX11_348 shX_out sX_0 rfl ?_
  refine r_bipush (pc := 5) g dX11_leave_5 cb_31 ?_
  refine r_imul (pc := 7) g dX11_leave_7 ?_
  refine r_iload_n (pc := 8) 1 g dX11_leave_8 rfl ?_
  refine r_iadd (pc := 9) g dX11_leave_9 ?_
  refine r_puti (pc := 10) (μ := μ) g dX11_leave_10 fp_RX11_348 shX_out sX_0 rfl ?_
  exact r_vretv (pc := 13) g hR dX11_leave_13 h
abbrev rm_X11_tellRow : Room := { frames := 2, cells := 0, slots := 0, locals := 49 }
def T_X11_tellRow (x1 : Int32) (μ : Mem) (post : Int32 → Mem → Prop) : Prop :=
  T_X11_leave 1 μ (fun (μ2 : Mem) => vp_in x1 8 ∧ T_X1_measure (25 + x1.toNatClampNeg) μ2 (fun (μ5 : Mem) => post (μ5 33 1) μ5))
theorem m_X11_tellRow {w : Wd} {l : Launch} {D : va_G} {A : Nat → Prop} (x1 : Int32) (μ : Mem) (post : Int32 → Mem → Prop) (h : T_X11_tellRow x1 μ post) : MetX l D A w shX 58 yX11_tellRow cX11_tellRow 2 (some .int) rm_X11_tellRow [.ref (w.1 0), .int x1] μ (pI post) := by
  refine metX_of (by decide) rfl (lv := [(0, .ref (w.1 0)), (1, .int x1)]) rfl (fun X hX g hR => ?_)
  refine r_aload_n (pc := 0) 0 g dX11_tellRow_0 rfl ?_
  refine r_iconst (pc := 1) g dX11_tellRow_1 ci_1 ?_
  refine r_callVv (pc := 2) (st := []) g hX dX11_tellRow_2 (m_X11_leave 1 μ _ h) kb_RX11_344 kv_X11_leave shX_out sX_0 rfl rfl rfl rfl (fun μ2 h => ?_)
  refine r_aload_n (pc := 5) 0 g dX11_tellRow_5 rfl ?_
  refine r_getr (pc := 6) (μ := μ2) g dX11_tellRow_6 fa_RX11_44 shX_out sX_0 rfl ?_
  refine r_aload_n (pc := 9) 0 g dX11_tellRow_9 rfl ?_
  refine r_getr (pc := 10) (μ := μ2) g dX11_tellRow_10 fa_RX11_35 shX_out sX_0 rfl ?_
  refine r_getr (pc := 13) (μ := μ2) g dX11_tellRow_13 fa_RX11_197 shX_out sX_22 rfl ?_
  refine r_iload_n (pc := 16) 1 g dX11_tellRow_16 rfl ?_
  obtain ⟨b3, h⟩ := h
  refine r_aaload (pc := 17) (μ := μ2) g dX11_tellRow_17 (by decide) sX_23 b3 ?_
  refine r_callVv (pc := 18) (st := []) g hX dX11_tellRow_18 (m_X1_measure (25 + x1.toNatClampNeg) μ2 _ h) kb_RX11_184 kv_X1_measure shX_out sX_33 rfl rfl rfl rfl (fun μ5 h => ?_)
  refine r_aload_n (pc := 21) 0 g dX11_tellRow_21 rfl ?_
  refine r_getr (pc := 22) (μ := μ5) g dX11_tellRow_22 fa_RX11_44 shX_out sX_0 rfl ?_
  refine r_geti (pc := 25) (μ := μ5) g dX11_tellRow_25 fa_RX11_203 shX_out sX_33 rfl ?_
  exact r_ireti (pc := 28) g hR dX11_tellRow_28 h
abbrev rm_X11_tellBefore : Room := { frames := 3, cells := 0, slots := 0, locals := 70 }
def T_X11_tellBefore (x1 : Int32) (μ : Mem) (post : Int32 → Mem → Prop) : Prop :=
  T_X11_leave 2 μ (fun (μ2 : Mem) => T_X11_tellRow x1 μ2 (fun (u3 : Int32) (μ4 : Mem) => post (u3 + 1000) μ4))
theorem m_X11_tellBefore {w : Wd} {l : Launch} {D : va_G} {A : Nat → Prop} (x1 : Int32) (μ : Mem) (post : Int32 → Mem → Prop) (h : T_X11_tellBefore x1 μ post) : MetX l D A w shX 58 yX11_tellBefore cX11_tellBefore 2 (some .int) rm_X11_tellBefore [.ref (w.1 0), .int x1] μ (pI post) := by
  refine metX_of (by decide) rfl (lv := [(0, .ref (w.1 0)), (1, .int x1)]) rfl (fun X hX g hR => ?_)
  refine r_aload_n (pc := 0) 0 g dX11_tellBefore_0 rfl ?_
  refine r_iconst (pc := 1) g dX11_tellBefore_1 ci_2 ?_
  refine r_callVv (pc := 2) (st := []) g hX dX11_tellBefore_2 (m_X11_leave 2 μ _ h) kb_RX11_344 kv_X11_leave shX_out sX_0 rfl rfl rfl rfl (fun μ2 h => ?_)
  refine r_aload_n (pc := 5) 0 g dX11_tellBefore_5 rfl ?_
  refine r_iload_n (pc := 6) 1 g dX11_tellBefore_6 rfl ?_
  refine r_callVi (pc := 7) (st := []) g hX dX11_tellBefore_7 (m_X11_tellRow x1 μ2 _ h) kb_RX11_341 kv_X11_tellRow shX_out sX_0 rfl rfl rfl rfl (fun u3 μ4 h => ?_)
  refine r_sipush (pc := 10) g dX11_tellBefore_10 cs_1000 ?_
  refine r_iadd (pc := 13) g dX11_tellBefore_13 ?_
  exact r_ireti (pc := 14) g hR dX11_tellBefore_14 h
abbrev rm_X11_tellAgain : Room := { frames := 4, cells := 0, slots := 0, locals := 91 }
def T_X11_tellAgain (x1 : Int32) (μ : Mem) (post : Int32 → Mem → Prop) : Prop :=
  T_X11_leave 3 μ (fun (μ2 : Mem) => T_X11_tellBefore x1 μ2 (fun (u3 : Int32) (μ4 : Mem) => T_X11_tellRow x1 μ4 (fun (u5 : Int32) (μ6 : Mem) => post (u3 + u5) μ6)))
theorem m_X11_tellAgain {w : Wd} {l : Launch} {D : va_G} {A : Nat → Prop} (x1 : Int32) (μ : Mem) (post : Int32 → Mem → Prop) (h : T_X11_tellAgain x1 μ post) : MetX l D A w shX 58 yX11_tellAgain cX11_tellAgain 3 (some .int) rm_X11_tellAgain [.ref (w.1 0), .int x1] μ (pI post) := by
  refine metX_of (by decide) rfl (lv := [(0, .ref (w.1 0)), (1, .int x1)]) rfl (fun X hX g hR => ?_)
  refine r_aload_n (pc := 0) 0 g dX11_tellAgain_0 rfl ?_
  refine r_iconst (pc := 1) g dX11_tellAgain_1 ci_3 ?_
  refine r_callVv (pc := 2) (st := []) g hX dX11_tellAgain_2 (m_X11_leave 3 μ _ h) kb_RX11_344 kv_X11_leave shX_out sX_0 rfl rfl rfl rfl (fun μ2 h => ?_)
  refine r_aload_n (pc := 5) 0 g dX11_tellAgain_5 rfl ?_
  refine r_iload_n (pc := 6) 1 g dX11_tellAgain_6 rfl ?_
  refine r_callVi (pc := 7) (st := []) g hX dX11_tellAgain_7 (m_X11_tellBefore x1 μ2 _ h) kb_RX11_338 kv_X11_tellBefore shX_out sX_0 rfl rfl rfl rfl (fun u3 μ4 h => ?_)
  refine r_istore_n (pc := 10) (lv' := [(2, .int u3), (0, .ref (w.1 0)), (1, .int x1)]) g dX11_tellAgain_10 rfl rfl ?_
  refine r_iload_n (pc := 11) 0 g dX11_tellAgain_11 rfl ?_
  refine r_aload_n (pc := 12) 1 g dX11_tellAgain_12 rfl ?_
  refine r_iload_n (pc := 13) 2 g dX11_tellAgain_13 rfl ?_
  refine r_callVi (pc := 14) (st := [.int u3]) g hX dX11_tellAgain_14 (m_X11_tellRow x1 μ4 _ h) kb_RX11_341 kv_X11_tellRow shX_out sX_0 rfl rfl rfl rfl (fun u5 μ6 h => ?_)
  refine r_iadd (pc := 17) g dX11_tellAgain_17 ?_
  exact r_ireti (pc := 18) g hR dX11_tellAgain_18 h
abbrev rm_X11_tell : Room := { frames := 5, cells := 0, slots := 0, locals := 113 }
def T_X11_tell (x1 : Int32) (μ : Mem) (post : Int32 → Mem → Prop) : Prop :=
  T_X3_has x1 μ (fun (u1 : Int32) (μ2 : Mem) => ((¬ u1 = 0 → vp_in x1 8 ∧ (((μ2 24 x1.toNatClampNeg) = 1 → T_X11_tellBefore x1 μ2 (fun (u5 : Int32) (μ6 : Mem) => post u5 μ6)) ∧ ((μ2 24 x1.toNatClampNeg) = 2 → T_X11_tellAgain x1 μ2 (fun (u7 : Int32) (μ8 : Mem) => post u7 μ8)) ∧ (¬ (μ2 24 x1.toNatClampNeg) = 1 → ¬ (μ2 24 x1.toNatClampNeg) = 2 → T_X11_tellRow x1 μ2 (fun (u9 : Int32) (μ10 : Mem) => post u9 μ10)))) ∧ (u1 = 0 → post (-1) μ2)))
theorem m_X11_tell {w : Wd} {l : Launch} {D : va_G} {A : Nat → Prop} (x1 : Int32) (μ : Mem) (post : Int32 → Mem → Prop) (h : T_X11_tell x1 μ post) : MetX l D A w shX 58 yX11_tell cX11_tell 2 (some .int) rm_X11_tell [.ref (w.1 0), .int x1] μ (pI post) := by
  refine metX_of (by decide) rfl (lv := [(0, .ref (w.1 0)), (1, .int x1)]) rfl (fun X hX g hR => ?_)
  refine r_aload_n (pc := 0) 0 g dX11_tell_0 rfl ?_
  refine r_getr (pc := 1) (μ := μ) g dX11_tell_1 fa_RX11_35 shX_out sX_0 rfl ?_
  refine r_iload_n (pc := 4) 1 g dX11_tell_4 rfl ?_
  refine r_callVi (pc := 5) (st := []) g hX dX11_tell_5 (m_X3_has x1 μ _ h) kb_RX11_196 kv_X3_has shX_out sX_22 rfl rfl rfl rfl (fun u1 μ2 h => ?_)
  refine r_if_ne (pc := 8) 13 g dX11_tell_8 rfl (fun q => ?_) (fun q => ?_)
  · have h := h.1 q
    refine r_aload_n (pc := 13) 0 g dX11_tell_13 rfl ?_
    refine r_getr (pc := 14) (μ := μ2) g dX11_tell_14 fa_RX11_35 shX_out sX_0 rfl ?_
    refine r_getr (pc := 17) (μ := μ2) g dX11_tell_17 fa_RX11_200 shX_out sX_22 rfl ?_
    refine r_iload_n (pc := 20) 1 g dX11_tell_20 rfl ?_
    obtain ⟨b3, h⟩ := h
    refine r_iaload (pc := 21) (μ := μ2) g dX11_tell_21 shX_out sX_24 b3 ?_
    have hs4 := h
    by_cases c0 : (μ2 24 x1.toNatClampNeg) = 1
    · have h := hs4.1 c0
      refine r_lsw (pc := 22) 54 g dX11_tell_22 (by decide) (off := 32) (by rw [c0]; decide) rfl ?_
      refine r_aload_n (pc := 54) 0 g dX11_tell_54 rfl ?_
      refine r_iload_n (pc := 55) 1 g dX11_tell_55 rfl ?_
      refine r_callVi (pc := 56) (st := []) g hX dX11_tell_56 (m_X11_tellBefore x1 μ2 _ h) kb_RX11_338 kv_X11_tellBefore shX_out sX_0 rfl rfl rfl rfl (fun u5 μ6 h => ?_)
      exact r_ireti (pc := 59) g hR dX11_tell_59 h
    by_cases c1 : (μ2 24 x1.toNatClampNeg) = 2
    · have h := hs4.2.1 c1
      refine r_lsw (pc := 22) 48 g dX11_tell_22 (by decide) (off := 26) (by rw [c1]; decide) rfl ?_
      refine r_aload_n (pc := 48) 0 g dX11_tell_48 rfl ?_
      refine r_iload_n (pc := 49) 1 g dX11_tell_49 rfl ?_
      refine r_callVi (pc := 50) (st := []) g hX dX11_tell_50 (m_X11_tellAgain x1 μ2 _ h) kb_RX11_335 kv_X11_tellAgain shX_out sX_0 rfl rfl rfl rfl (fun u7 μ8 h => ?_)
      exact r_ireti (pc := 53) g hR dX11_tell_53 h
    have h := hs4.2.2 c0 c1
    refine r_lsw (pc := 22) 60 g dX11_tell_22 (by decide) (off := 38) (by have e0 := ne_toInt c0 (w := 1) (by decide); have e1 := ne_toInt c1 (w := 2) (by decide); simp [Op.lookupswitch.offset]; omega) rfl ?_
    refine r_aload_n (pc := 60) 0 g dX11_tell_60 rfl ?_
    refine r_iload_n (pc := 61) 1 g dX11_tell_61 rfl ?_
    refine r_callVi (pc := 62) (st := []) g hX dX11_tell_62 (m_X11_tellRow x1 μ2 _ h) kb_RX11_341 kv_X11_tellRow shX_out sX_0 rfl rfl rfl rfl (fun u9 μ10 h => ?_)
    exact r_ireti (pc := 65) g hR dX11_tell_65 h
  · have h := h.2 q
    refine r_iconst (pc := 11) g dX11_tell_11 ci_m1 ?_
    exact r_ireti (pc := 12) g hR dX11_tell_12 h
abbrev rm_X11_show : Room := { frames := 1, cells := 0, slots := 0, locals := 21 }
def T_X11_show_42 (post : Int32 → Mem → Prop) (x1 : Int32) (x2 : Int32) (s0 : Int32) (μ : Mem) : Prop :=
  T_X11_leave s0 μ (fun (μ2 : Mem) => ((x2 = 0 → post x1 μ2) ∧ (¬ x2 = 0 → post 80 μ2)))
theorem v_X11_show_42 {X : Cx} {w : Wd} {l : Launch} {D : va_G} {A : Nat → Prop} (g : Gd X w RX11 cX11_show 3 rm_X11_show) (hX : atX X l D A) (post : Int32 → Mem → Prop) (hR : Rt X w shX 58 (some .int) (pI post)) (x1 : Int32) (x2 : Int32) (s0 : Int32) (μ : Mem) (h : T_X11_show_42 post x1 x2 s0 μ) : V X 42 [(1, .int x1), (2, .int x2)] [.int s0, .ref (w.1 0)] (wls w shX 58 μ) := by
  refine r_callVv (pc := 42) (st := []) g hX dX11_show_42 (m_X11_leave s0 μ _ h) kb_RX11_344 kv_X11_leave shX_out sX_0 rfl rfl rfl rfl (fun μ2 h => ?_)
  refine r_iload_n (pc := 45) 1 g dX11_show_45 rfl ?_
  refine r_if_eq (pc := 46) 54 g dX11_show_46 rfl (fun q => ?_) (fun q => ?_)
  · have h := h.1 q
    refine r_iload_n (pc := 54) 0 g dX11_show_54 rfl ?_
    exact r_ireti (pc := 55) g hR dX11_show_55 h
  · have h := h.2 q
    refine r_bipush (pc := 49) g dX11_show_49 cb_80 ?_
    refine r_goto (pc := 51) 55 g dX11_show_51 rfl ?_
    exact r_ireti (pc := 55) g hR dX11_show_55 h
def T_X11_show_31 (post : Int32 → Mem → Prop) (x1 : Int32) (s0 : Int32) (μ : Mem) : Prop :=
  ((s0 = 0 → T_X11_show_42 post x1 s0 4 μ) ∧ (¬ s0 = 0 → T_X11_show_42 post x1 s0 5 μ))
theorem v_X11_show_31 {X : Cx} {w : Wd} {l : Launch} {D : va_G} {A : Nat → Prop} (g : Gd X w RX11 cX11_show 3 rm_X11_show) (hX : atX X l D A) (post : Int32 → Mem → Prop) (hR : Rt X w shX 58 (some .int) (pI post)) (x1 : Int32) (s0 : Int32) (μ : Mem) (h : T_X11_show_31 post x1 s0 μ) : V X 31 [(0, .ref (w.1 0)), (1, .int x1)] [.int s0] (wls w shX 58 μ) := by
  refine r_istore_n (pc := 31) (lv' := [(2, .int s0), (0, .ref (w.1 0)), (1, .int x1)]) g dX11_show_31 rfl rfl ?_
  refine r_aload_n (pc := 32) 1 g dX11_show_32 rfl ?_
  refine r_iload_n (pc := 33) 0 g dX11_show_33 rfl ?_
  refine r_if_eq (pc := 34) 41 g dX11_show_34 rfl (fun q => ?_) (fun q => ?_)
  · have h := h.1 q
    refine r_iconst (pc := 41) g dX11_show_41 ci_4 ?_
    refine r_sub [2, 0] (lv' := [(1, .int x1), (2, .int s0)]) rfl ?_
    exact v_X11_show_42 g hX post hR x1 s0 4 μ h
  · have h := h.2 q
    refine r_iconst (pc := 37) g dX11_show_37 ci_5 ?_
    refine r_goto (pc := 38) 42 g dX11_show_38 rfl ?_
    refine r_sub [2, 0] (lv' := [(1, .int x1), (2, .int s0)]) rfl ?_
    exact v_X11_show_42 g hX post hR x1 s0 5 μ h
def T_X11_show (x1 : Int32) (μ : Mem) (post : Int32 → Mem → Prop) : Prop :=
  T_X3_has x1 μ (fun (u1 : Int32) (μ2 : Mem) => ((¬ u1 = 0 → vp_in x1 8 ∧ ((¬ (μ2 24 x1.toNatClampNeg) = 2 → T_X11_show_31 post x1 0 μ2) ∧ ((μ2 24 x1.toNatClampNeg) = 2 → T_X11_show_31 post x1 1 μ2))) ∧ (u1 = 0 → post (-1) μ2)))
theorem m_X11_show {w : Wd} {l : Launch} {D : va_G} {A : Nat → Prop} (x1 : Int32) (μ : Mem) (post : Int32 → Mem → Prop) (h : T_X11_show x1 μ post) : MetX l D A w shX 58 yX11_show cX11_show 3 (some .int) rm_X11_show [.ref (w.1 0), .int x1] μ (pI post) := by
  refine metX_of (by decide) rfl (lv := [(0, .ref (w.1 0)), (1, .int x1)]) rfl (fun X hX g hR => ?_)
  refine r_aload_n (pc := 0) 0 g dX11_show_0 rfl ?_
  refine r_getr (pc := 1) (μ := μ) g dX11_show_1 fa_RX11_35 shX_out sX_0 rfl ?_
  refine r_iload_n (pc := 4) 1 g dX11_show_4 rfl ?_
  refine r_callVi (pc := 5) (st := []) g hX dX11_show_5 (m_X3_has x1 μ _ h) kb_RX11_196 kv_X3_has shX_out sX_22 rfl rfl rfl rfl (fun u1 μ2 h => ?_)
  refine r_if_ne (pc := 8) 13 g dX11_show_8 rfl (fun q => ?_) (fun q => ?_)
  · have h := h.1 q
    refine r_aload_n (pc := 13) 0 g dX11_show_13 rfl ?_
    refine r_getr (pc := 14) (μ := μ2) g dX11_show_14 fa_RX11_35 shX_out sX_0 rfl ?_
    refine r_getr (pc := 17) (μ := μ2) g dX11_show_17 fa_RX11_200 shX_out sX_22 rfl ?_
    refine r_iload_n (pc := 20) 1 g dX11_show_20 rfl ?_
    obtain ⟨b3, h⟩ := h
    refine r_iaload (pc := 21) (μ := μ2) g dX11_show_21 shX_out sX_24 b3 ?_
    refine r_iconst (pc := 22) g dX11_show_22 ci_2 ?_
    refine r_icmp_ne (pc := 23) 30 g dX11_show_23 rfl (fun q => ?_) (fun q => ?_)
    · have h := h.1 q
      refine r_iconst (pc := 30) g dX11_show_30 ci_0 ?_
      refine r_sub [0, 1] (lv' := [(0, .ref (w.1 0)), (1, .int x1)]) rfl ?_
      exact v_X11_show_31 g hX post hR x1 0 μ2 h
    · have h := h.2 q
      refine r_iconst (pc := 26) g dX11_show_26 ci_1 ?_
      refine r_goto (pc := 27) 31 g dX11_show_27 rfl ?_
      refine r_sub [0, 1] (lv' := [(0, .ref (w.1 0)), (1, .int x1)]) rfl ?_
      exact v_X11_show_31 g hX post hR x1 1 μ2 h
  · have h := h.2 q
    refine r_iconst (pc := 11) g dX11_show_11 ci_m1 ?_
    exact r_ireti (pc := 12) g hR dX11_show_12 h
abbrev rm_X11_as : Room := { frames := 1, cells := 0, slots := 0, locals := 21 }
def T_X11_as (x1 : Int32) (x2 : Int32) (μ : Mem) (post : Int32 → Mem → Prop) : Prop :=
  T_X3_has x1 (mset μ 0 13 0) (fun (u1 : Int32) (μ2 : Mem) => ((¬ u1 = 0 → T_X11_isKind x2 μ2 (fun (u3 : Int32) (μ4 : Mem) => ((¬ u3 = 0 → vp_in x1 8 ∧ ((x2 ≤ (μ4 24 x1.toNatClampNeg) → post 1 μ4) ∧ (¬ x2 ≤ (μ4 24 x1.toNatClampNeg) → T_X11_faulted 2 μ4 (fun (u6 : Int32) (μ7 : Mem) => post u6 μ7)))) ∧ (u3 = 0 → post (-2) μ4)))) ∧ (u1 = 0 → post (-1) μ2)))
theorem m_X11_as {w : Wd} {l : Launch} {D : va_G} {A : Nat → Prop} (x1 : Int32) (x2 : Int32) (μ : Mem) (post : Int32 → Mem → Prop) (h : T_X11_as x1 x2 μ post) : MetX l D A w shX 58 yX11_as cX11_as 3 (some .int) rm_X11_as [.ref (w.1 0), .int x1, .int x2] μ (pI post) := by
  refine metX_of (by decide) rfl (lv := [(0, .ref (w.1 0)), (1, .int x1), (2, .int x2)]) rfl (fun X hX g hR => ?_)
  refine r_aload_n (pc := 0) 0 g dX11_as_0 rfl ?_
  refine r_iconst (pc := 1) g dX11_as_1 ci_0 ?_
  refine r_puti (pc := 2) (μ := μ) g dX11_as_2 fp_RX11_94 shX_out sX_0 rfl ?_
  refine r_aload_n (pc := 5) 0 g dX11_as_5 rfl ?_
  refine r_getr (pc := 6) (μ := mset μ 0 13 0) g dX11_as_6 fa_RX11_35 shX_out sX_0 rfl ?_
  refine r_iload_n (pc := 9) 1 g dX11_as_9 rfl ?_
  refine r_callVi (pc := 10) (st := []) g hX dX11_as_10 (m_X3_has x1 (mset μ 0 13 0) _ h) kb_RX11_196 kv_X3_has shX_out sX_22 rfl rfl rfl rfl (fun u1 μ2 h => ?_)
  refine r_if_ne (pc := 13) 18 g dX11_as_13 rfl (fun q => ?_) (fun q => ?_)
  · have h := h.1 q
    refine r_iload_n (pc := 18) 2 g dX11_as_18 rfl ?_
    refine r_callSi (pc := 19) (st := []) g hX dX11_as_19 (m_X11_isKind x2 μ2 _ h) kb_RX11_169 k_585 rfl rfl rfl rfl (fun u3 μ4 h => ?_)
    refine r_if_ne (pc := 22) 28 g dX11_as_22 rfl (fun q => ?_) (fun q => ?_)
    · have h := h.1 q
      refine r_aload_n (pc := 28) 0 g dX11_as_28 rfl ?_
      refine r_getr (pc := 29) (μ := μ4) g dX11_as_29 fa_RX11_35 shX_out sX_0 rfl ?_
      refine r_getr (pc := 32) (μ := μ4) g dX11_as_32 fa_RX11_200 shX_out sX_22 rfl ?_
      refine r_iload_n (pc := 35) 1 g dX11_as_35 rfl ?_
      obtain ⟨b5, h⟩ := h
      refine r_iaload (pc := 36) (μ := μ4) g dX11_as_36 shX_out sX_24 b5 ?_
      refine r_iload_n (pc := 37) 2 g dX11_as_37 rfl ?_
      refine r_icmp_ge (pc := 38) 49 g dX11_as_38 rfl (fun q => ?_) (fun q => ?_)
      · have h := h.1 q
        refine r_iconst (pc := 49) g dX11_as_49 ci_1 ?_
        exact r_ireti (pc := 50) g hR dX11_as_50 h
      · have h := h.2 q
        refine r_aload_n (pc := 41) 0 g dX11_as_41 rfl ?_
        refine r_iconst (pc := 42) g dX11_as_42 ci_2 ?_
        refine r_callVi (pc := 43) (st := []) g hX dX11_as_43 (m_X11_faulted 2 μ4 _ h) kb_RX11_109 kv_X11_faulted shX_out sX_0 rfl rfl rfl rfl (fun u6 μ7 h => ?_)
        refine r_goto (pc := 46) 50 g dX11_as_46 rfl ?_
        exact r_ireti (pc := 50) g hR dX11_as_50 h
    · have h := h.2 q
      refine r_bipush (pc := 25) g dX11_as_25 cb_m2 ?_
      exact r_ireti (pc := 27) g hR dX11_as_27 h
  · have h := h.2 q
    refine r_iconst (pc := 16) g dX11_as_16 ci_m1 ?_
    exact r_ireti (pc := 17) g hR dX11_as_17 h
abbrev rm_X11_trace : Room := { frames := 0, cells := 0, slots := 0, locals := 0 }
def T_X11_trace (μ : Mem) (post : Int32 → Mem → Prop) : Prop :=
  post (μ 0 12) μ
theorem m_X11_trace {w : Wd} {l : Launch} {D : va_G} {A : Nat → Prop} (μ : Mem) (post : Int32 → Mem → Prop) (h : T_X11_trace μ post) : MetX l D A w shX 58 yX11_trace cX11_trace 1 (some .int) rm_X11_trace [.ref (w.1 0)] μ (pI post) := by
  refine metX_of (by decide) rfl (lv := [(0, .ref (w.1 0))]) rfl (fun X hX g hR => ?_)
  refine r_aload_n (pc := 0) 0 g dX11_trace_0 rfl ?_
  refine r_geti (pc := 1) (μ := μ) g dX11_trace_1 fa_RX11_348 shX_out sX_0 rfl ?_
  exact r_ireti (pc := 4) g hR dX11_trace_4 h
abbrev rm_X11_fault : Room := { frames := 0, cells := 0, slots := 0, locals := 0 }
def T_X11_fault (μ : Mem) (post : Int32 → Mem → Prop) : Prop :=
  post (μ 0 13) μ
theorem m_X11_fault {w : Wd} {l : Launch} {D : va_G} {A : Nat → Prop} (μ : Mem) (post : Int32 → Mem → Prop) (h : T_X11_fault μ post) : MetX l D A w shX 58 yX11_fault cX11_fault 1 (some .int) rm_X11_fault [.ref (w.1 0)] μ (pI post) := by
  refine metX_of (by decide) rfl (lv := [(0, .ref (w.1 0))]) rfl (fun X hX g hR => ?_)
  refine r_aload_n (pc := 0) 0 g dX11_fault_0 rfl ?_
  refine r_geti (pc := 1) (μ := μ) g dX11_fault_1 fa_RX11_94 shX_out sX_0 rfl ?_
  exact r_ireti (pc := 4) g hR dX11_fault_4 h
abbrev rm_X11_many : Room := { frames := 2, cells := 0, slots := 0, locals := 42 }
def T_X11_many (x1 : Int32) (μ : Mem) (post : Int32 → Mem → Prop) : Prop :=
  ((x1 = 0 → post (μ 13 4) μ) ∧ (x1 = 1 → post (μ 22 2) μ) ∧ (x1 = 2 → T_X10_countBefores μ (fun (u2 : Int32) (μ3 : Mem) => post u2 μ3)) ∧ (x1 = 3 → T_X10_all μ (fun (u4 : Int32) (μ5 : Mem) => T_X10_neededBy u4 μ5 (fun (u6 : Int32) (μ7 : Mem) => T_J6_bitCount_0f7a4 u6 μ7 (fun (u8 : Int32) (μ9 : Mem) => post u8 μ9)))) ∧ (¬ x1 = 0 → ¬ x1 = 1 → ¬ x1 = 2 → ¬ x1 = 3 → post (-2) μ))
theorem m_X11_many {w : Wd} {l : Launch} {D : va_G} {A : Nat → Prop} (x1 : Int32) (μ : Mem) (post : Int32 → Mem → Prop) (h : T_X11_many x1 μ post) : MetX l D A w shX 58 yX11_many cX11_many 2 (some .int) rm_X11_many [.ref (w.1 0), .int x1] μ (pI post) := by
  refine metX_of (by decide) rfl (lv := [(0, .ref (w.1 0)), (1, .int x1)]) rfl (fun X hX g hR => ?_)
  refine r_iload_n (pc := 0) 1 g dX11_many_0 rfl ?_
  have hs1 := h
  by_cases c0 : x1 = 0
  · have h := hs1.1 c0
    refine r_tswK (pc := 1) 0 32 g dX11_many_1 c0 ⟨by decide, by decide, rfl, rfl⟩ ?_
    refine r_aload_n (pc := 32) 0 g dX11_many_32 rfl ?_
    refine r_getr (pc := 33) (μ := μ) g dX11_many_33 fa_RX11_28 shX_out sX_0 rfl ?_
    refine r_geti (pc := 36) (μ := μ) g dX11_many_36 fa_RX11_128 shX_out sX_13 rfl ?_
    exact r_ireti (pc := 39) g hR dX11_many_39 h
  by_cases c1 : x1 = 1
  · have h := hs1.2.1 c1
    refine r_tswK (pc := 1) 1 40 g dX11_many_1 c1 ⟨by decide, by decide, rfl, rfl⟩ ?_
    refine r_aload_n (pc := 40) 0 g dX11_many_40 rfl ?_
    refine r_getr (pc := 41) (μ := μ) g dX11_many_41 fa_RX11_35 shX_out sX_0 rfl ?_
    refine r_geti (pc := 44) (μ := μ) g dX11_many_44 fa_RX11_125 shX_out sX_22 rfl ?_
    exact r_ireti (pc := 47) g hR dX11_many_47 h
  by_cases c2 : x1 = 2
  · have h := hs1.2.2.1 c2
    refine r_tswK (pc := 1) 2 48 g dX11_many_1 c2 ⟨by decide, by decide, rfl, rfl⟩ ?_
    refine r_aload_n (pc := 48) 0 g dX11_many_48 rfl ?_
    refine r_getr (pc := 49) (μ := μ) g dX11_many_49 fa_RX11_28 shX_out sX_0 rfl ?_
    refine r_callVi (pc := 52) (st := []) g hX dX11_many_52 (m_X10_countBefores μ _ h) kb_RX11_351 kv_X10_countBefores shX_out sX_13 rfl rfl rfl rfl (fun u2 μ3 h => ?_)
    exact r_ireti (pc := 55) g hR dX11_many_55 h
  by_cases c3 : x1 = 3
  · have h := hs1.2.2.2.1 c3
    refine r_tswK (pc := 1) 3 56 g dX11_many_1 c3 ⟨by decide, by decide, rfl, rfl⟩ ?_
    refine r_aload_n (pc := 56) 0 g dX11_many_56 rfl ?_
    refine r_getr (pc := 57) (μ := μ) g dX11_many_57 fa_RX11_28 shX_out sX_0 rfl ?_
    refine r_aload_n (pc := 60) 0 g dX11_many_60 rfl ?_
    refine r_getr (pc := 61) (μ := μ) g dX11_many_61 fa_RX11_28 shX_out sX_0 rfl ?_
    refine r_callVi (pc := 64) (st := [.ref (w.1 13)]) g hX dX11_many_64 (m_X10_all μ _ h) kb_RX11_129 kv_X10_all shX_out sX_13 rfl rfl rfl rfl (fun u4 μ5 h => ?_)
    refine r_callVi (pc := 67) (st := []) g hX dX11_many_67 (m_X10_neededBy u4 μ5 _ h) kb_RX11_354 kv_X10_neededBy shX_out sX_13 rfl rfl rfl rfl (fun u6 μ7 h => ?_)
    refine r_callSi (pc := 70) (st := []) g hX dX11_many_70 (m_J6_bitCount_0f7a4 u6 μ7 _ h) kb_RX11_357 k_174 rfl rfl rfl rfl (fun u8 μ9 h => ?_)
    exact r_ireti (pc := 73) g hR dX11_many_73 h
  have h := hs1.2.2.2.2 c0 c1 c2 c3
  refine r_tswD (pc := 1) 74 g dX11_many_1 (by have e0 := ne_toInt c0 (w := 0) (by decide); have e1 := ne_toInt c1 (w := 1) (by decide); have e2 := ne_toInt c2 (w := 2) (by decide); have e3 := ne_toInt c3 (w := 3) (by decide); omega) rfl ?_
  refine r_bipush (pc := 74) g dX11_many_74 cb_m2 ?_
  exact r_ireti (pc := 76) g hR dX11_many_76 h
