theorem dX7_refuse_0 : decode cX7_refuse 0 = .ok (.aload_n 0, 1) := by decide +kernel
theorem dX7_refuse_1 : decode cX7_refuse 1 = .ok (.getfield 34, 3) := by decide +kernel
theorem dX7_refuse_4 : decode cX7_refuse 4 = .ok (.iload_n 1, 1) := by decide +kernel
theorem dX7_refuse_5 : decode cX7_refuse 5 = .ok (.ineg, 1) := by decide +kernel
theorem dX7_refuse_6 : decode cX7_refuse 6 = .ok (.dup2, 1) := by decide +kernel
theorem dX7_refuse_7 : decode cX7_refuse 7 = .ok (.iaload, 1) := by decide +kernel
theorem dX7_refuse_8 : decode cX7_refuse 8 = .ok (.iconst 1, 1) := by decide +kernel
theorem dX7_refuse_9 : decode cX7_refuse 9 = .ok (.iadd, 1) := by decide +kernel
theorem dX7_refuse_10 : decode cX7_refuse 10 = .ok (.iastore, 1) := by decide +kernel
theorem dX7_refuse_11 : decode cX7_refuse 11 = .ok (.iload_n 1, 1) := by decide +kernel
theorem dX7_refuse_12 : decode cX7_refuse 12 = .ok (.ireturn, 1) := by decide +kernel
theorem dX7_in_0 : decode cX7_in 0 = .ok (.lload_n 0, 1) := by decide +kernel
theorem dX7_in_1 : decode cX7_in 1 = .ok (.lload_n 2, 1) := by decide +kernel
theorem dX7_in_2 : decode cX7_in 2 = .ok (.lcmp, 1) := by decide +kernel
theorem dX7_in_3 : decode cX7_in 3 = .ok (.ifCond .lt 14, 3) := by decide +kernel
theorem dX7_in_6 : decode cX7_in 6 = .ok (.lload_n 0, 1) := by decide +kernel
theorem dX7_in_7 : decode cX7_in 7 = .ok (.lload 4, 2) := by decide +kernel
theorem dX7_in_9 : decode cX7_in 9 = .ok (.lcmp, 1) := by decide +kernel
theorem dX7_in_10 : decode cX7_in 10 = .ok (.ifCond .gt 7, 3) := by decide +kernel
theorem dX7_in_13 : decode cX7_in 13 = .ok (.iconst 1, 1) := by decide +kernel
theorem dX7_in_14 : decode cX7_in 14 = .ok (.goto 4, 3) := by decide +kernel
theorem dX7_in_17 : decode cX7_in 17 = .ok (.iconst 0, 1) := by decide +kernel
theorem dX7_in_18 : decode cX7_in 18 = .ok (.ireturn, 1) := by decide +kernel
theorem dX7_isDoor_0 : decode cX7_isDoor 0 = .ok (.iload_n 1, 1) := by decide +kernel
theorem dX7_isDoor_1 : decode cX7_isDoor 1 = .ok (.i2l, 1) := by decide +kernel
theorem dX7_isDoor_2 : decode cX7_isDoor 2 = .ok (.lconst 0, 1) := by decide +kernel
theorem dX7_isDoor_3 : decode cX7_isDoor 3 = .ok (.aload_n 0, 1) := by decide +kernel
theorem dX7_isDoor_4 : decode cX7_isDoor 4 = .ok (.getfield 61, 3) := by decide +kernel
theorem dX7_isDoor_7 : decode cX7_isDoor 7 = .ok (.iconst 1, 1) := by decide +kernel
theorem dX7_isDoor_8 : decode cX7_isDoor 8 = .ok (.isub, 1) := by decide +kernel
theorem dX7_isDoor_9 : decode cX7_isDoor 9 = .ok (.i2l, 1) := by decide +kernel
theorem dX7_isDoor_10 : decode cX7_isDoor 10 = .ok (.invokestatic 64, 3) := by decide +kernel
theorem dX7_isDoor_13 : decode cX7_isDoor 13 = .ok (.ireturn, 1) := by decide +kernel
theorem dX7_isOne_0 : decode cX7_isOne 0 = .ok (.iload_n 1, 1) := by decide +kernel
theorem dX7_isOne_1 : decode cX7_isOne 1 = .ok (.i2l, 1) := by decide +kernel
theorem dX7_isOne_2 : decode cX7_isOne 2 = .ok (.lconst 0, 1) := by decide +kernel
theorem dX7_isOne_3 : decode cX7_isOne 3 = .ok (.aload_n 0, 1) := by decide +kernel
theorem dX7_isOne_4 : decode cX7_isOne 4 = .ok (.getfield 68, 3) := by decide +kernel
theorem dX7_isOne_7 : decode cX7_isOne 7 = .ok (.iconst 1, 1) := by decide +kernel
theorem dX7_isOne_8 : decode cX7_isOne 8 = .ok (.isub, 1) := by decide +kernel
theorem dX7_isOne_9 : decode cX7_isOne 9 = .ok (.i2l, 1) := by decide +kernel
theorem dX7_isOne_10 : decode cX7_isOne 10 = .ok (.invokestatic 64, 3) := by decide +kernel
theorem dX7_isOne_13 : decode cX7_isOne 13 = .ok (.ireturn, 1) := by decide +kernel
theorem dX7_isRoom_0 : decode cX7_isRoom 0 = .ok (.lload_n 0, 1) := by decide +kernel
theorem dX7_isRoom_1 : decode cX7_isRoom 1 = .ok (.lconst 0, 1) := by decide +kernel
theorem dX7_isRoom_2 : decode cX7_isRoom 2 = .ok (.ldc2_w 71, 3) := by decide +kernel
theorem dX7_isRoom_5 : decode cX7_isRoom 5 = .ok (.invokestatic 64, 3) := by decide +kernel
theorem dX7_isRoom_8 : decode cX7_isRoom 8 = .ok (.ireturn, 1) := by decide +kernel
theorem dX7_has_0 : decode cX7_has 0 = .ok (.iload_n 0, 1) := by decide +kernel
theorem dX7_has_1 : decode cX7_has 1 = .ok (.iload_n 1, 1) := by decide +kernel
theorem dX7_has_2 : decode cX7_has 2 = .ok (.ishr, 1) := by decide +kernel
theorem dX7_has_3 : decode cX7_has 3 = .ok (.iconst 1, 1) := by decide +kernel
theorem dX7_has_4 : decode cX7_has 4 = .ok (.iand, 1) := by decide +kernel
theorem dX7_has_5 : decode cX7_has 5 = .ok (.ifCond .eq 7, 3) := by decide +kernel
theorem dX7_has_8 : decode cX7_has 8 = .ok (.iconst 1, 1) := by decide +kernel
theorem dX7_has_9 : decode cX7_has 9 = .ok (.goto 4, 3) := by decide +kernel
theorem dX7_has_12 : decode cX7_has 12 = .ok (.iconst 0, 1) := by decide +kernel
theorem dX7_has_13 : decode cX7_has 13 = .ok (.ireturn, 1) := by decide +kernel
theorem dX7_row_0 : decode cX7_row 0 = .ok (.iload_n 1, 1) := by decide +kernel
theorem dX7_row_1 : decode cX7_row 1 = .ok (.i2l, 1) := by decide +kernel
theorem dX7_row_2 : decode cX7_row 2 = .ok (.lconst 0, 1) := by decide +kernel
theorem dX7_row_3 : decode cX7_row 3 = .ok (.ldc2_w 71, 3) := by decide +kernel
theorem dX7_row_6 : decode cX7_row 6 = .ok (.invokestatic 64, 3) := by decide +kernel
theorem dX7_row_9 : decode cX7_row 9 = .ok (.ifCond .eq 27, 3) := by decide +kernel
theorem dX7_row_12 : decode cX7_row 12 = .ok (.iload_n 2, 1) := by decide +kernel
theorem dX7_row_13 : decode cX7_row 13 = .ok (.i2l, 1) := by decide +kernel
theorem dX7_row_14 : decode cX7_row 14 = .ok (.lconst 0, 1) := by decide +kernel
theorem dX7_row_15 : decode cX7_row 15 = .ok (.ldc2_w 73, 3) := by decide +kernel
theorem dX7_row_18 : decode cX7_row 18 = .ok (.invokestatic 64, 3) := by decide +kernel
theorem dX7_row_21 : decode cX7_row 21 = .ok (.ifCond .eq 15, 3) := by decide +kernel
theorem dX7_row_24 : decode cX7_row 24 = .ok (.iload_n 3, 1) := by decide +kernel
theorem dX7_row_25 : decode cX7_row 25 = .ok (.i2l, 1) := by decide +kernel
theorem dX7_row_26 : decode cX7_row 26 = .ok (.lconst 0, 1) := by decide +kernel
theorem dX7_row_27 : decode cX7_row 27 = .ok (.ldc2_w 75, 3) := by decide +kernel
theorem dX7_row_30 : decode cX7_row 30 = .ok (.invokestatic 64, 3) := by decide +kernel
theorem dX7_row_33 : decode cX7_row 33 = .ok (.ifCond .ne 10, 3) := by decide +kernel
theorem dX7_row_36 : decode cX7_row 36 = .ok (.aload_n 0, 1) := by decide +kernel
theorem dX7_row_37 : decode cX7_row 37 = .ok (.bipush (-2), 2) := by decide +kernel
theorem dX7_row_39 : decode cX7_row 39 = .ok (.invokevirtual 77, 3) := by decide +kernel
theorem dX7_row_42 : decode cX7_row 42 = .ok (.ireturn, 1) := by decide +kernel
theorem dX7_row_43 : decode cX7_row 43 = .ok (.aload_n 0, 1) := by decide +kernel
theorem dX7_row_44 : decode cX7_row 44 = .ok (.getfield 7, 3) := by decide +kernel
theorem dX7_row_47 : decode cX7_row 47 = .ok (.iload_n 1, 1) := by decide +kernel
theorem dX7_row_48 : decode cX7_row 48 = .ok (.iconst 1, 1) := by decide +kernel
theorem dX7_row_49 : decode cX7_row 49 = .ok (.iastore, 1) := by decide +kernel
theorem dX7_row_50 : decode cX7_row 50 = .ok (.aload_n 0, 1) := by decide +kernel
theorem dX7_row_51 : decode cX7_row 51 = .ok (.getfield 13, 3) := by decide +kernel
theorem dX7_row_54 : decode cX7_row 54 = .ok (.iload_n 1, 1) := by decide +kernel
theorem dX7_row_55 : decode cX7_row 55 = .ok (.iload_n 2, 1) := by decide +kernel
theorem dX7_row_56 : decode cX7_row 56 = .ok (.iastore, 1) := by decide +kernel
theorem dX7_row_57 : decode cX7_row 57 = .ok (.aload_n 0, 1) := by decide +kernel
theorem dX7_row_58 : decode cX7_row 58 = .ok (.getfield 16, 3) := by decide +kernel
theorem dX7_row_61 : decode cX7_row 61 = .ok (.iload_n 1, 1) := by decide +kernel
theorem dX7_row_62 : decode cX7_row 62 = .ok (.iload_n 3, 1) := by decide +kernel
theorem dX7_row_63 : decode cX7_row 63 = .ok (.iastore, 1) := by decide +kernel
theorem dX7_row_64 : decode cX7_row 64 = .ok (.iconst 0, 1) := by decide +kernel
theorem dX7_row_65 : decode cX7_row 65 = .ok (.istore 4, 2) := by decide +kernel
theorem dX7_row_67 : decode cX7_row 67 = .ok (.iload 4, 2) := by decide +kernel
theorem dX7_row_69 : decode cX7_row 69 = .ok (.bipush 40, 2) := by decide +kernel
theorem dX7_row_71 : decode cX7_row 71 = .ok (.if_icmp .ge 19, 3) := by decide +kernel
theorem dX7_row_74 : decode cX7_row 74 = .ok (.aload_n 0, 1) := by decide +kernel
theorem dX7_row_75 : decode cX7_row 75 = .ok (.getfield 21, 3) := by decide +kernel
theorem dX7_row_78 : decode cX7_row 78 = .ok (.iload_n 1, 1) := by decide +kernel
theorem dX7_row_79 : decode cX7_row 79 = .ok (.aaload, 1) := by decide +kernel
theorem dX7_row_80 : decode cX7_row 80 = .ok (.iload 4, 2) := by decide +kernel
theorem dX7_row_82 : decode cX7_row 82 = .ok (.lconst 0, 1) := by decide +kernel
theorem dX7_row_83 : decode cX7_row 83 = .ok (.lastore, 1) := by decide +kernel
theorem dX7_row_84 : decode cX7_row 84 = .ok (.iinc 4 1, 3) := by decide +kernel
theorem dX7_row_87 : decode cX7_row 87 = .ok (.goto (-20), 3) := by decide +kernel
theorem dX7_row_90 : decode cX7_row 90 = .ok (.iconst 1, 1) := by decide +kernel
theorem dX7_row_91 : decode cX7_row 91 = .ok (.ireturn, 1) := by decide +kernel
theorem dX7_fit_0 : decode cX7_fit 0 = .ok (.iload_n 0, 1) := by decide +kernel
theorem dX7_fit_1 : decode cX7_fit 1 = .ok (.tableswitch 47 0 3 #[31, 36, 41, 45], 31) := by decide +kernel
theorem dX7_fit_32 : decode cX7_fit 32 = .ok (.lload_n 1, 1) := by decide +kernel
theorem dX7_fit_33 : decode cX7_fit 33 = .ok (.l2i, 1) := by decide +kernel
theorem dX7_fit_34 : decode cX7_fit 34 = .ok (.i2b, 1) := by decide +kernel
theorem dX7_fit_35 : decode cX7_fit 35 = .ok (.i2l, 1) := by decide +kernel
theorem dX7_fit_36 : decode cX7_fit 36 = .ok (.lreturn, 1) := by decide +kernel
theorem dX7_fit_37 : decode cX7_fit 37 = .ok (.lload_n 1, 1) := by decide +kernel
theorem dX7_fit_38 : decode cX7_fit 38 = .ok (.l2i, 1) := by decide +kernel
theorem dX7_fit_39 : decode cX7_fit 39 = .ok (.i2s, 1) := by decide +kernel
theorem dX7_fit_40 : decode cX7_fit 40 = .ok (.i2l, 1) := by decide +kernel
theorem dX7_fit_41 : decode cX7_fit 41 = .ok (.lreturn, 1) := by decide +kernel
theorem dX7_fit_42 : decode cX7_fit 42 = .ok (.lload_n 1, 1) := by decide +kernel
theorem dX7_fit_43 : decode cX7_fit 43 = .ok (.l2i, 1) := by decide +kernel
theorem dX7_fit_44 : decode cX7_fit 44 = .ok (.i2l, 1) := by decide +kernel
theorem dX7_fit_45 : decode cX7_fit 45 = .ok (.lreturn, 1) := by decide +kernel
theorem dX7_fit_46 : decode cX7_fit 46 = .ok (.lload_n 1, 1) := by decide +kernel
theorem dX7_fit_47 : decode cX7_fit 47 = .ok (.lreturn, 1) := by decide +kernel
theorem dX7_fit_48 : decode cX7_fit 48 = .ok (.lload_n 1, 1) := by decide +kernel
theorem dX7_fit_49 : decode cX7_fit 49 = .ok (.lconst 0, 1) := by decide +kernel
theorem dX7_fit_50 : decode cX7_fit 50 = .ok (.lcmp, 1) := by decide +kernel
theorem dX7_fit_51 : decode cX7_fit 51 = .ok (.ifCond .eq 7, 3) := by decide +kernel
theorem dX7_fit_54 : decode cX7_fit 54 = .ok (.lconst 1, 1) := by decide +kernel
theorem dX7_fit_55 : decode cX7_fit 55 = .ok (.goto 4, 3) := by decide +kernel
theorem dX7_fit_58 : decode cX7_fit 58 = .ok (.lconst 0, 1) := by decide +kernel
theorem dX7_fit_59 : decode cX7_fit 59 = .ok (.lreturn, 1) := by decide +kernel
theorem dX7_noRow_0 : decode cX7_noRow 0 = .ok (.iload_n 1, 1) := by decide +kernel
theorem dX7_noRow_1 : decode cX7_noRow 1 = .ok (.i2l, 1) := by decide +kernel
theorem dX7_noRow_2 : decode cX7_noRow 2 = .ok (.lconst 0, 1) := by decide +kernel
theorem dX7_noRow_3 : decode cX7_noRow 3 = .ok (.ldc2_w 71, 3) := by decide +kernel
theorem dX7_noRow_6 : decode cX7_noRow 6 = .ok (.invokestatic 64, 3) := by decide +kernel
theorem dX7_noRow_9 : decode cX7_noRow 9 = .ok (.ifCond .ne 10, 3) := by decide +kernel
theorem dX7_noRow_12 : decode cX7_noRow 12 = .ok (.aload_n 0, 1) := by decide +kernel
theorem dX7_noRow_13 : decode cX7_noRow 13 = .ok (.bipush (-2), 2) := by decide +kernel
theorem dX7_noRow_15 : decode cX7_noRow 15 = .ok (.invokevirtual 77, 3) := by decide +kernel
theorem dX7_noRow_18 : decode cX7_noRow 18 = .ok (.ireturn, 1) := by decide +kernel
theorem dX7_noRow_19 : decode cX7_noRow 19 = .ok (.aload_n 0, 1) := by decide +kernel
theorem dX7_noRow_20 : decode cX7_noRow 20 = .ok (.getfield 7, 3) := by decide +kernel
theorem dX7_noRow_23 : decode cX7_noRow 23 = .ok (.iload_n 1, 1) := by decide +kernel
theorem dX7_noRow_24 : decode cX7_noRow 24 = .ok (.iaload, 1) := by decide +kernel
theorem dX7_noRow_25 : decode cX7_noRow 25 = .ok (.iconst 2, 1) := by decide +kernel
theorem dX7_noRow_26 : decode cX7_noRow 26 = .ok (.if_icmp .ne 10, 3) := by decide +kernel
theorem dX7_noRow_29 : decode cX7_noRow 29 = .ok (.aload_n 0, 1) := by decide +kernel
theorem dX7_noRow_30 : decode cX7_noRow 30 = .ok (.bipush (-3), 2) := by decide +kernel
theorem dX7_noRow_32 : decode cX7_noRow 32 = .ok (.invokevirtual 77, 3) := by decide +kernel
theorem dX7_noRow_35 : decode cX7_noRow 35 = .ok (.ireturn, 1) := by decide +kernel
theorem dX7_noRow_36 : decode cX7_noRow 36 = .ok (.aload_n 0, 1) := by decide +kernel
theorem dX7_noRow_37 : decode cX7_noRow 37 = .ok (.getfield 7, 3) := by decide +kernel
theorem dX7_noRow_40 : decode cX7_noRow 40 = .ok (.iload_n 1, 1) := by decide +kernel
theorem dX7_noRow_41 : decode cX7_noRow 41 = .ok (.iaload, 1) := by decide +kernel
theorem dX7_noRow_42 : decode cX7_noRow 42 = .ok (.ifCond .ne 12, 3) := by decide +kernel
theorem dX7_noRow_45 : decode cX7_noRow 45 = .ok (.aload_n 0, 1) := by decide +kernel
theorem dX7_noRow_46 : decode cX7_noRow 46 = .ok (.bipush (-4), 2) := by decide +kernel
theorem dX7_noRow_48 : decode cX7_noRow 48 = .ok (.invokevirtual 77, 3) := by decide +kernel
theorem dX7_noRow_51 : decode cX7_noRow 51 = .ok (.goto 4, 3) := by decide +kernel
theorem dX7_noRow_54 : decode cX7_noRow 54 = .ok (.iconst 0, 1) := by decide +kernel
theorem dX7_noRow_55 : decode cX7_noRow 55 = .ok (.ireturn, 1) := by decide +kernel
theorem dX7_set_0 : decode cX7_set 0 = .ok (.aload_n 0, 1) := by decide +kernel
theorem dX7_set_1 : decode cX7_set 1 = .ok (.iload_n 1, 1) := by decide +kernel
theorem dX7_set_2 : decode cX7_set 2 = .ok (.invokevirtual 81, 3) := by decide +kernel
theorem dX7_set_5 : decode cX7_set 5 = .ok (.istore 5, 2) := by decide +kernel
theorem dX7_set_7 : decode cX7_set 7 = .ok (.iload 5, 2) := by decide +kernel
theorem dX7_set_9 : decode cX7_set 9 = .ok (.ifCond .eq 6, 3) := by decide +kernel
theorem dX7_set_12 : decode cX7_set 12 = .ok (.iload 5, 2) := by decide +kernel
theorem dX7_set_14 : decode cX7_set 14 = .ok (.ireturn, 1) := by decide +kernel
theorem dX7_set_15 : decode cX7_set 15 = .ok (.iload_n 2, 1) := by decide +kernel
theorem dX7_set_16 : decode cX7_set 16 = .ok (.i2l, 1) := by decide +kernel
theorem dX7_set_17 : decode cX7_set 17 = .ok (.lconst 0, 1) := by decide +kernel
theorem dX7_set_18 : decode cX7_set 18 = .ok (.aload_n 0, 1) := by decide +kernel
theorem dX7_set_19 : decode cX7_set 19 = .ok (.getfield 16, 3) := by decide +kernel
theorem dX7_set_22 : decode cX7_set 22 = .ok (.iload_n 1, 1) := by decide +kernel
theorem dX7_set_23 : decode cX7_set 23 = .ok (.iaload, 1) := by decide +kernel
theorem dX7_set_24 : decode cX7_set 24 = .ok (.iconst 1, 1) := by decide +kernel
theorem dX7_set_25 : decode cX7_set 25 = .ok (.isub, 1) := by decide +kernel
theorem dX7_set_26 : decode cX7_set 26 = .ok (.i2l, 1) := by decide +kernel
theorem dX7_set_27 : decode cX7_set 27 = .ok (.invokestatic 64, 3) := by decide +kernel
theorem dX7_set_30 : decode cX7_set 30 = .ok (.ifCond .ne 10, 3) := by decide +kernel
theorem dX7_set_33 : decode cX7_set 33 = .ok (.aload_n 0, 1) := by decide +kernel
theorem dX7_set_34 : decode cX7_set 34 = .ok (.bipush (-2), 2) := by decide +kernel
theorem dX7_set_36 : decode cX7_set 36 = .ok (.invokevirtual 77, 3) := by decide +kernel
theorem dX7_set_39 : decode cX7_set 39 = .ok (.ireturn, 1) := by decide +kernel
theorem dX7_set_40 : decode cX7_set 40 = .ok (.aload_n 0, 1) := by decide +kernel
theorem dX7_set_41 : decode cX7_set 41 = .ok (.getfield 21, 3) := by decide +kernel
theorem dX7_set_44 : decode cX7_set 44 = .ok (.iload_n 1, 1) := by decide +kernel
theorem dX7_set_45 : decode cX7_set 45 = .ok (.aaload, 1) := by decide +kernel
theorem dX7_set_46 : decode cX7_set 46 = .ok (.iload_n 2, 1) := by decide +kernel
theorem dX7_set_47 : decode cX7_set 47 = .ok (.aload_n 0, 1) := by decide +kernel
theorem dX7_set_48 : decode cX7_set 48 = .ok (.getfield 13, 3) := by decide +kernel
theorem dX7_set_51 : decode cX7_set 51 = .ok (.iload_n 1, 1) := by decide +kernel
theorem dX7_set_52 : decode cX7_set 52 = .ok (.iaload, 1) := by decide +kernel
theorem dX7_set_53 : decode cX7_set 53 = .ok (.lload_n 3, 1) := by decide +kernel
theorem dX7_set_54 : decode cX7_set 54 = .ok (.invokestatic 84, 3) := by decide +kernel
theorem dX7_set_57 : decode cX7_set 57 = .ok (.lastore, 1) := by decide +kernel
theorem dX7_set_58 : decode cX7_set 58 = .ok (.iconst 1, 1) := by decide +kernel
theorem dX7_set_59 : decode cX7_set 59 = .ok (.ireturn, 1) := by decide +kernel
theorem dX7_copy_0 : decode cX7_copy 0 = .ok (.iload_n 1, 1) := by decide +kernel
theorem dX7_copy_1 : decode cX7_copy 1 = .ok (.i2l, 1) := by decide +kernel
theorem dX7_copy_2 : decode cX7_copy 2 = .ok (.lconst 0, 1) := by decide +kernel
theorem dX7_copy_3 : decode cX7_copy 3 = .ok (.ldc2_w 71, 3) := by decide +kernel
theorem dX7_copy_6 : decode cX7_copy 6 = .ok (.invokestatic 64, 3) := by decide +kernel
theorem dX7_copy_9 : decode cX7_copy 9 = .ok (.ifCond .eq 15, 3) := by decide +kernel
theorem dX7_copy_12 : decode cX7_copy 12 = .ok (.iload_n 2, 1) := by decide +kernel
theorem dX7_copy_13 : decode cX7_copy 13 = .ok (.i2l, 1) := by decide +kernel
theorem dX7_copy_14 : decode cX7_copy 14 = .ok (.lconst 0, 1) := by decide +kernel
theorem dX7_copy_15 : decode cX7_copy 15 = .ok (.ldc2_w 71, 3) := by decide +kernel
theorem dX7_copy_18 : decode cX7_copy 18 = .ok (.invokestatic 64, 3) := by decide +kernel
theorem dX7_copy_21 : decode cX7_copy 21 = .ok (.ifCond .ne 10, 3) := by decide +kernel
theorem dX7_copy_24 : decode cX7_copy 24 = .ok (.aload_n 0, 1) := by decide +kernel
theorem dX7_copy_25 : decode cX7_copy 25 = .ok (.bipush (-2), 2) := by decide +kernel
theorem dX7_copy_27 : decode cX7_copy 27 = .ok (.invokevirtual 77, 3) := by decide +kernel
theorem dX7_copy_30 : decode cX7_copy 30 = .ok (.ireturn, 1) := by decide +kernel
theorem dX7_copy_31 : decode cX7_copy 31 = .ok (.aload_n 0, 1) := by decide +kernel
theorem dX7_copy_32 : decode cX7_copy 32 = .ok (.getfield 7, 3) := by decide +kernel
theorem dX7_copy_35 : decode cX7_copy 35 = .ok (.iload_n 1, 1) := by decide +kernel
theorem dX7_copy_36 : decode cX7_copy 36 = .ok (.iaload, 1) := by decide +kernel
theorem dX7_copy_37 : decode cX7_copy 37 = .ok (.iconst 2, 1) := by decide +kernel
theorem dX7_copy_38 : decode cX7_copy 38 = .ok (.if_icmp .eq 48, 3) := by decide +kernel
theorem dX7_copy_41 : decode cX7_copy 41 = .ok (.aload_n 0, 1) := by decide +kernel
theorem dX7_copy_42 : decode cX7_copy 42 = .ok (.getfield 7, 3) := by decide +kernel
theorem dX7_copy_45 : decode cX7_copy 45 = .ok (.iload_n 2, 1) := by decide +kernel
theorem dX7_copy_46 : decode cX7_copy 46 = .ok (.iaload, 1) := by decide +kernel
theorem dX7_copy_47 : decode cX7_copy 47 = .ok (.iconst 2, 1) := by decide +kernel
theorem dX7_copy_48 : decode cX7_copy 48 = .ok (.if_icmp .eq 38, 3) := by decide +kernel
theorem dX7_copy_51 : decode cX7_copy 51 = .ok (.aload_n 0, 1) := by decide +kernel
theorem dX7_copy_52 : decode cX7_copy 52 = .ok (.getfield 7, 3) := by decide +kernel
theorem dX7_copy_55 : decode cX7_copy 55 = .ok (.iload_n 1, 1) := by decide +kernel
theorem dX7_copy_56 : decode cX7_copy 56 = .ok (.iaload, 1) := by decide +kernel
theorem dX7_copy_57 : decode cX7_copy 57 = .ok (.iconst 1, 1) := by decide +kernel
theorem dX7_copy_58 : decode cX7_copy 58 = .ok (.if_icmp .ne 35, 3) := by decide +kernel
theorem dX7_copy_61 : decode cX7_copy 61 = .ok (.aload_n 0, 1) := by decide +kernel
theorem dX7_copy_62 : decode cX7_copy 62 = .ok (.getfield 7, 3) := by decide +kernel
theorem dX7_copy_65 : decode cX7_copy 65 = .ok (.iload_n 2, 1) := by decide +kernel
theorem dX7_copy_66 : decode cX7_copy 66 = .ok (.iaload, 1) := by decide +kernel
theorem dX7_copy_67 : decode cX7_copy 67 = .ok (.iconst 1, 1) := by decide +kernel
theorem dX7_copy_68 : decode cX7_copy 68 = .ok (.if_icmp .ne 25, 3) := by decide +kernel
theorem dX7_copy_71 : decode cX7_copy 71 = .ok (.aload_n 0, 1) := by decide +kernel
theorem dX7_copy_72 : decode cX7_copy 72 = .ok (.getfield 13, 3) := by decide +kernel
theorem dX7_copy_75 : decode cX7_copy 75 = .ok (.iload_n 1, 1) := by decide +kernel
theorem dX7_copy_76 : decode cX7_copy 76 = .ok (.iaload, 1) := by decide +kernel
theorem dX7_copy_77 : decode cX7_copy 77 = .ok (.aload_n 0, 1) := by decide +kernel
theorem dX7_copy_78 : decode cX7_copy 78 = .ok (.getfield 13, 3) := by decide +kernel
theorem dX7_copy_81 : decode cX7_copy 81 = .ok (.iload_n 2, 1) := by decide +kernel
theorem dX7_copy_82 : decode cX7_copy 82 = .ok (.iaload, 1) := by decide +kernel
theorem dX7_copy_83 : decode cX7_copy 83 = .ok (.if_icmp .eq 10, 3) := by decide +kernel
theorem dX7_copy_86 : decode cX7_copy 86 = .ok (.aload_n 0, 1) := by decide +kernel
theorem dX7_copy_87 : decode cX7_copy 87 = .ok (.bipush (-3), 2) := by decide +kernel
theorem dX7_copy_89 : decode cX7_copy 89 = .ok (.invokevirtual 77, 3) := by decide +kernel
theorem dX7_copy_92 : decode cX7_copy 92 = .ok (.ireturn, 1) := by decide +kernel
theorem dX7_copy_93 : decode cX7_copy 93 = .ok (.aload_n 0, 1) := by decide +kernel
theorem dX7_copy_94 : decode cX7_copy 94 = .ok (.getfield 7, 3) := by decide +kernel
theorem dX7_copy_97 : decode cX7_copy 97 = .ok (.iload_n 1, 1) := by decide +kernel
theorem dX7_copy_98 : decode cX7_copy 98 = .ok (.iaload, 1) := by decide +kernel
theorem dX7_copy_99 : decode cX7_copy 99 = .ok (.ifCond .eq 12, 3) := by decide +kernel
theorem dX7_copy_102 : decode cX7_copy 102 = .ok (.aload_n 0, 1) := by decide +kernel
theorem dX7_copy_103 : decode cX7_copy 103 = .ok (.getfield 7, 3) := by decide +kernel
theorem dX7_copy_106 : decode cX7_copy 106 = .ok (.iload_n 2, 1) := by decide +kernel
theorem dX7_copy_107 : decode cX7_copy 107 = .ok (.iaload, 1) := by decide +kernel
theorem dX7_copy_108 : decode cX7_copy 108 = .ok (.ifCond .ne 10, 3) := by decide +kernel
theorem dX7_copy_111 : decode cX7_copy 111 = .ok (.aload_n 0, 1) := by decide +kernel
theorem dX7_copy_112 : decode cX7_copy 112 = .ok (.bipush (-4), 2) := by decide +kernel
theorem dX7_copy_114 : decode cX7_copy 114 = .ok (.invokevirtual 77, 3) := by decide +kernel
theorem dX7_copy_117 : decode cX7_copy 117 = .ok (.ireturn, 1) := by decide +kernel
theorem dX7_copy_118 : decode cX7_copy 118 = .ok (.iload 5, 2) := by decide +kernel
theorem dX7_copy_120 : decode cX7_copy 120 = .ok (.ifCond .lt 61, 3) := by decide +kernel
theorem dX7_copy_123 : decode cX7_copy 123 = .ok (.iload_n 3, 1) := by decide +kernel
theorem dX7_copy_124 : decode cX7_copy 124 = .ok (.ifCond .lt 57, 3) := by decide +kernel
theorem dX7_copy_127 : decode cX7_copy 127 = .ok (.iload 4, 2) := by decide +kernel
theorem dX7_copy_129 : decode cX7_copy 129 = .ok (.ifCond .lt 52, 3) := by decide +kernel
theorem dX7_copy_132 : decode cX7_copy 132 = .ok (.iload 5, 2) := by decide +kernel
theorem dX7_copy_134 : decode cX7_copy 134 = .ok (.aload_n 0, 1) := by decide +kernel
theorem dX7_copy_135 : decode cX7_copy 135 = .ok (.getfield 16, 3) := by decide +kernel
theorem dX7_copy_138 : decode cX7_copy 138 = .ok (.iload_n 1, 1) := by decide +kernel
theorem dX7_copy_139 : decode cX7_copy 139 = .ok (.iaload, 1) := by decide +kernel
theorem dX7_copy_140 : decode cX7_copy 140 = .ok (.if_icmp .gt 41, 3) := by decide +kernel
theorem dX7_copy_143 : decode cX7_copy 143 = .ok (.iload 5, 2) := by decide +kernel
theorem dX7_copy_145 : decode cX7_copy 145 = .ok (.aload_n 0, 1) := by decide +kernel
theorem dX7_copy_146 : decode cX7_copy 146 = .ok (.getfield 16, 3) := by decide +kernel
theorem dX7_copy_149 : decode cX7_copy 149 = .ok (.iload_n 2, 1) := by decide +kernel
theorem dX7_copy_150 : decode cX7_copy 150 = .ok (.iaload, 1) := by decide +kernel
theorem dX7_copy_151 : decode cX7_copy 151 = .ok (.if_icmp .gt 30, 3) := by decide +kernel
theorem dX7_copy_154 : decode cX7_copy 154 = .ok (.iload_n 3, 1) := by decide +kernel
theorem dX7_copy_155 : decode cX7_copy 155 = .ok (.aload_n 0, 1) := by decide +kernel
theorem dX7_copy_156 : decode cX7_copy 156 = .ok (.getfield 16, 3) := by decide +kernel
theorem dX7_copy_159 : decode cX7_copy 159 = .ok (.iload_n 1, 1) := by decide +kernel
theorem dX7_copy_160 : decode cX7_copy 160 = .ok (.iaload, 1) := by decide +kernel
theorem dX7_copy_161 : decode cX7_copy 161 = .ok (.iload 5, 2) := by decide +kernel
theorem dX7_copy_163 : decode cX7_copy 163 = .ok (.isub, 1) := by decide +kernel
theorem dX7_copy_164 : decode cX7_copy 164 = .ok (.if_icmp .gt 17, 3) := by decide +kernel
theorem dX7_copy_167 : decode cX7_copy 167 = .ok (.iload 4, 2) := by decide +kernel
theorem dX7_copy_169 : decode cX7_copy 169 = .ok (.aload_n 0, 1) := by decide +kernel
theorem dX7_copy_170 : decode cX7_copy 170 = .ok (.getfield 16, 3) := by decide +kernel
theorem dX7_copy_173 : decode cX7_copy 173 = .ok (.iload_n 2, 1) := by decide +kernel
theorem dX7_copy_174 : decode cX7_copy 174 = .ok (.iaload, 1) := by decide +kernel
theorem dX7_copy_175 : decode cX7_copy 175 = .ok (.iload 5, 2) := by decide +kernel
theorem dX7_copy_177 : decode cX7_copy 177 = .ok (.isub, 1) := by decide +kernel
theorem dX7_copy_178 : decode cX7_copy 178 = .ok (.if_icmp .le 10, 3) := by decide +kernel
theorem dX7_copy_181 : decode cX7_copy 181 = .ok (.aload_n 0, 1) := by decide +kernel
theorem dX7_copy_182 : decode cX7_copy 182 = .ok (.bipush (-2), 2) := by decide +kernel
theorem dX7_copy_184 : decode cX7_copy 184 = .ok (.invokevirtual 77, 3) := by decide +kernel
theorem dX7_copy_187 : decode cX7_copy 187 = .ok (.ireturn, 1) := by decide +kernel
theorem dX7_copy_188 : decode cX7_copy 188 = .ok (.iconst 0, 1) := by decide +kernel
theorem dX7_copy_189 : decode cX7_copy 189 = .ok (.istore 6, 2) := by decide +kernel
theorem dX7_copy_191 : decode cX7_copy 191 = .ok (.iload 6, 2) := by decide +kernel
theorem dX7_copy_193 : decode cX7_copy 193 = .ok (.iload 5, 2) := by decide +kernel
theorem dX7_copy_195 : decode cX7_copy 195 = .ok (.if_icmp .ge 27, 3) := by decide +kernel
theorem dX7_copy_198 : decode cX7_copy 198 = .ok (.aload_n 0, 1) := by decide +kernel
theorem dX7_copy_199 : decode cX7_copy 199 = .ok (.getfield 24, 3) := by decide +kernel
theorem dX7_copy_202 : decode cX7_copy 202 = .ok (.iload 6, 2) := by decide +kernel
theorem dX7_copy_204 : decode cX7_copy 204 = .ok (.aload_n 0, 1) := by decide +kernel
theorem dX7_copy_205 : decode cX7_copy 205 = .ok (.getfield 21, 3) := by decide +kernel
theorem dX7_copy_208 : decode cX7_copy 208 = .ok (.iload_n 1, 1) := by decide +kernel
theorem dX7_copy_209 : decode cX7_copy 209 = .ok (.aaload, 1) := by decide +kernel
theorem dX7_copy_210 : decode cX7_copy 210 = .ok (.iload_n 3, 1) := by decide +kernel
theorem dX7_copy_211 : decode cX7_copy 211 = .ok (.iload 6, 2) := by decide +kernel
theorem dX7_copy_213 : decode cX7_copy 213 = .ok (.iadd, 1) := by decide +kernel
theorem dX7_copy_214 : decode cX7_copy 214 = .ok (.laload, 1) := by decide +kernel
theorem dX7_copy_215 : decode cX7_copy 215 = .ok (.lastore, 1) := by decide +kernel
theorem dX7_copy_216 : decode cX7_copy 216 = .ok (.iinc 6 1, 3) := by decide +kernel
theorem dX7_copy_219 : decode cX7_copy 219 = .ok (.goto (-28), 3) := by decide +kernel
theorem dX7_copy_222 : decode cX7_copy 222 = .ok (.iconst 0, 1) := by decide +kernel
theorem dX7_copy_223 : decode cX7_copy 223 = .ok (.istore 6, 2) := by decide +kernel
theorem dX7_copy_225 : decode cX7_copy 225 = .ok (.iload 6, 2) := by decide +kernel
theorem dX7_copy_227 : decode cX7_copy 227 = .ok (.iload 5, 2) := by decide +kernel
theorem dX7_copy_229 : decode cX7_copy 229 = .ok (.if_icmp .ge 28, 3) := by decide +kernel
theorem dX7_copy_232 : decode cX7_copy 232 = .ok (.aload_n 0, 1) := by decide +kernel
theorem dX7_copy_233 : decode cX7_copy 233 = .ok (.getfield 21, 3) := by decide +kernel
theorem dX7_copy_236 : decode cX7_copy 236 = .ok (.iload_n 2, 1) := by decide +kernel
theorem dX7_copy_237 : decode cX7_copy 237 = .ok (.aaload, 1) := by decide +kernel
theorem dX7_copy_238 : decode cX7_copy 238 = .ok (.iload 4, 2) := by decide +kernel
theorem dX7_copy_240 : decode cX7_copy 240 = .ok (.iload 6, 2) := by decide +kernel
theorem dX7_copy_242 : decode cX7_copy 242 = .ok (.iadd, 1) := by decide +kernel
theorem dX7_copy_243 : decode cX7_copy 243 = .ok (.aload_n 0, 1) := by decide +kernel
theorem dX7_copy_244 : decode cX7_copy 244 = .ok (.getfield 24, 3) := by decide +kernel
theorem dX7_copy_247 : decode cX7_copy 247 = .ok (.iload 6, 2) := by decide +kernel
theorem dX7_copy_249 : decode cX7_copy 249 = .ok (.laload, 1) := by decide +kernel
theorem dX7_copy_250 : decode cX7_copy 250 = .ok (.lastore, 1) := by decide +kernel
theorem dX7_copy_251 : decode cX7_copy 251 = .ok (.iinc 6 1, 3) := by decide +kernel
theorem dX7_copy_254 : decode cX7_copy 254 = .ok (.goto (-29), 3) := by decide +kernel
theorem dX7_copy_257 : decode cX7_copy 257 = .ok (.iload 5, 2) := by decide +kernel
theorem dX7_copy_259 : decode cX7_copy 259 = .ok (.ireturn, 1) := by decide +kernel
theorem dX7_element_0 : decode cX7_element 0 = .ok (.iload_n 1, 1) := by decide +kernel
theorem dX7_element_1 : decode cX7_element 1 = .ok (.i2l, 1) := by decide +kernel
theorem dX7_element_2 : decode cX7_element 2 = .ok (.lconst 0, 1) := by decide +kernel
theorem dX7_element_3 : decode cX7_element 3 = .ok (.ldc2_w 71, 3) := by decide +kernel
theorem dX7_element_6 : decode cX7_element 6 = .ok (.invokestatic 64, 3) := by decide +kernel
theorem dX7_element_9 : decode cX7_element 9 = .ok (.ifCond .eq 42, 3) := by decide +kernel
theorem dX7_element_12 : decode cX7_element 12 = .ok (.aload_n 0, 1) := by decide +kernel
theorem dX7_element_13 : decode cX7_element 13 = .ok (.getfield 7, 3) := by decide +kernel
theorem dX7_element_16 : decode cX7_element 16 = .ok (.iload_n 1, 1) := by decide +kernel
theorem dX7_element_17 : decode cX7_element 17 = .ok (.iaload, 1) := by decide +kernel
theorem dX7_element_18 : decode cX7_element 18 = .ok (.iconst 1, 1) := by decide +kernel
theorem dX7_element_19 : decode cX7_element 19 = .ok (.if_icmp .ne 32, 3) := by decide +kernel
theorem dX7_element_22 : decode cX7_element 22 = .ok (.iload_n 2, 1) := by decide +kernel
theorem dX7_element_23 : decode cX7_element 23 = .ok (.i2l, 1) := by decide +kernel
theorem dX7_element_24 : decode cX7_element 24 = .ok (.lconst 0, 1) := by decide +kernel
theorem dX7_element_25 : decode cX7_element 25 = .ok (.aload_n 0, 1) := by decide +kernel
theorem dX7_element_26 : decode cX7_element 26 = .ok (.getfield 16, 3) := by decide +kernel
theorem dX7_element_29 : decode cX7_element 29 = .ok (.iload_n 1, 1) := by decide +kernel
theorem dX7_element_30 : decode cX7_element 30 = .ok (.iaload, 1) := by decide +kernel
theorem dX7_element_31 : decode cX7_element 31 = .ok (.iconst 1, 1) := by decide +kernel
theorem dX7_element_32 : decode cX7_element 32 = .ok (.isub, 1) := by decide +kernel
theorem dX7_element_33 : decode cX7_element 33 = .ok (.i2l, 1) := by decide +kernel
theorem dX7_element_34 : decode cX7_element 34 = .ok (.invokestatic 64, 3) := by decide +kernel
theorem dX7_element_37 : decode cX7_element 37 = .ok (.ifCond .eq 14, 3) := by decide +kernel
theorem dX7_element_40 : decode cX7_element 40 = .ok (.aload_n 0, 1) := by decide +kernel
theorem dX7_element_41 : decode cX7_element 41 = .ok (.getfield 21, 3) := by decide +kernel
theorem dX7_element_44 : decode cX7_element 44 = .ok (.iload_n 1, 1) := by decide +kernel
theorem dX7_element_45 : decode cX7_element 45 = .ok (.aaload, 1) := by decide +kernel
theorem dX7_element_46 : decode cX7_element 46 = .ok (.iload_n 2, 1) := by decide +kernel
theorem dX7_element_47 : decode cX7_element 47 = .ok (.laload, 1) := by decide +kernel
theorem dX7_element_48 : decode cX7_element 48 = .ok (.goto 4, 3) := by decide +kernel
theorem dX7_element_51 : decode cX7_element 51 = .ok (.lconst 0, 1) := by decide +kernel
theorem dX7_element_52 : decode cX7_element 52 = .ok (.lreturn, 1) := by decide +kernel
theorem dX7_holds_0 : decode cX7_holds 0 = .ok (.iload_n 1, 1) := by decide +kernel
theorem dX7_holds_1 : decode cX7_holds 1 = .ok (.i2l, 1) := by decide +kernel
theorem dX7_holds_2 : decode cX7_holds 2 = .ok (.lconst 0, 1) := by decide +kernel
theorem dX7_holds_3 : decode cX7_holds 3 = .ok (.ldc2_w 71, 3) := by decide +kernel
theorem dX7_holds_6 : decode cX7_holds 6 = .ok (.invokestatic 64, 3) := by decide +kernel
theorem dX7_holds_9 : decode cX7_holds 9 = .ok (.ifCond .eq 12, 3) := by decide +kernel
theorem dX7_holds_12 : decode cX7_holds 12 = .ok (.aload_n 0, 1) := by decide +kernel
theorem dX7_holds_13 : decode cX7_holds 13 = .ok (.getfield 7, 3) := by decide +kernel
theorem dX7_holds_16 : decode cX7_holds 16 = .ok (.iload_n 1, 1) := by decide +kernel
theorem dX7_holds_17 : decode cX7_holds 17 = .ok (.iaload, 1) := by decide +kernel
theorem dX7_holds_18 : decode cX7_holds 18 = .ok (.ifCond .ne 5, 3) := by decide +kernel
theorem dX7_holds_21 : decode cX7_holds 21 = .ok (.iconst (-1), 1) := by decide +kernel
theorem dX7_holds_22 : decode cX7_holds 22 = .ok (.ireturn, 1) := by decide +kernel
theorem dX7_holds_23 : decode cX7_holds 23 = .ok (.aload_n 0, 1) := by decide +kernel
theorem dX7_holds_24 : decode cX7_holds 24 = .ok (.getfield 7, 3) := by decide +kernel
theorem dX7_holds_27 : decode cX7_holds 27 = .ok (.iload_n 1, 1) := by decide +kernel
theorem dX7_holds_28 : decode cX7_holds 28 = .ok (.iaload, 1) := by decide +kernel
theorem dX7_holds_29 : decode cX7_holds 29 = .ok (.iconst 1, 1) := by decide +kernel
theorem dX7_holds_30 : decode cX7_holds 30 = .ok (.if_icmp .ne 12, 3) := by decide +kernel
theorem dX7_holds_33 : decode cX7_holds 33 = .ok (.aload_n 0, 1) := by decide +kernel
theorem dX7_holds_34 : decode cX7_holds 34 = .ok (.getfield 13, 3) := by decide +kernel
theorem dX7_holds_37 : decode cX7_holds 37 = .ok (.iload_n 1, 1) := by decide +kernel
theorem dX7_holds_38 : decode cX7_holds 38 = .ok (.iaload, 1) := by decide +kernel
theorem dX7_holds_39 : decode cX7_holds 39 = .ok (.goto 12, 3) := by decide +kernel
theorem dX7_holds_42 : decode cX7_holds 42 = .ok (.bipush 10, 2) := by decide +kernel
theorem dX7_holds_44 : decode cX7_holds 44 = .ok (.aload_n 0, 1) := by decide +kernel
theorem dX7_holds_45 : decode cX7_holds 45 = .ok (.getfield 28, 3) := by decide +kernel
theorem dX7_holds_48 : decode cX7_holds 48 = .ok (.iload_n 1, 1) := by decide +kernel
theorem dX7_holds_49 : decode cX7_holds 49 = .ok (.iaload, 1) := by decide +kernel
theorem dX7_holds_50 : decode cX7_holds 50 = .ok (.iadd, 1) := by decide +kernel
theorem dX7_holds_51 : decode cX7_holds 51 = .ok (.ireturn, 1) := by decide +kernel
theorem dX7_show_0 : decode cX7_show 0 = .ok (.iload_n 1, 1) := by decide +kernel
theorem dX7_show_1 : decode cX7_show 1 = .ok (.i2l, 1) := by decide +kernel
theorem dX7_show_2 : decode cX7_show 2 = .ok (.lconst 0, 1) := by decide +kernel
theorem dX7_show_3 : decode cX7_show 3 = .ok (.ldc2_w 71, 3) := by decide +kernel
theorem dX7_show_6 : decode cX7_show 6 = .ok (.invokestatic 64, 3) := by decide +kernel
theorem dX7_show_9 : decode cX7_show 9 = .ok (.ifCond .eq 16, 3) := by decide +kernel
theorem dX7_show_12 : decode cX7_show 12 = .ok (.iload_n 2, 1) := by decide +kernel
theorem dX7_show_13 : decode cX7_show 13 = .ok (.iconst (-1), 1) := by decide +kernel
theorem dX7_show_14 : decode cX7_show 14 = .ok (.if_icmp .eq 18, 3) := by decide +kernel
theorem dX7_show_17 : decode cX7_show 17 = .ok (.aload_n 0, 1) := by decide +kernel
theorem dX7_show_18 : decode cX7_show 18 = .ok (.iload_n 2, 1) := by decide +kernel
theorem dX7_show_19 : decode cX7_show 19 = .ok (.invokevirtual 88, 3) := by decide +kernel
theorem dX7_show_22 : decode cX7_show 22 = .ok (.ifCond .ne 10, 3) := by decide +kernel
theorem dX7_show_25 : decode cX7_show 25 = .ok (.aload_n 0, 1) := by decide +kernel
theorem dX7_show_26 : decode cX7_show 26 = .ok (.bipush (-2), 2) := by decide +kernel
theorem dX7_show_28 : decode cX7_show 28 = .ok (.invokevirtual 77, 3) := by decide +kernel
theorem dX7_show_31 : decode cX7_show 31 = .ok (.ireturn, 1) := by decide +kernel
theorem dX7_show_32 : decode cX7_show 32 = .ok (.aload_n 0, 1) := by decide +kernel
theorem dX7_show_33 : decode cX7_show 33 = .ok (.getfield 7, 3) := by decide +kernel
theorem dX7_show_36 : decode cX7_show 36 = .ok (.iload_n 1, 1) := by decide +kernel
theorem dX7_show_37 : decode cX7_show 37 = .ok (.iload_n 2, 1) := by decide +kernel
theorem dX7_show_38 : decode cX7_show 38 = .ok (.iconst (-1), 1) := by decide +kernel
theorem dX7_show_39 : decode cX7_show 39 = .ok (.if_icmp .ne 7, 3) := by decide +kernel
theorem dX7_show_42 : decode cX7_show 42 = .ok (.iconst 0, 1) := by decide +kernel
theorem dX7_show_43 : decode cX7_show 43 = .ok (.goto 4, 3) := by decide +kernel
theorem dX7_show_46 : decode cX7_show 46 = .ok (.iconst 2, 1) := by decide +kernel
theorem dX7_show_47 : decode cX7_show 47 = .ok (.iastore, 1) := by decide +kernel
theorem dX7_show_48 : decode cX7_show 48 = .ok (.aload_n 0, 1) := by decide +kernel
theorem dX7_show_49 : decode cX7_show 49 = .ok (.getfield 28, 3) := by decide +kernel
theorem dX7_show_52 : decode cX7_show 52 = .ok (.iload_n 1, 1) := by decide +kernel
theorem dX7_show_53 : decode cX7_show 53 = .ok (.iload_n 2, 1) := by decide +kernel
theorem dX7_show_54 : decode cX7_show 54 = .ok (.iastore, 1) := by decide +kernel
theorem dX7_show_55 : decode cX7_show 55 = .ok (.iconst 1, 1) := by decide +kernel
theorem dX7_show_56 : decode cX7_show 56 = .ok (.ireturn, 1) := by decide +kernel
theorem dX7_weightOf_0 : decode cX7_weightOf 0 = .ok (.aload_n 0, 1) := by decide +kernel
theorem dX7_weightOf_1 : decode cX7_weightOf 1 = .ok (.getfield 39, 3) := by decide +kernel
theorem dX7_weightOf_4 : decode cX7_weightOf 4 = .ok (.iload_n 1, 1) := by decide +kernel
theorem dX7_weightOf_5 : decode cX7_weightOf 5 = .ok (.aaload, 1) := by decide +kernel
theorem dX7_weightOf_6 : decode cX7_weightOf 6 = .ok (.iconst 0, 1) := by decide +kernel
theorem dX7_weightOf_7 : decode cX7_weightOf 7 = .ok (.iaload, 1) := by decide +kernel
theorem dX7_weightOf_8 : decode cX7_weightOf 8 = .ok (.istore_n 2, 1) := by decide +kernel
theorem dX7_weightOf_9 : decode cX7_weightOf 9 = .ok (.iload_n 2, 1) := by decide +kernel
theorem dX7_weightOf_10 : decode cX7_weightOf 10 = .ok (.iconst 2, 1) := by decide +kernel
theorem dX7_weightOf_11 : decode cX7_weightOf 11 = .ok (.if_icmp .eq 8, 3) := by decide +kernel
theorem dX7_weightOf_14 : decode cX7_weightOf 14 = .ok (.iload_n 2, 1) := by decide +kernel
theorem dX7_weightOf_15 : decode cX7_weightOf 15 = .ok (.iconst 5, 1) := by decide +kernel
theorem dX7_weightOf_16 : decode cX7_weightOf 16 = .ok (.if_icmp .ne 7, 3) := by decide +kernel
theorem dX7_weightOf_19 : decode cX7_weightOf 19 = .ok (.iconst 2, 1) := by decide +kernel
theorem dX7_weightOf_20 : decode cX7_weightOf 20 = .ok (.goto 13, 3) := by decide +kernel
theorem dX7_weightOf_23 : decode cX7_weightOf 23 = .ok (.iload_n 2, 1) := by decide +kernel
theorem dX7_weightOf_24 : decode cX7_weightOf 24 = .ok (.iconst 4, 1) := by decide +kernel
theorem dX7_weightOf_25 : decode cX7_weightOf 25 = .ok (.if_icmp .ne 7, 3) := by decide +kernel
theorem dX7_weightOf_28 : decode cX7_weightOf 28 = .ok (.iconst 0, 1) := by decide +kernel
theorem dX7_weightOf_29 : decode cX7_weightOf 29 = .ok (.goto 4, 3) := by decide +kernel
theorem dX7_weightOf_32 : decode cX7_weightOf 32 = .ok (.iconst 1, 1) := by decide +kernel
theorem dX7_weightOf_33 : decode cX7_weightOf 33 = .ok (.ireturn, 1) := by decide +kernel
def f_X7_refuse (h : xH) (a0 : Nat) (p1 : Int32) : Option (Int32 × xH) :=
  (x_gR h a0 7 8).bind fun a1 =>
  (x_ld h a1 (-p1)).bind fun x2 =>
  (x_st h a1 (-p1) (x2 + (1 : Int32))).bind fun h3 =>
  some (p1, h3)
set_option maxRecDepth 100000 in
set_option maxHeartbeats 4000000 in
theorem c_X7_refuse {h : xH} {a0 : Nat} {p1 : Int32} {r9 : Int32} {hz : xH} (hE : f_X7_refuse h a0 p1 = some (r9, hz)) : Ctr M_X7_refuse [.ref a0, .int p1] h (some (.int r9)) hz 0 0 := by
  refine ctr_of (by decide) (fun _ _ => Nat.le_of_ble_eq_true rfl) (fun S => ?_)
  show Y S M_X7_refuse h (some (.int r9)) hz 0 0 0 [(0, .ref a0), (1, .int p1)] [] h 0 0
  unfold f_X7_refuse at hE
  refine y_aload_n dX7_refuse_0 0 rfl ?_
  obtain ⟨a1, ea1, hE⟩ := Option.bind_eq_some_iff.mp hE
  refine y_getR fl_X7_34 ea1 dX7_refuse_1 ?_
  refine y_iload_n dX7_refuse_4 1 rfl ?_
  refine y_ineg dX7_refuse_5 ?_
  refine y_dup2 dX7_refuse_6 rfl rfl ?_
  obtain ⟨x2, ex2, hE⟩ := Option.bind_eq_some_iff.mp hE
  refine y_iald ex2 dX7_refuse_7 ?_
  refine y_iconst (v := (1 : Int32)) dX7_refuse_8 (by decide) ?_
  refine y_iadd dX7_refuse_9 ?_
  obtain ⟨h3, eh3, hE⟩ := Option.bind_eq_some_iff.mp hE
  refine y_iast eh3 dX7_refuse_10 ?_
  refine y_iload_n dX7_refuse_11 1 rfl ?_
  obtain ⟨rfl, rfl⟩ := x_inj2 hE
  exact y_ret dX7_refuse_12 (Nat.le_refl _) (Nat.le_refl _) ⟨_, rfl, rfl⟩
def f_X7_in (h : xH) (p0 : Int64) (p2 : Int64) (p4 : Int64) : Option (Int32) :=
  if (lg_cmp p0 p2) < 0 then
    some (0 : Int32)
  else
    if 0 < (lg_cmp p0 p4) then
      some (0 : Int32)
    else
      some (1 : Int32)
set_option maxRecDepth 100000 in
set_option maxHeartbeats 4000000 in
theorem c_X7_in {h : xH} {p0 : Int64} {p2 : Int64} {p4 : Int64} {r9 : Int32} (hE : f_X7_in h p0 p2 p4 = some r9) : Ctr M_X7_in [.long p0, .long p2, .long p4] h (some (.int r9)) h 0 0 := by
  refine ctr_of (by decide) (fun _ _ => Nat.le_of_ble_eq_true rfl) (fun S => ?_)
  show Y S M_X7_in h (some (.int r9)) h 0 0 0 [(0, .long p0), (2, .long p2), (4, .long p4)] [] h 0 0
  unfold f_X7_in at hE
  refine y_lload_n dX7_in_0 0 rfl ?_
  refine y_lload_n dX7_in_1 1 rfl ?_
  refine y_lcmp dX7_in_2 ?_
  refine y_if_lt (tgt := 17) dX7_in_3 (by decide) (fun hc2 => ?_) (fun hc2 => ?_)
  · rw [if_pos hc2] at hE
    refine y_iconst (v := (0 : Int32)) dX7_in_17 (by decide) ?_
    obtain rfl := Option.some.inj hE
    exact y_ret dX7_in_18 (Nat.le_refl _) (Nat.le_refl _) ⟨_, rfl, rfl⟩
  · rw [if_neg hc2] at hE
    refine y_lload_n dX7_in_6 0 rfl ?_
    refine y_lload dX7_in_7 2 rfl ?_
    refine y_lcmp dX7_in_9 ?_
    refine y_if_gt (tgt := 17) dX7_in_10 (by decide) (fun hc1 => ?_) (fun hc1 => ?_)
    · rw [if_pos hc1] at hE
      refine y_iconst (v := (0 : Int32)) dX7_in_17 (by decide) ?_
      obtain rfl := Option.some.inj hE
      exact y_ret dX7_in_18 (Nat.le_refl _) (Nat.le_refl _) ⟨_, rfl, rfl⟩
    · rw [if_neg hc1] at hE
      refine y_iconst (v := (1 : Int32)) dX7_in_13 (by decide) ?_
      refine y_goto (tgt := 18) dX7_in_14 (by decide) ?_
      obtain rfl := Option.some.inj hE
      exact y_ret dX7_in_18 (Nat.le_refl _) (Nat.le_refl _) ⟨_, rfl, rfl⟩
def f_X7_isDoor (h : xH) (a0 : Nat) (p1 : Int32) : Option (Int32) :=
  (x_gI h a0 7 9).bind fun x1 =>
  (f_X7_in h p1.toInt64 (0 : Int64) ((x1 - (1 : Int32)).toInt64)).bind fun q2 =>
  (x_bool q2).bind fun x3 =>
  some x3
set_option maxRecDepth 100000 in
set_option maxHeartbeats 4000000 in
theorem c_X7_isDoor {h : xH} {a0 : Nat} {p1 : Int32} {r9 : Int32} (hE : f_X7_isDoor h a0 p1 = some r9) : Ctr M_X7_isDoor [.ref a0, .int p1] h (some (.int r9)) h 0 0 := by
  refine ctr_of (by decide) (fun _ _ => Nat.le_of_ble_eq_true rfl) (fun S => ?_)
  show Y S M_X7_isDoor h (some (.int r9)) h 0 0 0 [(0, .ref a0), (1, .int p1)] [] h 0 0
  unfold f_X7_isDoor at hE
  refine y_iload_n dX7_isDoor_0 1 rfl ?_
  refine y_i2l dX7_isDoor_1 ?_
  refine y_lconst (v := (0 : Int64)) dX7_isDoor_2 (by decide) ?_
  refine y_aload_n dX7_isDoor_3 0 rfl ?_
  obtain ⟨x1, ex1, hE⟩ := Option.bind_eq_some_iff.mp hE
  refine y_getI fl_X7_61 ex1 dX7_isDoor_4 ?_
  refine y_iconst (v := (1 : Int32)) dX7_isDoor_7 (by decide) ?_
  refine y_isub dX7_isDoor_8 ?_
  refine y_i2l dX7_isDoor_9 ?_
  obtain ⟨q2, eq2, hE⟩ := Option.bind_eq_some_iff.mp hE
  refine y_cSi0 (st := []) (as := [.long p1.toInt64, .long (0 : Int64), .long ((x1 - (1 : Int32)).toInt64)]) (c_X7_in eq2) lk_X7_64 st_X7_in ⟨Nat.le_of_ble_eq_true rfl, Nat.le_of_ble_eq_true rfl⟩ (Nat.le_of_ble_eq_true rfl) dX7_isDoor_10 ⟨Nat.le_refl _, Nat.le_refl _⟩ rfl ?_
  obtain ⟨x3, ex3, hE⟩ := Option.bind_eq_some_iff.mp hE
  obtain ⟨e9, hnb⟩ := x_bool.spec ex3
  rw [e9]
  obtain rfl := Option.some.inj hE
  exact y_ret dX7_isDoor_13 (Nat.le_refl _) (Nat.le_refl _) ⟨_, rfl, hnb⟩
def f_X7_isOne (h : xH) (a0 : Nat) (p1 : Int32) : Option (Int32) :=
  (x_gI h a0 7 12).bind fun x1 =>
  (f_X7_in h p1.toInt64 (0 : Int64) ((x1 - (1 : Int32)).toInt64)).bind fun q2 =>
  (x_bool q2).bind fun x3 =>
  some x3
set_option maxRecDepth 100000 in
set_option maxHeartbeats 4000000 in
theorem c_X7_isOne {h : xH} {a0 : Nat} {p1 : Int32} {r9 : Int32} (hE : f_X7_isOne h a0 p1 = some r9) : Ctr M_X7_isOne [.ref a0, .int p1] h (some (.int r9)) h 0 0 := by
  refine ctr_of (by decide) (fun _ _ => Nat.le_of_ble_eq_true rfl) (fun S => ?_)
  show Y S M_X7_isOne h (some (.int r9)) h 0 0 0 [(0, .ref a0), (1, .int p1)] [] h 0 0
  unfold f_X7_isOne at hE
  refine y_iload_n dX7_isOne_0 1 rfl ?_
  refine y_i2l dX7_isOne_1 ?_
  refine y_lconst (v := (0 : Int64)) dX7_isOne_2 (by decide) ?_
  refine y_aload_n dX7_isOne_3 0 rfl ?_
  obtain ⟨x1, ex1, hE⟩ := Option.bind_eq_some_iff.mp hE
  refine y_getI fl_X7_68 ex1 dX7_isOne_4 ?_
  refine y_iconst (v := (1 : Int32)) dX7_isOne_7 (by decide) ?_
  refine y_isub dX7_isOne_8 ?_
  refine y_i2l dX7_isOne_9 ?_
  obtain ⟨q2, eq2, hE⟩ := Option.bind_eq_some_iff.mp hE
  refine y_cSi0 (st := []) (as := [.long p1.toInt64, .long (0 : Int64), .long ((x1 - (1 : Int32)).toInt64)]) (c_X7_in eq2) lk_X7_64 st_X7_in ⟨Nat.le_of_ble_eq_true rfl, Nat.le_of_ble_eq_true rfl⟩ (Nat.le_of_ble_eq_true rfl) dX7_isOne_10 ⟨Nat.le_refl _, Nat.le_refl _⟩ rfl ?_
  obtain ⟨x3, ex3, hE⟩ := Option.bind_eq_some_iff.mp hE
  obtain ⟨e9, hnb⟩ := x_bool.spec ex3
  rw [e9]
  obtain rfl := Option.some.inj hE
  exact y_ret dX7_isOne_13 (Nat.le_refl _) (Nat.le_refl _) ⟨_, rfl, hnb⟩
def f_X7_isRoom (h : xH) (p0 : Int64) : Option (Int32) :=
  (f_X7_in h p0 (0 : Int64) (7 : Int64)).bind fun q1 =>
  (x_bool q1).bind fun x2 =>
  some x2
set_option maxRecDepth 100000 in
set_option maxHeartbeats 4000000 in
theorem c_X7_isRoom {h : xH} {p0 : Int64} {r9 : Int32} (hE : f_X7_isRoom h p0 = some r9) : Ctr M_X7_isRoom [.long p0] h (some (.int r9)) h 0 0 := by
  refine ctr_of (by decide) (fun _ _ => Nat.le_of_ble_eq_true rfl) (fun S => ?_)
  show Y S M_X7_isRoom h (some (.int r9)) h 0 0 0 [(0, .long p0)] [] h 0 0
  unfold f_X7_isRoom at hE
  refine y_lload_n dX7_isRoom_0 0 rfl ?_
  refine y_lconst (v := (0 : Int64)) dX7_isRoom_1 (by decide) ?_
  refine y_ldc2 (v := (7 : Int64)) (x_wt (tb 1051 (by decide +kernel)) rfl) dX7_isRoom_2 ?_
  obtain ⟨q1, eq1, hE⟩ := Option.bind_eq_some_iff.mp hE
  refine y_cSi0 (st := []) (as := [.long p0, .long (0 : Int64), .long (7 : Int64)]) (c_X7_in eq1) lk_X7_64 st_X7_in ⟨Nat.le_of_ble_eq_true rfl, Nat.le_of_ble_eq_true rfl⟩ (Nat.le_of_ble_eq_true rfl) dX7_isRoom_5 ⟨Nat.le_refl _, Nat.le_refl _⟩ rfl ?_
  obtain ⟨x2, ex2, hE⟩ := Option.bind_eq_some_iff.mp hE
  obtain ⟨e9, hnb⟩ := x_bool.spec ex2
  rw [e9]
  obtain rfl := Option.some.inj hE
  exact y_ret dX7_isRoom_8 (Nat.le_refl _) (Nat.le_refl _) ⟨_, rfl, hnb⟩
def f_X7_has (h : xH) (p0 : Int32) (p1 : Int32) : Option (Int32) :=
  if ((i_shr p0 p1) &&& (1 : Int32)) = 0 then
    some (0 : Int32)
  else
    some (1 : Int32)
set_option maxRecDepth 100000 in
set_option maxHeartbeats 4000000 in
theorem c_X7_has {h : xH} {p0 : Int32} {p1 : Int32} {r9 : Int32} (hE : f_X7_has h p0 p1 = some r9) : Ctr M_X7_has [.int p0, .int p1] h (some (.int r9)) h 0 0 := by
  refine ctr_of (by decide) (fun _ _ => Nat.le_of_ble_eq_true rfl) (fun S => ?_)
  show Y S M_X7_has h (some (.int r9)) h 0 0 0 [(0, .int p0), (1, .int p1)] [] h 0 0
  unfold f_X7_has at hE
  refine y_iload_n dX7_has_0 0 rfl ?_
  refine y_iload_n dX7_has_1 1 rfl ?_
  refine y_ishr dX7_has_2 ?_
  refine y_iconst (v := (1 : Int32)) dX7_has_3 (by decide) ?_
  refine y_iand dX7_has_4 ?_
  refine y_if_eq (tgt := 12) dX7_has_5 (by decide) (fun hc1 => ?_) (fun hc1 => ?_)
  · rw [if_pos hc1] at hE
    refine y_iconst (v := (0 : Int32)) dX7_has_12 (by decide) ?_
    obtain rfl := Option.some.inj hE
    exact y_ret dX7_has_13 (Nat.le_refl _) (Nat.le_refl _) ⟨_, rfl, rfl⟩
  · rw [if_neg hc1] at hE
    refine y_iconst (v := (1 : Int32)) dX7_has_8 (by decide) ?_
    refine y_goto (tgt := 13) dX7_has_9 (by decide) ?_
    obtain rfl := Option.some.inj hE
    exact y_ret dX7_has_13 (Nat.le_refl _) (Nat.le_refl _) ⟨_, rfl, rfl⟩
def f_X7_row_L67 (v0 : Nat) (v1 : Int32) : Nat → Int32 → xH → Option (xH)
  | 0, _, _ => none
  | k + 1, v4, h =>
    if (40 : Int32) ≤ v4 then
      some h
    else
      (x_gR h v0 7 3).bind fun a16 =>
      (x_ldQ h a16 v1).bind fun a17 =>
      (x_stL h a17 v4 (0 : Int64)).bind fun h18 =>
      (some (v4 + (1 : Int32))).bind fun x19 =>
      f_X7_row_L67 v0 v1 k x19 h18
set_option maxRecDepth 100000 in
set_option maxHeartbeats 4000000 in
theorem l_X7_row_67 {S : Nat × (Nat → Int32)} {rv : Option Value} {h0 h1 : xH} {mc ms : Nat} {cells slots : Nat} (hm : cells ≤ mc ∧ slots ≤ ms) (v0 : Nat) (v1 : Int32) : ∀ (k : Nat) (v4 : Int32) (h : xH) (res : xH), f_X7_row_L67 v0 v1 k v4 h = some res → (∀ r9, res = r9 → Y S M_X7_row h0 rv h1 mc ms 90 [] [] r9 cells slots) → Y S M_X7_row h0 rv h1 mc ms 67 [(0, .ref v0), (1, .int v1), (4, .int v4)] [] h cells slots := by
  intro k
  induction k with
  | zero =>
    intro _ _ _ hE
    cases hE
  | succ k ih =>
    intro v4 h res hE K
    unfold f_X7_row_L67 at hE
    refine y_iload dX7_row_67 2 rfl ?_
    refine y_bipush (v := (40 : Int32)) dX7_row_69 (by decide) ?_
    refine y_icmp_ge (tgt := 90) dX7_row_71 (by decide) (fun hc20 => ?_) (fun hc20 => ?_)
    · rw [if_pos hc20] at hE
      obtain rfl := Option.some.inj hE
      exact y_pick [] rfl (K _ rfl)
    · rw [if_neg hc20] at hE
      refine y_aload_n dX7_row_74 0 rfl ?_
      obtain ⟨a16, ea16, hE⟩ := Option.bind_eq_some_iff.mp hE
      refine y_getR fl_X7_21 ea16 dX7_row_75 ?_
      refine y_iload_n dX7_row_78 1 rfl ?_
      obtain ⟨a17, ea17, hE⟩ := Option.bind_eq_some_iff.mp hE
      refine y_aald ea17 dX7_row_79 ?_
      refine y_iload dX7_row_80 2 rfl ?_
      refine y_lconst (v := (0 : Int64)) dX7_row_82 (by decide) ?_
      obtain ⟨h18, eh18, hE⟩ := Option.bind_eq_some_iff.mp hE
      refine y_last eh18 dX7_row_83 ?_
      obtain ⟨x19, ex19, hE⟩ := Option.bind_eq_some_iff.mp hE
      refine y_iinc (ls' := [(4, .int x19), (0, .ref v0), (1, .int v1)]) dX7_row_84 2 rfl (Option.some.inj ex19) (by decide) rfl ?_
      refine y_goto (tgt := 67) dX7_row_87 (by decide) ?_
      refine y_pick [1, 2, 0] rfl ?_
      exact ih _ _ _ hE K
def f_X7_row (n : Nat) (h : xH) (a0 : Nat) (p1 : Int32) (p2 : Int32) (p3 : Int32) : Option (Int32 × xH) :=
  (f_X7_in h p1.toInt64 (0 : Int64) (7 : Int64)).bind fun q1 =>
  if q1 = 0 then
    (x_ob h a0 7).bind fun u2 =>
    (f_X7_refuse h a0 (-2 : Int32)).bind fun q3 =>
    some (q3.1, q3.2)
  else
    (f_X7_in h p2.toInt64 (0 : Int64) (4 : Int64)).bind fun q4 =>
    if q4 = 0 then
      (x_ob h a0 7).bind fun u5 =>
      (f_X7_refuse h a0 (-2 : Int32)).bind fun q6 =>
      some (q6.1, q6.2)
    else
      (f_X7_in h p3.toInt64 (0 : Int64) (40 : Int64)).bind fun q7 =>
      if q7 = 0 then
        (x_ob h a0 7).bind fun u8 =>
        (f_X7_refuse h a0 (-2 : Int32)).bind fun q9 =>
        some (q9.1, q9.2)
      else
        (x_gR h a0 7 0).bind fun a10 =>
        (x_st h a10 p1 (1 : Int32)).bind fun h11 =>
        (x_gR h11 a0 7 1).bind fun a12 =>
        (x_st h11 a12 p1 p2).bind fun h13 =>
        (x_gR h13 a0 7 2).bind fun a14 =>
        (x_st h13 a14 p1 p3).bind fun h15 =>
        (f_X7_row_L67 a0 p1 n (0 : Int32) h15).bind fun q21 =>
        some ((1 : Int32), q21)
set_option maxRecDepth 100000 in
set_option maxHeartbeats 4000000 in
theorem c_X7_row {n : Nat} {h : xH} {a0 : Nat} {p1 : Int32} {p2 : Int32} {p3 : Int32} {r9 : Int32} {hz : xH} (hE : f_X7_row n h a0 p1 p2 p3 = some (r9, hz)) : Ctr M_X7_row [.ref a0, .int p1, .int p2, .int p3] h (some (.int r9)) hz 0 0 := by
  refine ctr_of (by decide) (fun _ _ => Nat.le_of_ble_eq_true rfl) (fun S => ?_)
  show Y S M_X7_row h (some (.int r9)) hz 0 0 0 [(0, .ref a0), (1, .int p1), (2, .int p2), (3, .int p3)] [] h 0 0
  unfold f_X7_row at hE
  refine y_iload_n dX7_row_0 1 rfl ?_
  refine y_i2l dX7_row_1 ?_
  refine y_lconst (v := (0 : Int64)) dX7_row_2 (by decide) ?_
  refine y_ldc2 (v := (7 : Int64)) (x_wt (tb 1051 (by decide +kernel)) rfl) dX7_row_3 ?_
  obtain ⟨q1, eq1, hE⟩ := Option.bind_eq_some_iff.mp hE
  refine y_cSi0 (st := []) (as := [.long p1.toInt64, .long (0 : Int64), .long (7 : Int64)]) (c_X7_in eq1) lk_X7_64 st_X7_in ⟨Nat.le_of_ble_eq_true rfl, Nat.le_of_ble_eq_true rfl⟩ (Nat.le_of_ble_eq_true rfl) dX7_row_6 ⟨Nat.le_refl _, Nat.le_refl _⟩ rfl ?_
  refine y_if_eq (tgt := 36) dX7_row_9 (by decide) (fun hc24 => ?_) (fun hc24 => ?_)
  · rw [if_pos hc24] at hE
    refine y_aload_n dX7_row_36 0 rfl ?_
    refine y_bipush (v := (-2 : Int32)) dX7_row_37 (by decide) ?_
    obtain ⟨u2, eu2, hE⟩ := Option.bind_eq_some_iff.mp hE
    obtain ⟨q3, eq3, hE⟩ := Option.bind_eq_some_iff.mp hE
    refine y_cVi0 (st := []) (as := [.int (-2 : Int32)]) (c_X7_refuse eq3) lk_X7_77 in_X7_refuse se_X7_refuse rfl eu2 ⟨Nat.le_of_ble_eq_true rfl, Nat.le_of_ble_eq_true rfl⟩ (Nat.le_of_ble_eq_true rfl) dX7_row_39 ⟨Nat.le_refl _, Nat.le_refl _⟩ rfl ?_
    obtain ⟨rfl, rfl⟩ := x_inj2 hE
    exact y_ret dX7_row_42 (Nat.le_refl _) (Nat.le_refl _) ⟨_, rfl, rfl⟩
  · rw [if_neg hc24] at hE
    refine y_iload_n dX7_row_12 2 rfl ?_
    refine y_i2l dX7_row_13 ?_
    refine y_lconst (v := (0 : Int64)) dX7_row_14 (by decide) ?_
    refine y_ldc2 (v := (4 : Int64)) (x_wt (tb 1055 (by decide +kernel)) rfl) dX7_row_15 ?_
    obtain ⟨q4, eq4, hE⟩ := Option.bind_eq_some_iff.mp hE
    refine y_cSi0 (st := []) (as := [.long p2.toInt64, .long (0 : Int64), .long (4 : Int64)]) (c_X7_in eq4) lk_X7_64 st_X7_in ⟨Nat.le_of_ble_eq_true rfl, Nat.le_of_ble_eq_true rfl⟩ (Nat.le_of_ble_eq_true rfl) dX7_row_18 ⟨Nat.le_refl _, Nat.le_refl _⟩ rfl ?_
    refine y_if_eq (tgt := 36) dX7_row_21 (by decide) (fun hc23 => ?_) (fun hc23 => ?_)
    · rw [if_pos hc23] at hE
      refine y_aload_n dX7_row_36 0 rfl ?_
      refine y_bipush (v := (-2 : Int32)) dX7_row_37 (by decide) ?_
      obtain ⟨u5, eu5, hE⟩ := Option.bind_eq_some_iff.mp hE
      obtain ⟨q6, eq6, hE⟩ := Option.bind_eq_some_iff.mp hE
      refine y_cVi0 (st := []) (as := [.int (-2 : Int32)]) (c_X7_refuse eq6) lk_X7_77 in_X7_refuse se_X7_refuse rfl eu5 ⟨Nat.le_of_ble_eq_true rfl, Nat.le_of_ble_eq_true rfl⟩ (Nat.le_of_ble_eq_true rfl) dX7_row_39 ⟨Nat.le_refl _, Nat.le_refl _⟩ rfl ?_
      obtain ⟨rfl, rfl⟩ := x_inj2 hE
      exact y_ret dX7_row_42 (Nat.le_refl _) (Nat.le_refl _) ⟨_, rfl, rfl⟩
    · rw [if_neg hc23] at hE
      refine y_iload_n dX7_row_24 3 rfl ?_
      refine y_i2l dX7_row_25 ?_
      refine y_lconst (v := (0 : Int64)) dX7_row_26 (by decide) ?_
      refine y_ldc2 (v := (40 : Int64)) (x_wt (tb 1056 (by decide +kernel)) rfl) dX7_row_27 ?_
      obtain ⟨q7, eq7, hE⟩ := Option.bind_eq_some_iff.mp hE
      refine y_cSi0 (st := []) (as := [.long p3.toInt64, .long (0 : Int64), .long (40 : Int64)]) (c_X7_in eq7) lk_X7_64 st_X7_in ⟨Nat.le_of_ble_eq_true rfl, Nat.le_of_ble_eq_true rfl⟩ (Nat.le_of_ble_eq_true rfl) dX7_row_30 ⟨Nat.le_refl _, Nat.le_refl _⟩ rfl ?_
      refine y_if_ne (tgt := 43) dX7_row_33 (by decide) (fun hc22 => ?_) (fun hc22 => ?_)
      · rw [if_pos hc22] at hE
        refine y_aload_n dX7_row_36 0 rfl ?_
        refine y_bipush (v := (-2 : Int32)) dX7_row_37 (by decide) ?_
        obtain ⟨u8, eu8, hE⟩ := Option.bind_eq_some_iff.mp hE
        obtain ⟨q9, eq9, hE⟩ := Option.bind_eq_some_iff.mp hE
        refine y_cVi0 (st := []) (as := [.int (-2 : Int32)]) (c_X7_refuse eq9) lk_X7_77 in_X7_refuse se_X7_refuse rfl eu8 ⟨Nat.le_of_ble_eq_true rfl, Nat.le_of_ble_eq_true rfl⟩ (Nat.le_of_ble_eq_true rfl) dX7_row_39 ⟨Nat.le_refl _, Nat.le_refl _⟩ rfl ?_
        obtain ⟨rfl, rfl⟩ := x_inj2 hE
        exact y_ret dX7_row_42 (Nat.le_refl _) (Nat.le_refl _) ⟨_, rfl, rfl⟩
      · rw [if_neg hc22] at hE
        refine y_aload_n dX7_row_43 0 rfl ?_
        obtain ⟨a10, ea10, hE⟩ := Option.bind_eq_some_iff.mp hE
        refine y_getR fl_X7_7 ea10 dX7_row_44 ?_
        refine y_iload_n dX7_row_47 1 rfl ?_
        refine y_iconst (v := (1 : Int32)) dX7_row_48 (by decide) ?_
        obtain ⟨h11, eh11, hE⟩ := Option.bind_eq_some_iff.mp hE
        refine y_iast eh11 dX7_row_49 ?_
        refine y_aload_n dX7_row_50 0 rfl ?_
        obtain ⟨a12, ea12, hE⟩ := Option.bind_eq_some_iff.mp hE
        refine y_getR fl_X7_13 ea12 dX7_row_51 ?_
        refine y_iload_n dX7_row_54 1 rfl ?_
        refine y_iload_n dX7_row_55 2 rfl ?_
        obtain ⟨h13, eh13, hE⟩ := Option.bind_eq_some_iff.mp hE
        refine y_iast eh13 dX7_row_56 ?_
        refine y_aload_n dX7_row_57 0 rfl ?_
        obtain ⟨a14, ea14, hE⟩ := Option.bind_eq_some_iff.mp hE
        refine y_getR fl_X7_16 ea14 dX7_row_58 ?_
        refine y_iload_n dX7_row_61 1 rfl ?_
        refine y_iload_n dX7_row_62 3 rfl ?_
        obtain ⟨h15, eh15, hE⟩ := Option.bind_eq_some_iff.mp hE
        refine y_iast eh15 dX7_row_63 ?_
        refine y_iconst (v := (0 : Int32)) dX7_row_64 (by decide) ?_
        refine y_istore (ls' := [(4, .int (0 : Int32)), (0, .ref a0), (1, .int p1), (2, .int p2), (3, .int p3)]) dX7_row_65 (by decide) rfl rfl ?_
        obtain ⟨q21, eq21, hE⟩ := Option.bind_eq_some_iff.mp hE
        refine y_pick [1, 2, 0] rfl ?_
        refine l_X7_row_67 (S := S) ⟨Nat.le_refl _, Nat.le_refl _⟩ a0 p1 n (0 : Int32) h15 _ eq21 (fun r8 hr8 => ?_)
        subst hr8
        refine y_iconst (v := (1 : Int32)) dX7_row_90 (by decide) ?_
        obtain ⟨rfl, rfl⟩ := x_inj2 hE
        exact y_ret dX7_row_91 (Nat.le_refl _) (Nat.le_refl _) ⟨_, rfl, rfl⟩
def f_X7_fit (h : xH) (p0 : Int32) (p1 : Int64) : Option (Int64) :=
  if p0 = (0 : Int32) then
    some ((i_byte p1.toInt32).toInt64)
  else
  if p0 = (1 : Int32) then
    some ((i_short p1.toInt32).toInt64)
  else
  if p0 = (2 : Int32) then
    some p1.toInt32.toInt64
  else
  if p0 = (3 : Int32) then
    some p1
  else
  if (lg_cmp p1 (0 : Int64)) = 0 then
    some (0 : Int64)
  else
    some (1 : Int64)
set_option maxRecDepth 100000 in
set_option maxHeartbeats 4000000 in
theorem c_X7_fit {h : xH} {p0 : Int32} {p1 : Int64} {r9 : Int64} (hE : f_X7_fit h p0 p1 = some r9) : Ctr M_X7_fit [.int p0, .long p1] h (some (.long r9)) h 0 0 := by
  refine ctr_of (by decide) (fun _ _ => Nat.le_of_ble_eq_true rfl) (fun S => ?_)
  show Y S M_X7_fit h (some (.long r9)) h 0 0 0 [(0, .int p0), (1, .long p1)] [] h 0 0
  unfold f_X7_fit at hE
  refine y_iload_n dX7_fit_0 0 rfl ?_
  by_cases hc1 : p0 = (0 : Int32)
  · rw [if_pos hc1] at hE
    have hk := hc1
    refine y_tabIn (tgt := 32) dX7_fit_1 (by rw [hk]; decide) (by rw [hk]; decide) (by rw [hk]; rfl) (by decide) ?_
    refine y_lload_n dX7_fit_32 1 rfl ?_
    refine y_l2i dX7_fit_33 ?_
    refine y_i2b dX7_fit_34 ?_
    refine y_i2l dX7_fit_35 ?_
    obtain rfl := Option.some.inj hE
    exact y_ret dX7_fit_36 (Nat.le_refl _) (Nat.le_refl _) rfl
  · rw [if_neg hc1] at hE
    by_cases hc2 : p0 = (1 : Int32)
    · rw [if_pos hc2] at hE
      have hk := hc2
      refine y_tabIn (tgt := 37) dX7_fit_1 (by rw [hk]; decide) (by rw [hk]; decide) (by rw [hk]; rfl) (by decide) ?_
      refine y_lload_n dX7_fit_37 1 rfl ?_
      refine y_l2i dX7_fit_38 ?_
      refine y_i2s dX7_fit_39 ?_
      refine y_i2l dX7_fit_40 ?_
      obtain rfl := Option.some.inj hE
      exact y_ret dX7_fit_41 (Nat.le_refl _) (Nat.le_refl _) rfl
    · rw [if_neg hc2] at hE
      by_cases hc3 : p0 = (2 : Int32)
      · rw [if_pos hc3] at hE
        have hk := hc3
        refine y_tabIn (tgt := 42) dX7_fit_1 (by rw [hk]; decide) (by rw [hk]; decide) (by rw [hk]; rfl) (by decide) ?_
        refine y_lload_n dX7_fit_42 1 rfl ?_
        refine y_l2i dX7_fit_43 ?_
        refine y_i2l dX7_fit_44 ?_
        obtain rfl := Option.some.inj hE
        exact y_ret dX7_fit_45 (Nat.le_refl _) (Nat.le_refl _) rfl
      · rw [if_neg hc3] at hE
        by_cases hc4 : p0 = (3 : Int32)
        · rw [if_pos hc4] at hE
          have hk := hc4
          refine y_tabIn (tgt := 46) dX7_fit_1 (by rw [hk]; decide) (by rw [hk]; decide) (by rw [hk]; rfl) (by decide) ?_
          refine y_lload_n dX7_fit_46 1 rfl ?_
          obtain rfl := Option.some.inj hE
          exact y_ret dX7_fit_47 (Nat.le_refl _) (Nat.le_refl _) rfl
        · rw [if_neg hc4] at hE
          have hO : (p0).toInt < 0 ∨ 3 < (p0).toInt := by
            refine x_tabo (by decide) (by decide) (fun j g1 g2 => ?_)
            rcases (show j = 0 ∨ j = 1 ∨ j = 2 ∨ j = 3 by omega) with rfl | rfl | rfl | rfl
            · exact hc1
            · exact hc2
            · exact hc3
            · exact hc4
          refine y_tabOut (tgt := 48) dX7_fit_1 hO (by decide) ?_
          refine y_lload_n dX7_fit_48 1 rfl ?_
          refine y_lconst (v := (0 : Int64)) dX7_fit_49 (by decide) ?_
          refine y_lcmp dX7_fit_50 ?_
          refine y_if_eq (tgt := 58) dX7_fit_51 (by decide) (fun hc5 => ?_) (fun hc5 => ?_)
          · rw [if_pos hc5] at hE
            refine y_lconst (v := (0 : Int64)) dX7_fit_58 (by decide) ?_
            obtain rfl := Option.some.inj hE
            exact y_ret dX7_fit_59 (Nat.le_refl _) (Nat.le_refl _) rfl
          · rw [if_neg hc5] at hE
            refine y_lconst (v := (1 : Int64)) dX7_fit_54 (by decide) ?_
            refine y_goto (tgt := 59) dX7_fit_55 (by decide) ?_
            obtain rfl := Option.some.inj hE
            exact y_ret dX7_fit_59 (Nat.le_refl _) (Nat.le_refl _) rfl
def f_X7_noRow (h : xH) (a0 : Nat) (p1 : Int32) : Option (Int32 × xH) :=
  (f_X7_in h p1.toInt64 (0 : Int64) (7 : Int64)).bind fun q1 =>
  if q1 = 0 then
    (x_ob h a0 7).bind fun u2 =>
    (f_X7_refuse h a0 (-2 : Int32)).bind fun q3 =>
    some (q3.1, q3.2)
  else
    (x_gR h a0 7 0).bind fun a4 =>
    (x_ld h a4 p1).bind fun x5 =>
    if x5 = (2 : Int32) then
      (x_ob h a0 7).bind fun u6 =>
      (f_X7_refuse h a0 (-3 : Int32)).bind fun q7 =>
      some (q7.1, q7.2)
    else
      (x_gR h a0 7 0).bind fun a8 =>
      (x_ld h a8 p1).bind fun x9 =>
      if x9 = 0 then
        (x_ob h a0 7).bind fun u10 =>
        (f_X7_refuse h a0 (-4 : Int32)).bind fun q11 =>
        some (q11.1, q11.2)
      else
        some ((0 : Int32), h)
set_option maxRecDepth 100000 in
set_option maxHeartbeats 4000000 in
theorem c_X7_noRow {h : xH} {a0 : Nat} {p1 : Int32} {r9 : Int32} {hz : xH} (hE : f_X7_noRow h a0 p1 = some (r9, hz)) : Ctr M_X7_noRow [.ref a0, .int p1] h (some (.int r9)) hz 0 0 := by
  refine ctr_of (by decide) (fun _ _ => Nat.le_of_ble_eq_true rfl) (fun S => ?_)
  show Y S M_X7_noRow h (some (.int r9)) hz 0 0 0 [(0, .ref a0), (1, .int p1)] [] h 0 0
  unfold f_X7_noRow at hE
  refine y_iload_n dX7_noRow_0 1 rfl ?_
  refine y_i2l dX7_noRow_1 ?_
  refine y_lconst (v := (0 : Int64)) dX7_noRow_2 (by decide) ?_
  refine y_ldc2 (v := (7 : Int64)) (x_wt (tb 1051 (by decide +kernel)) rfl) dX7_noRow_3 ?_
  obtain ⟨q1, eq1, hE⟩ := Option.bind_eq_some_iff.mp hE
  refine y_cSi0 (st := []) (as := [.long p1.toInt64, .long (0 : Int64), .long (7 : Int64)]) (c_X7_in eq1) lk_X7_64 st_X7_in ⟨Nat.le_of_ble_eq_true rfl, Nat.le_of_ble_eq_true rfl⟩ (Nat.le_of_ble_eq_true rfl) dX7_noRow_6 ⟨Nat.le_refl _, Nat.le_refl _⟩ rfl ?_
  refine y_if_ne (tgt := 19) dX7_noRow_9 (by decide) (fun hc14 => ?_) (fun hc14 => ?_)
  · rw [if_pos hc14] at hE
    refine y_aload_n dX7_noRow_12 0 rfl ?_
    refine y_bipush (v := (-2 : Int32)) dX7_noRow_13 (by decide) ?_
    obtain ⟨u2, eu2, hE⟩ := Option.bind_eq_some_iff.mp hE
    obtain ⟨q3, eq3, hE⟩ := Option.bind_eq_some_iff.mp hE
    refine y_cVi0 (st := []) (as := [.int (-2 : Int32)]) (c_X7_refuse eq3) lk_X7_77 in_X7_refuse se_X7_refuse rfl eu2 ⟨Nat.le_of_ble_eq_true rfl, Nat.le_of_ble_eq_true rfl⟩ (Nat.le_of_ble_eq_true rfl) dX7_noRow_15 ⟨Nat.le_refl _, Nat.le_refl _⟩ rfl ?_
    obtain ⟨rfl, rfl⟩ := x_inj2 hE
    exact y_ret dX7_noRow_18 (Nat.le_refl _) (Nat.le_refl _) ⟨_, rfl, rfl⟩
  · rw [if_neg hc14] at hE
    refine y_aload_n dX7_noRow_19 0 rfl ?_
    obtain ⟨a4, ea4, hE⟩ := Option.bind_eq_some_iff.mp hE
    refine y_getR fl_X7_7 ea4 dX7_noRow_20 ?_
    refine y_iload_n dX7_noRow_23 1 rfl ?_
    obtain ⟨x5, ex5, hE⟩ := Option.bind_eq_some_iff.mp hE
    refine y_iald ex5 dX7_noRow_24 ?_
    refine y_iconst (v := (2 : Int32)) dX7_noRow_25 (by decide) ?_
    refine y_icmp_ne (tgt := 36) dX7_noRow_26 (by decide) (fun hc13 => ?_) (fun hc13 => ?_)
    · rw [if_pos hc13] at hE
      refine y_aload_n dX7_noRow_29 0 rfl ?_
      refine y_bipush (v := (-3 : Int32)) dX7_noRow_30 (by decide) ?_
      obtain ⟨u6, eu6, hE⟩ := Option.bind_eq_some_iff.mp hE
      obtain ⟨q7, eq7, hE⟩ := Option.bind_eq_some_iff.mp hE
      refine y_cVi0 (st := []) (as := [.int (-3 : Int32)]) (c_X7_refuse eq7) lk_X7_77 in_X7_refuse se_X7_refuse rfl eu6 ⟨Nat.le_of_ble_eq_true rfl, Nat.le_of_ble_eq_true rfl⟩ (Nat.le_of_ble_eq_true rfl) dX7_noRow_32 ⟨Nat.le_refl _, Nat.le_refl _⟩ rfl ?_
      obtain ⟨rfl, rfl⟩ := x_inj2 hE
      exact y_ret dX7_noRow_35 (Nat.le_refl _) (Nat.le_refl _) ⟨_, rfl, rfl⟩
    · rw [if_neg hc13] at hE
      refine y_aload_n dX7_noRow_36 0 rfl ?_
      obtain ⟨a8, ea8, hE⟩ := Option.bind_eq_some_iff.mp hE
      refine y_getR fl_X7_7 ea8 dX7_noRow_37 ?_
      refine y_iload_n dX7_noRow_40 1 rfl ?_
      obtain ⟨x9, ex9, hE⟩ := Option.bind_eq_some_iff.mp hE
      refine y_iald ex9 dX7_noRow_41 ?_
      refine y_if_ne (tgt := 54) dX7_noRow_42 (by decide) (fun hc12 => ?_) (fun hc12 => ?_)
      · rw [if_pos hc12] at hE
        refine y_aload_n dX7_noRow_45 0 rfl ?_
        refine y_bipush (v := (-4 : Int32)) dX7_noRow_46 (by decide) ?_
        obtain ⟨u10, eu10, hE⟩ := Option.bind_eq_some_iff.mp hE
        obtain ⟨q11, eq11, hE⟩ := Option.bind_eq_some_iff.mp hE
        refine y_cVi0 (st := []) (as := [.int (-4 : Int32)]) (c_X7_refuse eq11) lk_X7_77 in_X7_refuse se_X7_refuse rfl eu10 ⟨Nat.le_of_ble_eq_true rfl, Nat.le_of_ble_eq_true rfl⟩ (Nat.le_of_ble_eq_true rfl) dX7_noRow_48 ⟨Nat.le_refl _, Nat.le_refl _⟩ rfl ?_
        refine y_goto (tgt := 55) dX7_noRow_51 (by decide) ?_
        obtain ⟨rfl, rfl⟩ := x_inj2 hE
        exact y_ret dX7_noRow_55 (Nat.le_refl _) (Nat.le_refl _) ⟨_, rfl, rfl⟩
      · rw [if_neg hc12] at hE
        refine y_iconst (v := (0 : Int32)) dX7_noRow_54 (by decide) ?_
        obtain ⟨rfl, rfl⟩ := x_inj2 hE
        exact y_ret dX7_noRow_55 (Nat.le_refl _) (Nat.le_refl _) ⟨_, rfl, rfl⟩
def f_X7_set (h : xH) (a0 : Nat) (p1 : Int32) (p2 : Int32) (p3 : Int64) : Option (Int32 × xH) :=
  (x_ob h a0 7).bind fun u1 =>
  (f_X7_noRow h a0 p1).bind fun q2 =>
  if q2.1 = 0 then
    (x_gR q2.2 a0 7 2).bind fun a3 =>
    (x_ld q2.2 a3 p1).bind fun x4 =>
    (f_X7_in q2.2 p2.toInt64 (0 : Int64) ((x4 - (1 : Int32)).toInt64)).bind fun q5 =>
    if q5 = 0 then
      (x_ob q2.2 a0 7).bind fun u6 =>
      (f_X7_refuse q2.2 a0 (-2 : Int32)).bind fun q7 =>
      some (q7.1, q7.2)
    else
      (x_gR q2.2 a0 7 3).bind fun a8 =>
      (x_ldQ q2.2 a8 p1).bind fun a9 =>
      (x_gR q2.2 a0 7 1).bind fun a10 =>
      (x_ld q2.2 a10 p1).bind fun x11 =>
      (f_X7_fit q2.2 x11 p3).bind fun q12 =>
      (x_stL q2.2 a9 p2 q12).bind fun h13 =>
      some ((1 : Int32), h13)
  else
    some (q2.1, q2.2)
set_option maxRecDepth 100000 in
set_option maxHeartbeats 4000000 in
theorem c_X7_set {h : xH} {a0 : Nat} {p1 : Int32} {p2 : Int32} {p3 : Int64} {r9 : Int32} {hz : xH} (hE : f_X7_set h a0 p1 p2 p3 = some (r9, hz)) : Ctr M_X7_set [.ref a0, .int p1, .int p2, .long p3] h (some (.int r9)) hz 0 0 := by
  refine ctr_of (by decide) (fun _ _ => Nat.le_of_ble_eq_true rfl) (fun S => ?_)
  show Y S M_X7_set h (some (.int r9)) hz 0 0 0 [(0, .ref a0), (1, .int p1), (2, .int p2), (3, .long p3)] [] h 0 0
  unfold f_X7_set at hE
  refine y_aload_n dX7_set_0 0 rfl ?_
  refine y_iload_n dX7_set_1 1 rfl ?_
  obtain ⟨u1, eu1, hE⟩ := Option.bind_eq_some_iff.mp hE
  obtain ⟨q2, eq2, hE⟩ := Option.bind_eq_some_iff.mp hE
  refine y_cVi0 (st := []) (as := [.int p1]) (c_X7_noRow eq2) lk_X7_81 in_X7_noRow se_X7_noRow rfl eu1 ⟨Nat.le_of_ble_eq_true rfl, Nat.le_of_ble_eq_true rfl⟩ (Nat.le_of_ble_eq_true rfl) dX7_set_2 ⟨Nat.le_refl _, Nat.le_refl _⟩ rfl ?_
  refine y_istore (ls' := [(5, .int q2.1), (0, .ref a0), (1, .int p1), (2, .int p2), (3, .long p3)]) dX7_set_5 (by decide) rfl rfl ?_
  refine y_iload dX7_set_7 0 rfl ?_
  refine y_if_eq (tgt := 15) dX7_set_9 (by decide) (fun hc15 => ?_) (fun hc15 => ?_)
  · rw [if_pos hc15] at hE
    refine y_iload_n dX7_set_15 3 rfl ?_
    refine y_i2l dX7_set_16 ?_
    refine y_lconst (v := (0 : Int64)) dX7_set_17 (by decide) ?_
    refine y_aload_n dX7_set_18 1 rfl ?_
    obtain ⟨a3, ea3, hE⟩ := Option.bind_eq_some_iff.mp hE
    refine y_getR fl_X7_16 ea3 dX7_set_19 ?_
    refine y_iload_n dX7_set_22 2 rfl ?_
    obtain ⟨x4, ex4, hE⟩ := Option.bind_eq_some_iff.mp hE
    refine y_iald ex4 dX7_set_23 ?_
    refine y_iconst (v := (1 : Int32)) dX7_set_24 (by decide) ?_
    refine y_isub dX7_set_25 ?_
    refine y_i2l dX7_set_26 ?_
    obtain ⟨q5, eq5, hE⟩ := Option.bind_eq_some_iff.mp hE
    refine y_cSi0 (st := []) (as := [.long p2.toInt64, .long (0 : Int64), .long ((x4 - (1 : Int32)).toInt64)]) (c_X7_in eq5) lk_X7_64 st_X7_in ⟨Nat.le_of_ble_eq_true rfl, Nat.le_of_ble_eq_true rfl⟩ (Nat.le_of_ble_eq_true rfl) dX7_set_27 ⟨Nat.le_refl _, Nat.le_refl _⟩ rfl ?_
    refine y_if_ne (tgt := 40) dX7_set_30 (by decide) (fun hc14 => ?_) (fun hc14 => ?_)
    · rw [if_pos hc14] at hE
      refine y_aload_n dX7_set_33 1 rfl ?_
      refine y_bipush (v := (-2 : Int32)) dX7_set_34 (by decide) ?_
      obtain ⟨u6, eu6, hE⟩ := Option.bind_eq_some_iff.mp hE
      obtain ⟨q7, eq7, hE⟩ := Option.bind_eq_some_iff.mp hE
      refine y_cVi0 (st := []) (as := [.int (-2 : Int32)]) (c_X7_refuse eq7) lk_X7_77 in_X7_refuse se_X7_refuse rfl eu6 ⟨Nat.le_of_ble_eq_true rfl, Nat.le_of_ble_eq_true rfl⟩ (Nat.le_of_ble_eq_true rfl) dX7_set_36 ⟨Nat.le_refl _, Nat.le_refl _⟩ rfl ?_
      obtain ⟨rfl, rfl⟩ := x_inj2 hE
      exact y_ret dX7_set_39 (Nat.le_refl _) (Nat.le_refl _) ⟨_, rfl, rfl⟩
    · rw [if_neg hc14] at hE
      refine y_aload_n dX7_set_40 1 rfl ?_
      obtain ⟨a8, ea8, hE⟩ := Option.bind_eq_some_iff.mp hE
      refine y_getR fl_X7_21 ea8 dX7_set_41 ?_
      refine y_iload_n dX7_set_44 2 rfl ?_
      obtain ⟨a9, ea9, hE⟩ := Option.bind_eq_some_iff.mp hE
      refine y_aald ea9 dX7_set_45 ?_
      refine y_iload_n dX7_set_46 3 rfl ?_
      refine y_aload_n dX7_set_47 1 rfl ?_
      obtain ⟨a10, ea10, hE⟩ := Option.bind_eq_some_iff.mp hE
      refine y_getR fl_X7_13 ea10 dX7_set_48 ?_
      refine y_iload_n dX7_set_51 2 rfl ?_
      obtain ⟨x11, ex11, hE⟩ := Option.bind_eq_some_iff.mp hE
      refine y_iald ex11 dX7_set_52 ?_
      refine y_lload_n dX7_set_53 4 rfl ?_
      obtain ⟨q12, eq12, hE⟩ := Option.bind_eq_some_iff.mp hE
      refine y_cSl0 (st := [.int p2, .ref a9]) (as := [.int x11, .long p3]) (c_X7_fit eq12) lk_X7_84 st_X7_fit ⟨Nat.le_of_ble_eq_true rfl, Nat.le_of_ble_eq_true rfl⟩ (Nat.le_of_ble_eq_true rfl) dX7_set_54 ⟨Nat.le_refl _, Nat.le_refl _⟩ rfl ?_
      obtain ⟨h13, eh13, hE⟩ := Option.bind_eq_some_iff.mp hE
      refine y_last eh13 dX7_set_57 ?_
      refine y_iconst (v := (1 : Int32)) dX7_set_58 (by decide) ?_
      obtain ⟨rfl, rfl⟩ := x_inj2 hE
      exact y_ret dX7_set_59 (Nat.le_refl _) (Nat.le_refl _) ⟨_, rfl, rfl⟩
  · rw [if_neg hc15] at hE
    refine y_iload dX7_set_12 0 rfl ?_
    obtain ⟨rfl, rfl⟩ := x_inj2 hE
    exact y_ret dX7_set_14 (Nat.le_refl _) (Nat.le_refl _) ⟨_, rfl, rfl⟩
def f_X7_copy_L191 (v0 : Nat) (v1 : Int32) (v2 : Int32) (v3 : Int32) (v4 : Int32) (v5 : Int32) : Nat → Int32 → xH → Option (xH)
  | 0, _, _ => none
  | k + 1, v6, h =>
    if v5 ≤ v6 then
      some h
    else
      (x_gR h v0 7 4).bind fun a51 =>
      (x_gR h v0 7 3).bind fun a52 =>
      (x_ldQ h a52 v1).bind fun a53 =>
      (x_ldL h a53 (v3 + v6)).bind fun x54 =>
      (x_stL h a51 v6 x54).bind fun h55 =>
      (some (v6 + (1 : Int32))).bind fun x56 =>
      f_X7_copy_L191 v0 v1 v2 v3 v4 v5 k x56 h55
set_option maxRecDepth 100000 in
set_option maxHeartbeats 4000000 in
theorem l_X7_copy_191 {S : Nat × (Nat → Int32)} {rv : Option Value} {h0 h1 : xH} {mc ms : Nat} {cells slots : Nat} (hm : cells ≤ mc ∧ slots ≤ ms) (v0 : Nat) (v1 : Int32) (v2 : Int32) (v3 : Int32) (v4 : Int32) (v5 : Int32) : ∀ (k : Nat) (v6 : Int32) (h : xH) (res : xH), f_X7_copy_L191 v0 v1 v2 v3 v4 v5 k v6 h = some res → (∀ r9, res = r9 → Y S M_X7_copy h0 rv h1 mc ms 222 [(0, .ref v0), (2, .int v2), (4, .int v4), (5, .int v5)] [] r9 cells slots) → Y S M_X7_copy h0 rv h1 mc ms 191 [(0, .ref v0), (1, .int v1), (2, .int v2), (3, .int v3), (4, .int v4), (5, .int v5), (6, .int v6)] [] h cells slots := by
  intro k
  induction k with
  | zero =>
    intro _ _ _ hE
    cases hE
  | succ k ih =>
    intro v6 h res hE K
    unfold f_X7_copy_L191 at hE
    refine y_iload dX7_copy_191 6 rfl ?_
    refine y_iload dX7_copy_193 5 rfl ?_
    refine y_icmp_ge (tgt := 222) dX7_copy_195 (by decide) (fun hc57 => ?_) (fun hc57 => ?_)
    · rw [if_pos hc57] at hE
      obtain rfl := Option.some.inj hE
      exact y_pick [0, 2, 4, 5] rfl (K _ rfl)
    · rw [if_neg hc57] at hE
      refine y_aload_n dX7_copy_198 0 rfl ?_
      obtain ⟨a51, ea51, hE⟩ := Option.bind_eq_some_iff.mp hE
      refine y_getR fl_X7_24 ea51 dX7_copy_199 ?_
      refine y_iload dX7_copy_202 6 rfl ?_
      refine y_aload_n dX7_copy_204 0 rfl ?_
      obtain ⟨a52, ea52, hE⟩ := Option.bind_eq_some_iff.mp hE
      refine y_getR fl_X7_21 ea52 dX7_copy_205 ?_
      refine y_iload_n dX7_copy_208 1 rfl ?_
      obtain ⟨a53, ea53, hE⟩ := Option.bind_eq_some_iff.mp hE
      refine y_aald ea53 dX7_copy_209 ?_
      refine y_iload_n dX7_copy_210 3 rfl ?_
      refine y_iload dX7_copy_211 6 rfl ?_
      refine y_iadd dX7_copy_213 ?_
      obtain ⟨x54, ex54, hE⟩ := Option.bind_eq_some_iff.mp hE
      refine y_lald ex54 dX7_copy_214 ?_
      obtain ⟨h55, eh55, hE⟩ := Option.bind_eq_some_iff.mp hE
      refine y_last eh55 dX7_copy_215 ?_
      obtain ⟨x56, ex56, hE⟩ := Option.bind_eq_some_iff.mp hE
      refine y_iinc (ls' := [(6, .int x56), (0, .ref v0), (1, .int v1), (2, .int v2), (3, .int v3), (4, .int v4), (5, .int v5)]) dX7_copy_216 6 rfl (Option.some.inj ex56) (by decide) rfl ?_
      refine y_goto (tgt := 191) dX7_copy_219 (by decide) ?_
      refine y_pick [1, 2, 3, 4, 5, 6, 0] rfl ?_
      exact ih _ _ _ hE K
def f_X7_copy_L225 (v0 : Nat) (v2 : Int32) (v4 : Int32) (v5 : Int32) : Nat → Int32 → xH → Option (xH)
  | 0, _, _ => none
  | k + 1, v6, h =>
    if v5 ≤ v6 then
      some h
    else
      (x_gR h v0 7 3).bind fun a59 =>
      (x_ldQ h a59 v2).bind fun a60 =>
      (x_gR h v0 7 4).bind fun a61 =>
      (x_ldL h a61 v6).bind fun x62 =>
      (x_stL h a60 (v4 + v6) x62).bind fun h63 =>
      (some (v6 + (1 : Int32))).bind fun x64 =>
      f_X7_copy_L225 v0 v2 v4 v5 k x64 h63
set_option maxRecDepth 100000 in
set_option maxHeartbeats 4000000 in
theorem l_X7_copy_225 {S : Nat × (Nat → Int32)} {rv : Option Value} {h0 h1 : xH} {mc ms : Nat} {cells slots : Nat} (hm : cells ≤ mc ∧ slots ≤ ms) (v0 : Nat) (v2 : Int32) (v4 : Int32) (v5 : Int32) : ∀ (k : Nat) (v6 : Int32) (h : xH) (res : xH), f_X7_copy_L225 v0 v2 v4 v5 k v6 h = some res → (∀ r9, res = r9 → Y S M_X7_copy h0 rv h1 mc ms 257 [(5, .int v5)] [] r9 cells slots) → Y S M_X7_copy h0 rv h1 mc ms 225 [(0, .ref v0), (2, .int v2), (4, .int v4), (5, .int v5), (6, .int v6)] [] h cells slots := by
  intro k
  induction k with
  | zero =>
    intro _ _ _ hE
    cases hE
  | succ k ih =>
    intro v6 h res hE K
    unfold f_X7_copy_L225 at hE
    refine y_iload dX7_copy_225 4 rfl ?_
    refine y_iload dX7_copy_227 3 rfl ?_
    refine y_icmp_ge (tgt := 257) dX7_copy_229 (by decide) (fun hc65 => ?_) (fun hc65 => ?_)
    · rw [if_pos hc65] at hE
      obtain rfl := Option.some.inj hE
      exact y_pick [3] rfl (K _ rfl)
    · rw [if_neg hc65] at hE
      refine y_aload_n dX7_copy_232 0 rfl ?_
      obtain ⟨a59, ea59, hE⟩ := Option.bind_eq_some_iff.mp hE
      refine y_getR fl_X7_21 ea59 dX7_copy_233 ?_
      refine y_iload_n dX7_copy_236 1 rfl ?_
      obtain ⟨a60, ea60, hE⟩ := Option.bind_eq_some_iff.mp hE
      refine y_aald ea60 dX7_copy_237 ?_
      refine y_iload dX7_copy_238 2 rfl ?_
      refine y_iload dX7_copy_240 4 rfl ?_
      refine y_iadd dX7_copy_242 ?_
      refine y_aload_n dX7_copy_243 0 rfl ?_
      obtain ⟨a61, ea61, hE⟩ := Option.bind_eq_some_iff.mp hE
      refine y_getR fl_X7_24 ea61 dX7_copy_244 ?_
      refine y_iload dX7_copy_247 4 rfl ?_
      obtain ⟨x62, ex62, hE⟩ := Option.bind_eq_some_iff.mp hE
      refine y_lald ex62 dX7_copy_249 ?_
      obtain ⟨h63, eh63, hE⟩ := Option.bind_eq_some_iff.mp hE
      refine y_last eh63 dX7_copy_250 ?_
      obtain ⟨x64, ex64, hE⟩ := Option.bind_eq_some_iff.mp hE
      refine y_iinc (ls' := [(6, .int x64), (0, .ref v0), (2, .int v2), (4, .int v4), (5, .int v5)]) dX7_copy_251 4 rfl (Option.some.inj ex64) (by decide) rfl ?_
      refine y_goto (tgt := 225) dX7_copy_254 (by decide) ?_
      refine y_pick [1, 2, 3, 4, 0] rfl ?_
      exact ih _ _ _ hE K
def f_X7_copy_J93 (n : Nat) (h : xH) (v0 : Nat) (v1 : Int32) (v2 : Int32) (v3 : Int32) (v4 : Int32) (v5 : Int32) : Option (Int32 × xH) :=
  (x_gR h v0 7 0).bind fun a23 =>
  (x_ld h a23 v1).bind fun x24 =>
  if x24 = 0 then
    (x_ob h v0 7).bind fun u25 =>
    (f_X7_refuse h v0 (-4 : Int32)).bind fun q26 =>
    some (q26.1, q26.2)
  else
    (x_gR h v0 7 0).bind fun a27 =>
    (x_ld h a27 v2).bind fun x28 =>
    if x28 = 0 then
      (x_ob h v0 7).bind fun u29 =>
      (f_X7_refuse h v0 (-4 : Int32)).bind fun q30 =>
      some (q30.1, q30.2)
    else
      if v5 < 0 then
        (x_ob h v0 7).bind fun u31 =>
        (f_X7_refuse h v0 (-2 : Int32)).bind fun q32 =>
        some (q32.1, q32.2)
      else
        if v3 < 0 then
          (x_ob h v0 7).bind fun u33 =>
          (f_X7_refuse h v0 (-2 : Int32)).bind fun q34 =>
          some (q34.1, q34.2)
        else
          if v4 < 0 then
            (x_ob h v0 7).bind fun u35 =>
            (f_X7_refuse h v0 (-2 : Int32)).bind fun q36 =>
            some (q36.1, q36.2)
          else
            (x_gR h v0 7 2).bind fun a37 =>
            (x_ld h a37 v1).bind fun x38 =>
            if x38 < v5 then
              (x_ob h v0 7).bind fun u39 =>
              (f_X7_refuse h v0 (-2 : Int32)).bind fun q40 =>
              some (q40.1, q40.2)
            else
              (x_gR h v0 7 2).bind fun a41 =>
              (x_ld h a41 v2).bind fun x42 =>
              if x42 < v5 then
                (x_ob h v0 7).bind fun u43 =>
                (f_X7_refuse h v0 (-2 : Int32)).bind fun q44 =>
                some (q44.1, q44.2)
              else
                (x_gR h v0 7 2).bind fun a45 =>
                (x_ld h a45 v1).bind fun x46 =>
                if (x46 - v5) < v3 then
                  (x_ob h v0 7).bind fun u47 =>
                  (f_X7_refuse h v0 (-2 : Int32)).bind fun q48 =>
                  some (q48.1, q48.2)
                else
                  (x_gR h v0 7 2).bind fun a49 =>
                  (x_ld h a49 v2).bind fun x50 =>
                  if v4 ≤ (x50 - v5) then
                    (f_X7_copy_L191 v0 v1 v2 v3 v4 v5 n (0 : Int32) h).bind fun q58 =>
                    (f_X7_copy_L225 v0 v2 v4 v5 n (0 : Int32) q58).bind fun q66 =>
                    some (v5, q66)
                  else
                    (x_ob h v0 7).bind fun u67 =>
                    (f_X7_refuse h v0 (-2 : Int32)).bind fun q68 =>
                    some (q68.1, q68.2)
set_option maxRecDepth 100000 in
set_option maxHeartbeats 4000000 in
theorem j_X7_copy_93 {S : Nat × (Nat → Int32)} {h0 : xH} {mc ms cells slots : Nat} {n : Nat} {h : xH} {v0 : Nat} {v1 : Int32} {v2 : Int32} {v3 : Int32} {v4 : Int32} {v5 : Int32} {r9 : Int32} {hz : xH} (hE : f_X7_copy_J93 n h v0 v1 v2 v3 v4 v5 = some (r9, hz)) (hm : cells ≤ mc ∧ slots ≤ ms) : Y S M_X7_copy h0 (some (.int r9)) hz mc ms 93 [(0, .ref v0), (1, .int v1), (2, .int v2), (3, .int v3), (4, .int v4), (5, .int v5)] [] h cells slots := by
  unfold f_X7_copy_J93 at hE
  refine y_aload_n dX7_copy_93 0 rfl ?_
  obtain ⟨a23, ea23, hE⟩ := Option.bind_eq_some_iff.mp hE
  refine y_getR fl_X7_7 ea23 dX7_copy_94 ?_
  refine y_iload_n dX7_copy_97 1 rfl ?_
  obtain ⟨x24, ex24, hE⟩ := Option.bind_eq_some_iff.mp hE
  refine y_iald ex24 dX7_copy_98 ?_
  refine y_if_eq (tgt := 111) dX7_copy_99 (by decide) (fun hc77 => ?_) (fun hc77 => ?_)
  · rw [if_pos hc77] at hE
    refine y_aload_n dX7_copy_111 0 rfl ?_
    refine y_bipush (v := (-4 : Int32)) dX7_copy_112 (by decide) ?_
    obtain ⟨u25, eu25, hE⟩ := Option.bind_eq_some_iff.mp hE
    obtain ⟨q26, eq26, hE⟩ := Option.bind_eq_some_iff.mp hE
    refine y_cVi0 (st := []) (as := [.int (-4 : Int32)]) (c_X7_refuse eq26) lk_X7_77 in_X7_refuse se_X7_refuse rfl eu25 ⟨Nat.le_of_ble_eq_true rfl, Nat.le_of_ble_eq_true rfl⟩ (Nat.le_of_ble_eq_true rfl) dX7_copy_114 hm rfl ?_
    obtain ⟨rfl, rfl⟩ := x_inj2 hE
    exact y_ret dX7_copy_117 hm.1 hm.2 ⟨_, rfl, rfl⟩
  · rw [if_neg hc77] at hE
    refine y_aload_n dX7_copy_102 0 rfl ?_
    obtain ⟨a27, ea27, hE⟩ := Option.bind_eq_some_iff.mp hE
    refine y_getR fl_X7_7 ea27 dX7_copy_103 ?_
    refine y_iload_n dX7_copy_106 2 rfl ?_
    obtain ⟨x28, ex28, hE⟩ := Option.bind_eq_some_iff.mp hE
    refine y_iald ex28 dX7_copy_107 ?_
    refine y_if_ne (tgt := 118) dX7_copy_108 (by decide) (fun hc76 => ?_) (fun hc76 => ?_)
    · rw [if_pos hc76] at hE
      refine y_aload_n dX7_copy_111 0 rfl ?_
      refine y_bipush (v := (-4 : Int32)) dX7_copy_112 (by decide) ?_
      obtain ⟨u29, eu29, hE⟩ := Option.bind_eq_some_iff.mp hE
      obtain ⟨q30, eq30, hE⟩ := Option.bind_eq_some_iff.mp hE
      refine y_cVi0 (st := []) (as := [.int (-4 : Int32)]) (c_X7_refuse eq30) lk_X7_77 in_X7_refuse se_X7_refuse rfl eu29 ⟨Nat.le_of_ble_eq_true rfl, Nat.le_of_ble_eq_true rfl⟩ (Nat.le_of_ble_eq_true rfl) dX7_copy_114 hm rfl ?_
      obtain ⟨rfl, rfl⟩ := x_inj2 hE
      exact y_ret dX7_copy_117 hm.1 hm.2 ⟨_, rfl, rfl⟩
    · rw [if_neg hc76] at hE
      refine y_iload dX7_copy_118 5 rfl ?_
      refine y_if_lt (tgt := 181) dX7_copy_120 (by decide) (fun hc75 => ?_) (fun hc75 => ?_)
      · rw [if_pos hc75] at hE
        refine y_aload_n dX7_copy_181 0 rfl ?_
        refine y_bipush (v := (-2 : Int32)) dX7_copy_182 (by decide) ?_
        obtain ⟨u31, eu31, hE⟩ := Option.bind_eq_some_iff.mp hE
        obtain ⟨q32, eq32, hE⟩ := Option.bind_eq_some_iff.mp hE
        refine y_cVi0 (st := []) (as := [.int (-2 : Int32)]) (c_X7_refuse eq32) lk_X7_77 in_X7_refuse se_X7_refuse rfl eu31 ⟨Nat.le_of_ble_eq_true rfl, Nat.le_of_ble_eq_true rfl⟩ (Nat.le_of_ble_eq_true rfl) dX7_copy_184 hm rfl ?_
        obtain ⟨rfl, rfl⟩ := x_inj2 hE
        exact y_ret dX7_copy_187 hm.1 hm.2 ⟨_, rfl, rfl⟩
      · rw [if_neg hc75] at hE
        refine y_iload_n dX7_copy_123 3 rfl ?_
        refine y_if_lt (tgt := 181) dX7_copy_124 (by decide) (fun hc74 => ?_) (fun hc74 => ?_)
        · rw [if_pos hc74] at hE
          refine y_aload_n dX7_copy_181 0 rfl ?_
          refine y_bipush (v := (-2 : Int32)) dX7_copy_182 (by decide) ?_
          obtain ⟨u33, eu33, hE⟩ := Option.bind_eq_some_iff.mp hE
          obtain ⟨q34, eq34, hE⟩ := Option.bind_eq_some_iff.mp hE
          refine y_cVi0 (st := []) (as := [.int (-2 : Int32)]) (c_X7_refuse eq34) lk_X7_77 in_X7_refuse se_X7_refuse rfl eu33 ⟨Nat.le_of_ble_eq_true rfl, Nat.le_of_ble_eq_true rfl⟩ (Nat.le_of_ble_eq_true rfl) dX7_copy_184 hm rfl ?_
          obtain ⟨rfl, rfl⟩ := x_inj2 hE
          exact y_ret dX7_copy_187 hm.1 hm.2 ⟨_, rfl, rfl⟩
        · rw [if_neg hc74] at hE
          refine y_iload dX7_copy_127 4 rfl ?_
          refine y_if_lt (tgt := 181) dX7_copy_129 (by decide) (fun hc73 => ?_) (fun hc73 => ?_)
          · rw [if_pos hc73] at hE
            refine y_aload_n dX7_copy_181 0 rfl ?_
            refine y_bipush (v := (-2 : Int32)) dX7_copy_182 (by decide) ?_
            obtain ⟨u35, eu35, hE⟩ := Option.bind_eq_some_iff.mp hE
            obtain ⟨q36, eq36, hE⟩ := Option.bind_eq_some_iff.mp hE
            refine y_cVi0 (st := []) (as := [.int (-2 : Int32)]) (c_X7_refuse eq36) lk_X7_77 in_X7_refuse se_X7_refuse rfl eu35 ⟨Nat.le_of_ble_eq_true rfl, Nat.le_of_ble_eq_true rfl⟩ (Nat.le_of_ble_eq_true rfl) dX7_copy_184 hm rfl ?_
            obtain ⟨rfl, rfl⟩ := x_inj2 hE
            exact y_ret dX7_copy_187 hm.1 hm.2 ⟨_, rfl, rfl⟩
          · rw [if_neg hc73] at hE
            refine y_iload dX7_copy_132 5 rfl ?_
            refine y_aload_n dX7_copy_134 0 rfl ?_
            obtain ⟨a37, ea37, hE⟩ := Option.bind_eq_some_iff.mp hE
            refine y_getR fl_X7_16 ea37 dX7_copy_135 ?_
            refine y_iload_n dX7_copy_138 1 rfl ?_
            obtain ⟨x38, ex38, hE⟩ := Option.bind_eq_some_iff.mp hE
            refine y_iald ex38 dX7_copy_139 ?_
            refine y_icmp_gt (tgt := 181) dX7_copy_140 (by decide) (fun hc72 => ?_) (fun hc72 => ?_)
            · rw [if_pos hc72] at hE
              refine y_aload_n dX7_copy_181 0 rfl ?_
              refine y_bipush (v := (-2 : Int32)) dX7_copy_182 (by decide) ?_
              obtain ⟨u39, eu39, hE⟩ := Option.bind_eq_some_iff.mp hE
              obtain ⟨q40, eq40, hE⟩ := Option.bind_eq_some_iff.mp hE
              refine y_cVi0 (st := []) (as := [.int (-2 : Int32)]) (c_X7_refuse eq40) lk_X7_77 in_X7_refuse se_X7_refuse rfl eu39 ⟨Nat.le_of_ble_eq_true rfl, Nat.le_of_ble_eq_true rfl⟩ (Nat.le_of_ble_eq_true rfl) dX7_copy_184 hm rfl ?_
              obtain ⟨rfl, rfl⟩ := x_inj2 hE
              exact y_ret dX7_copy_187 hm.1 hm.2 ⟨_, rfl, rfl⟩
            · rw [if_neg hc72] at hE
              refine y_iload dX7_copy_143 5 rfl ?_
              refine y_aload_n dX7_copy_145 0 rfl ?_
              obtain ⟨a41, ea41, hE⟩ := Option.bind_eq_some_iff.mp hE
              refine y_getR fl_X7_16 ea41 dX7_copy_146 ?_
              refine y_iload_n dX7_copy_149 2 rfl ?_
              obtain ⟨x42, ex42, hE⟩ := Option.bind_eq_some_iff.mp hE
              refine y_iald ex42 dX7_copy_150 ?_
              refine y_icmp_gt (tgt := 181) dX7_copy_151 (by decide) (fun hc71 => ?_) (fun hc71 => ?_)
              · rw [if_pos hc71] at hE
                refine y_aload_n dX7_copy_181 0 rfl ?_
                refine y_bipush (v := (-2 : Int32)) dX7_copy_182 (by decide) ?_
                obtain ⟨u43, eu43, hE⟩ := Option.bind_eq_some_iff.mp hE
                obtain ⟨q44, eq44, hE⟩ := Option.bind_eq_some_iff.mp hE
                refine y_cVi0 (st := []) (as := [.int (-2 : Int32)]) (c_X7_refuse eq44) lk_X7_77 in_X7_refuse se_X7_refuse rfl eu43 ⟨Nat.le_of_ble_eq_true rfl, Nat.le_of_ble_eq_true rfl⟩ (Nat.le_of_ble_eq_true rfl) dX7_copy_184 hm rfl ?_
                obtain ⟨rfl, rfl⟩ := x_inj2 hE
                exact y_ret dX7_copy_187 hm.1 hm.2 ⟨_, rfl, rfl⟩
              · rw [if_neg hc71] at hE
                refine y_iload_n dX7_copy_154 3 rfl ?_
                refine y_aload_n dX7_copy_155 0 rfl ?_
                obtain ⟨a45, ea45, hE⟩ := Option.bind_eq_some_iff.mp hE
                refine y_getR fl_X7_16 ea45 dX7_copy_156 ?_
                refine y_iload_n dX7_copy_159 1 rfl ?_
                obtain ⟨x46, ex46, hE⟩ := Option.bind_eq_some_iff.mp hE
                refine y_iald ex46 dX7_copy_160 ?_
                refine y_iload dX7_copy_161 5 rfl ?_
                refine y_isub dX7_copy_163 ?_
                refine y_icmp_gt (tgt := 181) dX7_copy_164 (by decide) (fun hc70 => ?_) (fun hc70 => ?_)
                · rw [if_pos hc70] at hE
                  refine y_aload_n dX7_copy_181 0 rfl ?_
                  refine y_bipush (v := (-2 : Int32)) dX7_copy_182 (by decide) ?_
                  obtain ⟨u47, eu47, hE⟩ := Option.bind_eq_some_iff.mp hE
                  obtain ⟨q48, eq48, hE⟩ := Option.bind_eq_some_iff.mp hE
                  refine y_cVi0 (st := []) (as := [.int (-2 : Int32)]) (c_X7_refuse eq48) lk_X7_77 in_X7_refuse se_X7_refuse rfl eu47 ⟨Nat.le_of_ble_eq_true rfl, Nat.le_of_ble_eq_true rfl⟩ (Nat.le_of_ble_eq_true rfl) dX7_copy_184 hm rfl ?_
                  obtain ⟨rfl, rfl⟩ := x_inj2 hE
                  exact y_ret dX7_copy_187 hm.1 hm.2 ⟨_, rfl, rfl⟩
                · rw [if_neg hc70] at hE
                  refine y_iload dX7_copy_167 4 rfl ?_
                  refine y_aload_n dX7_copy_169 0 rfl ?_
                  obtain ⟨a49, ea49, hE⟩ := Option.bind_eq_some_iff.mp hE
                  refine y_getR fl_X7_16 ea49 dX7_copy_170 ?_
                  refine y_iload_n dX7_copy_173 2 rfl ?_
                  obtain ⟨x50, ex50, hE⟩ := Option.bind_eq_some_iff.mp hE
                  refine y_iald ex50 dX7_copy_174 ?_
                  refine y_iload dX7_copy_175 5 rfl ?_
                  refine y_isub dX7_copy_177 ?_
                  refine y_icmp_le (tgt := 188) dX7_copy_178 (by decide) (fun hc69 => ?_) (fun hc69 => ?_)
                  · rw [if_pos hc69] at hE
                    refine y_iconst (v := (0 : Int32)) dX7_copy_188 (by decide) ?_
                    refine y_istore (ls' := [(6, .int (0 : Int32)), (0, .ref v0), (1, .int v1), (2, .int v2), (3, .int v3), (4, .int v4), (5, .int v5)]) dX7_copy_189 (by decide) rfl rfl ?_
                    obtain ⟨q58, eq58, hE⟩ := Option.bind_eq_some_iff.mp hE
                    refine y_pick [1, 2, 3, 4, 5, 6, 0] rfl ?_
                    refine l_X7_copy_191 (S := S) hm v0 v1 v2 v3 v4 v5 n (0 : Int32) h _ eq58 (fun r8 hr8 => ?_)
                    subst hr8
                    refine y_iconst (v := (0 : Int32)) dX7_copy_222 (by decide) ?_
                    refine y_istore (ls' := [(6, .int (0 : Int32)), (0, .ref v0), (2, .int v2), (4, .int v4), (5, .int v5)]) dX7_copy_223 (by decide) rfl rfl ?_
                    obtain ⟨q66, eq66, hE⟩ := Option.bind_eq_some_iff.mp hE
                    refine y_pick [1, 2, 3, 4, 0] rfl ?_
                    refine l_X7_copy_225 (S := S) hm v0 v2 v4 v5 n (0 : Int32) q58 _ eq66 (fun r8 hr8 => ?_)
                    subst hr8
                    refine y_iload dX7_copy_257 0 rfl ?_
                    obtain ⟨rfl, rfl⟩ := x_inj2 hE
                    exact y_ret dX7_copy_259 hm.1 hm.2 ⟨_, rfl, rfl⟩
                  · rw [if_neg hc69] at hE
                    refine y_aload_n dX7_copy_181 0 rfl ?_
                    refine y_bipush (v := (-2 : Int32)) dX7_copy_182 (by decide) ?_
                    obtain ⟨u67, eu67, hE⟩ := Option.bind_eq_some_iff.mp hE
                    obtain ⟨q68, eq68, hE⟩ := Option.bind_eq_some_iff.mp hE
                    refine y_cVi0 (st := []) (as := [.int (-2 : Int32)]) (c_X7_refuse eq68) lk_X7_77 in_X7_refuse se_X7_refuse rfl eu67 ⟨Nat.le_of_ble_eq_true rfl, Nat.le_of_ble_eq_true rfl⟩ (Nat.le_of_ble_eq_true rfl) dX7_copy_184 hm rfl ?_
                    obtain ⟨rfl, rfl⟩ := x_inj2 hE
                    exact y_ret dX7_copy_187 hm.1 hm.2 ⟨_, rfl, rfl⟩
def f_X7_copy (n : Nat) (h : xH) (a0 : Nat) (p1 : Int32) (p2 : Int32) (p3 : Int32) (p4 : Int32) (p5 : Int32) : Option (Int32 × xH) :=
  (f_X7_in h p1.toInt64 (0 : Int64) (7 : Int64)).bind fun q1 =>
  if q1 = 0 then
    (x_ob h a0 7).bind fun u2 =>
    (f_X7_refuse h a0 (-2 : Int32)).bind fun q3 =>
    some (q3.1, q3.2)
  else
    (f_X7_in h p2.toInt64 (0 : Int64) (7 : Int64)).bind fun q4 =>
    if q4 = 0 then
      (x_ob h a0 7).bind fun u5 =>
      (f_X7_refuse h a0 (-2 : Int32)).bind fun q6 =>
      some (q6.1, q6.2)
    else
      (x_gR h a0 7 0).bind fun a7 =>
      (x_ld h a7 p1).bind fun x8 =>
      if x8 = (2 : Int32) then
        (x_ob h a0 7).bind fun u9 =>
        (f_X7_refuse h a0 (-3 : Int32)).bind fun q10 =>
        some (q10.1, q10.2)
      else
        (x_gR h a0 7 0).bind fun a11 =>
        (x_ld h a11 p2).bind fun x12 =>
        if x12 = (2 : Int32) then
          (x_ob h a0 7).bind fun u13 =>
          (f_X7_refuse h a0 (-3 : Int32)).bind fun q14 =>
          some (q14.1, q14.2)
        else
          (x_gR h a0 7 0).bind fun a15 =>
          (x_ld h a15 p1).bind fun x16 =>
          if x16 = (1 : Int32) then
            (x_gR h a0 7 0).bind fun a17 =>
            (x_ld h a17 p2).bind fun x18 =>
            if x18 = (1 : Int32) then
              (x_gR h a0 7 1).bind fun a19 =>
              (x_ld h a19 p1).bind fun x20 =>
              (x_gR h a0 7 1).bind fun a21 =>
              (x_ld h a21 p2).bind fun x22 =>
              if x20 = x22 then
                f_X7_copy_J93 n h a0 p1 p2 p3 p4 p5
              else
                (x_ob h a0 7).bind fun u78 =>
                (f_X7_refuse h a0 (-3 : Int32)).bind fun q79 =>
                some (q79.1, q79.2)
            else
              f_X7_copy_J93 n h a0 p1 p2 p3 p4 p5
          else
            f_X7_copy_J93 n h a0 p1 p2 p3 p4 p5
set_option maxRecDepth 100000 in
set_option maxHeartbeats 4000000 in
theorem c_X7_copy {n : Nat} {h : xH} {a0 : Nat} {p1 : Int32} {p2 : Int32} {p3 : Int32} {p4 : Int32} {p5 : Int32} {r9 : Int32} {hz : xH} (hE : f_X7_copy n h a0 p1 p2 p3 p4 p5 = some (r9, hz)) : Ctr M_X7_copy [.ref a0, .int p1, .int p2, .int p3, .int p4, .int p5] h (some (.int r9)) hz 0 0 := by
  refine ctr_of (by decide) (fun _ _ => Nat.le_of_ble_eq_true rfl) (fun S => ?_)
  show Y S M_X7_copy h (some (.int r9)) hz 0 0 0 [(0, .ref a0), (1, .int p1), (2, .int p2), (3, .int p3), (4, .int p4), (5, .int p5)] [] h 0 0
  unfold f_X7_copy at hE
  refine y_iload_n dX7_copy_0 1 rfl ?_
  refine y_i2l dX7_copy_1 ?_
  refine y_lconst (v := (0 : Int64)) dX7_copy_2 (by decide) ?_
  refine y_ldc2 (v := (7 : Int64)) (x_wt (tb 1051 (by decide +kernel)) rfl) dX7_copy_3 ?_
  obtain ⟨q1, eq1, hE⟩ := Option.bind_eq_some_iff.mp hE
  refine y_cSi0 (st := []) (as := [.long p1.toInt64, .long (0 : Int64), .long (7 : Int64)]) (c_X7_in eq1) lk_X7_64 st_X7_in ⟨Nat.le_of_ble_eq_true rfl, Nat.le_of_ble_eq_true rfl⟩ (Nat.le_of_ble_eq_true rfl) dX7_copy_6 ⟨Nat.le_refl _, Nat.le_refl _⟩ rfl ?_
  refine y_if_eq (tgt := 24) dX7_copy_9 (by decide) (fun hc86 => ?_) (fun hc86 => ?_)
  · rw [if_pos hc86] at hE
    refine y_aload_n dX7_copy_24 0 rfl ?_
    refine y_bipush (v := (-2 : Int32)) dX7_copy_25 (by decide) ?_
    obtain ⟨u2, eu2, hE⟩ := Option.bind_eq_some_iff.mp hE
    obtain ⟨q3, eq3, hE⟩ := Option.bind_eq_some_iff.mp hE
    refine y_cVi0 (st := []) (as := [.int (-2 : Int32)]) (c_X7_refuse eq3) lk_X7_77 in_X7_refuse se_X7_refuse rfl eu2 ⟨Nat.le_of_ble_eq_true rfl, Nat.le_of_ble_eq_true rfl⟩ (Nat.le_of_ble_eq_true rfl) dX7_copy_27 ⟨Nat.le_refl _, Nat.le_refl _⟩ rfl ?_
    obtain ⟨rfl, rfl⟩ := x_inj2 hE
    exact y_ret dX7_copy_30 (Nat.le_refl _) (Nat.le_refl _) ⟨_, rfl, rfl⟩
  · rw [if_neg hc86] at hE
    refine y_iload_n dX7_copy_12 2 rfl ?_
    refine y_i2l dX7_copy_13 ?_
    refine y_lconst (v := (0 : Int64)) dX7_copy_14 (by decide) ?_
    refine y_ldc2 (v := (7 : Int64)) (x_wt (tb 1051 (by decide +kernel)) rfl) dX7_copy_15 ?_
    obtain ⟨q4, eq4, hE⟩ := Option.bind_eq_some_iff.mp hE
    refine y_cSi0 (st := []) (as := [.long p2.toInt64, .long (0 : Int64), .long (7 : Int64)]) (c_X7_in eq4) lk_X7_64 st_X7_in ⟨Nat.le_of_ble_eq_true rfl, Nat.le_of_ble_eq_true rfl⟩ (Nat.le_of_ble_eq_true rfl) dX7_copy_18 ⟨Nat.le_refl _, Nat.le_refl _⟩ rfl ?_
    refine y_if_ne (tgt := 31) dX7_copy_21 (by decide) (fun hc85 => ?_) (fun hc85 => ?_)
    · rw [if_pos hc85] at hE
      refine y_aload_n dX7_copy_24 0 rfl ?_
      refine y_bipush (v := (-2 : Int32)) dX7_copy_25 (by decide) ?_
      obtain ⟨u5, eu5, hE⟩ := Option.bind_eq_some_iff.mp hE
      obtain ⟨q6, eq6, hE⟩ := Option.bind_eq_some_iff.mp hE
      refine y_cVi0 (st := []) (as := [.int (-2 : Int32)]) (c_X7_refuse eq6) lk_X7_77 in_X7_refuse se_X7_refuse rfl eu5 ⟨Nat.le_of_ble_eq_true rfl, Nat.le_of_ble_eq_true rfl⟩ (Nat.le_of_ble_eq_true rfl) dX7_copy_27 ⟨Nat.le_refl _, Nat.le_refl _⟩ rfl ?_
      obtain ⟨rfl, rfl⟩ := x_inj2 hE
      exact y_ret dX7_copy_30 (Nat.le_refl _) (Nat.le_refl _) ⟨_, rfl, rfl⟩
    · rw [if_neg hc85] at hE
      refine y_aload_n dX7_copy_31 0 rfl ?_
      obtain ⟨a7, ea7, hE⟩ := Option.bind_eq_some_iff.mp hE
      refine y_getR fl_X7_7 ea7 dX7_copy_32 ?_
      refine y_iload_n dX7_copy_35 1 rfl ?_
      obtain ⟨x8, ex8, hE⟩ := Option.bind_eq_some_iff.mp hE
      refine y_iald ex8 dX7_copy_36 ?_
      refine y_iconst (v := (2 : Int32)) dX7_copy_37 (by decide) ?_
      refine y_icmp_eq (tgt := 86) dX7_copy_38 (by decide) (fun hc84 => ?_) (fun hc84 => ?_)
      · rw [if_pos hc84] at hE
        refine y_aload_n dX7_copy_86 0 rfl ?_
        refine y_bipush (v := (-3 : Int32)) dX7_copy_87 (by decide) ?_
        obtain ⟨u9, eu9, hE⟩ := Option.bind_eq_some_iff.mp hE
        obtain ⟨q10, eq10, hE⟩ := Option.bind_eq_some_iff.mp hE
        refine y_cVi0 (st := []) (as := [.int (-3 : Int32)]) (c_X7_refuse eq10) lk_X7_77 in_X7_refuse se_X7_refuse rfl eu9 ⟨Nat.le_of_ble_eq_true rfl, Nat.le_of_ble_eq_true rfl⟩ (Nat.le_of_ble_eq_true rfl) dX7_copy_89 ⟨Nat.le_refl _, Nat.le_refl _⟩ rfl ?_
        obtain ⟨rfl, rfl⟩ := x_inj2 hE
        exact y_ret dX7_copy_92 (Nat.le_refl _) (Nat.le_refl _) ⟨_, rfl, rfl⟩
      · rw [if_neg hc84] at hE
        refine y_aload_n dX7_copy_41 0 rfl ?_
        obtain ⟨a11, ea11, hE⟩ := Option.bind_eq_some_iff.mp hE
        refine y_getR fl_X7_7 ea11 dX7_copy_42 ?_
        refine y_iload_n dX7_copy_45 2 rfl ?_
        obtain ⟨x12, ex12, hE⟩ := Option.bind_eq_some_iff.mp hE
        refine y_iald ex12 dX7_copy_46 ?_
        refine y_iconst (v := (2 : Int32)) dX7_copy_47 (by decide) ?_
        refine y_icmp_eq (tgt := 86) dX7_copy_48 (by decide) (fun hc83 => ?_) (fun hc83 => ?_)
        · rw [if_pos hc83] at hE
          refine y_aload_n dX7_copy_86 0 rfl ?_
          refine y_bipush (v := (-3 : Int32)) dX7_copy_87 (by decide) ?_
          obtain ⟨u13, eu13, hE⟩ := Option.bind_eq_some_iff.mp hE
          obtain ⟨q14, eq14, hE⟩ := Option.bind_eq_some_iff.mp hE
          refine y_cVi0 (st := []) (as := [.int (-3 : Int32)]) (c_X7_refuse eq14) lk_X7_77 in_X7_refuse se_X7_refuse rfl eu13 ⟨Nat.le_of_ble_eq_true rfl, Nat.le_of_ble_eq_true rfl⟩ (Nat.le_of_ble_eq_true rfl) dX7_copy_89 ⟨Nat.le_refl _, Nat.le_refl _⟩ rfl ?_
          obtain ⟨rfl, rfl⟩ := x_inj2 hE
          exact y_ret dX7_copy_92 (Nat.le_refl _) (Nat.le_refl _) ⟨_, rfl, rfl⟩
        · rw [if_neg hc83] at hE
          refine y_aload_n dX7_copy_51 0 rfl ?_
          obtain ⟨a15, ea15, hE⟩ := Option.bind_eq_some_iff.mp hE
          refine y_getR fl_X7_7 ea15 dX7_copy_52 ?_
          refine y_iload_n dX7_copy_55 1 rfl ?_
          obtain ⟨x16, ex16, hE⟩ := Option.bind_eq_some_iff.mp hE
          refine y_iald ex16 dX7_copy_56 ?_
          refine y_iconst (v := (1 : Int32)) dX7_copy_57 (by decide) ?_
          refine y_icmp_ne (tgt := 93) dX7_copy_58 (by decide) (fun hc82 => ?_) (fun hc82 => ?_)
          · rw [if_pos hc82] at hE
            refine y_aload_n dX7_copy_61 0 rfl ?_
            obtain ⟨a17, ea17, hE⟩ := Option.bind_eq_some_iff.mp hE
            refine y_getR fl_X7_7 ea17 dX7_copy_62 ?_
            refine y_iload_n dX7_copy_65 2 rfl ?_
            obtain ⟨x18, ex18, hE⟩ := Option.bind_eq_some_iff.mp hE
            refine y_iald ex18 dX7_copy_66 ?_
            refine y_iconst (v := (1 : Int32)) dX7_copy_67 (by decide) ?_
            refine y_icmp_ne (tgt := 93) dX7_copy_68 (by decide) (fun hc81 => ?_) (fun hc81 => ?_)
            · rw [if_pos hc81] at hE
              refine y_aload_n dX7_copy_71 0 rfl ?_
              obtain ⟨a19, ea19, hE⟩ := Option.bind_eq_some_iff.mp hE
              refine y_getR fl_X7_13 ea19 dX7_copy_72 ?_
              refine y_iload_n dX7_copy_75 1 rfl ?_
              obtain ⟨x20, ex20, hE⟩ := Option.bind_eq_some_iff.mp hE
              refine y_iald ex20 dX7_copy_76 ?_
              refine y_aload_n dX7_copy_77 0 rfl ?_
              obtain ⟨a21, ea21, hE⟩ := Option.bind_eq_some_iff.mp hE
              refine y_getR fl_X7_13 ea21 dX7_copy_78 ?_
              refine y_iload_n dX7_copy_81 2 rfl ?_
              obtain ⟨x22, ex22, hE⟩ := Option.bind_eq_some_iff.mp hE
              refine y_iald ex22 dX7_copy_82 ?_
              refine y_icmp_eq (tgt := 93) dX7_copy_83 (by decide) (fun hc80 => ?_) (fun hc80 => ?_)
              · rw [if_pos hc80] at hE
                refine y_pick [0, 1, 2, 3, 4, 5] rfl ?_
                exact j_X7_copy_93 hE ⟨Nat.le_refl _, Nat.le_refl _⟩
              · rw [if_neg hc80] at hE
                refine y_aload_n dX7_copy_86 0 rfl ?_
                refine y_bipush (v := (-3 : Int32)) dX7_copy_87 (by decide) ?_
                obtain ⟨u78, eu78, hE⟩ := Option.bind_eq_some_iff.mp hE
                obtain ⟨q79, eq79, hE⟩ := Option.bind_eq_some_iff.mp hE
                refine y_cVi0 (st := []) (as := [.int (-3 : Int32)]) (c_X7_refuse eq79) lk_X7_77 in_X7_refuse se_X7_refuse rfl eu78 ⟨Nat.le_of_ble_eq_true rfl, Nat.le_of_ble_eq_true rfl⟩ (Nat.le_of_ble_eq_true rfl) dX7_copy_89 ⟨Nat.le_refl _, Nat.le_refl _⟩ rfl ?_
                obtain ⟨rfl, rfl⟩ := x_inj2 hE
                exact y_ret dX7_copy_92 (Nat.le_refl _) (Nat.le_refl _) ⟨_, rfl, rfl⟩
            · rw [if_neg hc81] at hE
              refine y_pick [0, 1, 2, 3, 4, 5] rfl ?_
              exact j_X7_copy_93 hE ⟨Nat.le_refl _, Nat.le_refl _⟩
          · rw [if_neg hc82] at hE
            refine y_pick [0, 1, 2, 3, 4, 5] rfl ?_
            exact j_X7_copy_93 hE ⟨Nat.le_refl _, Nat.le_refl _⟩
def f_X7_element (h : xH) (a0 : Nat) (p1 : Int32) (p2 : Int32) : Option (Int64) :=
  (f_X7_in h p1.toInt64 (0 : Int64) (7 : Int64)).bind fun q1 =>
  if q1 = 0 then
    some (0 : Int64)
  else
    (x_gR h a0 7 0).bind fun a2 =>
    (x_ld h a2 p1).bind fun x3 =>
    if x3 = (1 : Int32) then
      (x_gR h a0 7 2).bind fun a4 =>
      (x_ld h a4 p1).bind fun x5 =>
      (f_X7_in h p2.toInt64 (0 : Int64) ((x5 - (1 : Int32)).toInt64)).bind fun q6 =>
      if q6 = 0 then
        some (0 : Int64)
      else
        (x_gR h a0 7 3).bind fun a7 =>
        (x_ldQ h a7 p1).bind fun a8 =>
        (x_ldL h a8 p2).bind fun x9 =>
        some x9
    else
      some (0 : Int64)
set_option maxRecDepth 100000 in
set_option maxHeartbeats 4000000 in
theorem c_X7_element {h : xH} {a0 : Nat} {p1 : Int32} {p2 : Int32} {r9 : Int64} (hE : f_X7_element h a0 p1 p2 = some r9) : Ctr M_X7_element [.ref a0, .int p1, .int p2] h (some (.long r9)) h 0 0 := by
  refine ctr_of (by decide) (fun _ _ => Nat.le_of_ble_eq_true rfl) (fun S => ?_)
  show Y S M_X7_element h (some (.long r9)) h 0 0 0 [(0, .ref a0), (1, .int p1), (2, .int p2)] [] h 0 0
  unfold f_X7_element at hE
  refine y_iload_n dX7_element_0 1 rfl ?_
  refine y_i2l dX7_element_1 ?_
  refine y_lconst (v := (0 : Int64)) dX7_element_2 (by decide) ?_
  refine y_ldc2 (v := (7 : Int64)) (x_wt (tb 1051 (by decide +kernel)) rfl) dX7_element_3 ?_
  obtain ⟨q1, eq1, hE⟩ := Option.bind_eq_some_iff.mp hE
  refine y_cSi0 (st := []) (as := [.long p1.toInt64, .long (0 : Int64), .long (7 : Int64)]) (c_X7_in eq1) lk_X7_64 st_X7_in ⟨Nat.le_of_ble_eq_true rfl, Nat.le_of_ble_eq_true rfl⟩ (Nat.le_of_ble_eq_true rfl) dX7_element_6 ⟨Nat.le_refl _, Nat.le_refl _⟩ rfl ?_
  refine y_if_eq (tgt := 51) dX7_element_9 (by decide) (fun hc12 => ?_) (fun hc12 => ?_)
  · rw [if_pos hc12] at hE
    refine y_lconst (v := (0 : Int64)) dX7_element_51 (by decide) ?_
    obtain rfl := Option.some.inj hE
    exact y_ret dX7_element_52 (Nat.le_refl _) (Nat.le_refl _) rfl
  · rw [if_neg hc12] at hE
    refine y_aload_n dX7_element_12 0 rfl ?_
    obtain ⟨a2, ea2, hE⟩ := Option.bind_eq_some_iff.mp hE
    refine y_getR fl_X7_7 ea2 dX7_element_13 ?_
    refine y_iload_n dX7_element_16 1 rfl ?_
    obtain ⟨x3, ex3, hE⟩ := Option.bind_eq_some_iff.mp hE
    refine y_iald ex3 dX7_element_17 ?_
    refine y_iconst (v := (1 : Int32)) dX7_element_18 (by decide) ?_
    refine y_icmp_ne (tgt := 51) dX7_element_19 (by decide) (fun hc11 => ?_) (fun hc11 => ?_)
    · rw [if_pos hc11] at hE
      refine y_iload_n dX7_element_22 2 rfl ?_
      refine y_i2l dX7_element_23 ?_
      refine y_lconst (v := (0 : Int64)) dX7_element_24 (by decide) ?_
      refine y_aload_n dX7_element_25 0 rfl ?_
      obtain ⟨a4, ea4, hE⟩ := Option.bind_eq_some_iff.mp hE
      refine y_getR fl_X7_16 ea4 dX7_element_26 ?_
      refine y_iload_n dX7_element_29 1 rfl ?_
      obtain ⟨x5, ex5, hE⟩ := Option.bind_eq_some_iff.mp hE
      refine y_iald ex5 dX7_element_30 ?_
      refine y_iconst (v := (1 : Int32)) dX7_element_31 (by decide) ?_
      refine y_isub dX7_element_32 ?_
      refine y_i2l dX7_element_33 ?_
      obtain ⟨q6, eq6, hE⟩ := Option.bind_eq_some_iff.mp hE
      refine y_cSi0 (st := []) (as := [.long p2.toInt64, .long (0 : Int64), .long ((x5 - (1 : Int32)).toInt64)]) (c_X7_in eq6) lk_X7_64 st_X7_in ⟨Nat.le_of_ble_eq_true rfl, Nat.le_of_ble_eq_true rfl⟩ (Nat.le_of_ble_eq_true rfl) dX7_element_34 ⟨Nat.le_refl _, Nat.le_refl _⟩ rfl ?_
      refine y_if_eq (tgt := 51) dX7_element_37 (by decide) (fun hc10 => ?_) (fun hc10 => ?_)
      · rw [if_pos hc10] at hE
        refine y_lconst (v := (0 : Int64)) dX7_element_51 (by decide) ?_
        obtain rfl := Option.some.inj hE
        exact y_ret dX7_element_52 (Nat.le_refl _) (Nat.le_refl _) rfl
      · rw [if_neg hc10] at hE
        refine y_aload_n dX7_element_40 0 rfl ?_
        obtain ⟨a7, ea7, hE⟩ := Option.bind_eq_some_iff.mp hE
        refine y_getR fl_X7_21 ea7 dX7_element_41 ?_
        refine y_iload_n dX7_element_44 1 rfl ?_
        obtain ⟨a8, ea8, hE⟩ := Option.bind_eq_some_iff.mp hE
        refine y_aald ea8 dX7_element_45 ?_
        refine y_iload_n dX7_element_46 2 rfl ?_
        obtain ⟨x9, ex9, hE⟩ := Option.bind_eq_some_iff.mp hE
        refine y_lald ex9 dX7_element_47 ?_
        refine y_goto (tgt := 52) dX7_element_48 (by decide) ?_
        obtain rfl := Option.some.inj hE
        exact y_ret dX7_element_52 (Nat.le_refl _) (Nat.le_refl _) rfl
    · rw [if_neg hc11] at hE
      refine y_lconst (v := (0 : Int64)) dX7_element_51 (by decide) ?_
      obtain rfl := Option.some.inj hE
      exact y_ret dX7_element_52 (Nat.le_refl _) (Nat.le_refl _) rfl
def f_X7_holds (h : xH) (a0 : Nat) (p1 : Int32) : Option (Int32) :=
  (f_X7_in h p1.toInt64 (0 : Int64) (7 : Int64)).bind fun q1 =>
  if q1 = 0 then
    some (-1 : Int32)
  else
    (x_gR h a0 7 0).bind fun a2 =>
    (x_ld h a2 p1).bind fun x3 =>
    if x3 = 0 then
      some (-1 : Int32)
    else
      (x_gR h a0 7 0).bind fun a4 =>
      (x_ld h a4 p1).bind fun x5 =>
      if x5 = (1 : Int32) then
        (x_gR h a0 7 1).bind fun a6 =>
        (x_ld h a6 p1).bind fun x7 =>
        some x7
      else
        (x_gR h a0 7 5).bind fun a8 =>
        (x_ld h a8 p1).bind fun x9 =>
        some ((10 : Int32) + x9)
set_option maxRecDepth 100000 in
set_option maxHeartbeats 4000000 in
theorem c_X7_holds {h : xH} {a0 : Nat} {p1 : Int32} {r9 : Int32} (hE : f_X7_holds h a0 p1 = some r9) : Ctr M_X7_holds [.ref a0, .int p1] h (some (.int r9)) h 0 0 := by
  refine ctr_of (by decide) (fun _ _ => Nat.le_of_ble_eq_true rfl) (fun S => ?_)
  show Y S M_X7_holds h (some (.int r9)) h 0 0 0 [(0, .ref a0), (1, .int p1)] [] h 0 0
  unfold f_X7_holds at hE
  refine y_iload_n dX7_holds_0 1 rfl ?_
  refine y_i2l dX7_holds_1 ?_
  refine y_lconst (v := (0 : Int64)) dX7_holds_2 (by decide) ?_
  refine y_ldc2 (v := (7 : Int64)) (x_wt (tb 1051 (by decide +kernel)) rfl) dX7_holds_3 ?_
  obtain ⟨q1, eq1, hE⟩ := Option.bind_eq_some_iff.mp hE
  refine y_cSi0 (st := []) (as := [.long p1.toInt64, .long (0 : Int64), .long (7 : Int64)]) (c_X7_in eq1) lk_X7_64 st_X7_in ⟨Nat.le_of_ble_eq_true rfl, Nat.le_of_ble_eq_true rfl⟩ (Nat.le_of_ble_eq_true rfl) dX7_holds_6 ⟨Nat.le_refl _, Nat.le_refl _⟩ rfl ?_
  refine y_if_eq (tgt := 21) dX7_holds_9 (by decide) (fun hc12 => ?_) (fun hc12 => ?_)
  · rw [if_pos hc12] at hE
    refine y_iconst (v := (-1 : Int32)) dX7_holds_21 (by decide) ?_
    obtain rfl := Option.some.inj hE
    exact y_ret dX7_holds_22 (Nat.le_refl _) (Nat.le_refl _) ⟨_, rfl, rfl⟩
  · rw [if_neg hc12] at hE
    refine y_aload_n dX7_holds_12 0 rfl ?_
    obtain ⟨a2, ea2, hE⟩ := Option.bind_eq_some_iff.mp hE
    refine y_getR fl_X7_7 ea2 dX7_holds_13 ?_
    refine y_iload_n dX7_holds_16 1 rfl ?_
    obtain ⟨x3, ex3, hE⟩ := Option.bind_eq_some_iff.mp hE
    refine y_iald ex3 dX7_holds_17 ?_
    refine y_if_ne (tgt := 23) dX7_holds_18 (by decide) (fun hc11 => ?_) (fun hc11 => ?_)
    · rw [if_pos hc11] at hE
      refine y_iconst (v := (-1 : Int32)) dX7_holds_21 (by decide) ?_
      obtain rfl := Option.some.inj hE
      exact y_ret dX7_holds_22 (Nat.le_refl _) (Nat.le_refl _) ⟨_, rfl, rfl⟩
    · rw [if_neg hc11] at hE
      refine y_aload_n dX7_holds_23 0 rfl ?_
      obtain ⟨a4, ea4, hE⟩ := Option.bind_eq_some_iff.mp hE
      refine y_getR fl_X7_7 ea4 dX7_holds_24 ?_
      refine y_iload_n dX7_holds_27 1 rfl ?_
      obtain ⟨x5, ex5, hE⟩ := Option.bind_eq_some_iff.mp hE
      refine y_iald ex5 dX7_holds_28 ?_
      refine y_iconst (v := (1 : Int32)) dX7_holds_29 (by decide) ?_
      refine y_icmp_ne (tgt := 42) dX7_holds_30 (by decide) (fun hc10 => ?_) (fun hc10 => ?_)
      · rw [if_pos hc10] at hE
        refine y_aload_n dX7_holds_33 0 rfl ?_
        obtain ⟨a6, ea6, hE⟩ := Option.bind_eq_some_iff.mp hE
        refine y_getR fl_X7_13 ea6 dX7_holds_34 ?_
        refine y_iload_n dX7_holds_37 1 rfl ?_
        obtain ⟨x7, ex7, hE⟩ := Option.bind_eq_some_iff.mp hE
        refine y_iald ex7 dX7_holds_38 ?_
        refine y_goto (tgt := 51) dX7_holds_39 (by decide) ?_
        obtain rfl := Option.some.inj hE
        exact y_ret dX7_holds_51 (Nat.le_refl _) (Nat.le_refl _) ⟨_, rfl, rfl⟩
      · rw [if_neg hc10] at hE
        refine y_bipush (v := (10 : Int32)) dX7_holds_42 (by decide) ?_
        refine y_aload_n dX7_holds_44 0 rfl ?_
        obtain ⟨a8, ea8, hE⟩ := Option.bind_eq_some_iff.mp hE
        refine y_getR fl_X7_28 ea8 dX7_holds_45 ?_
        refine y_iload_n dX7_holds_48 1 rfl ?_
        obtain ⟨x9, ex9, hE⟩ := Option.bind_eq_some_iff.mp hE
        refine y_iald ex9 dX7_holds_49 ?_
        refine y_iadd dX7_holds_50 ?_
        obtain rfl := Option.some.inj hE
        exact y_ret dX7_holds_51 (Nat.le_refl _) (Nat.le_refl _) ⟨_, rfl, rfl⟩
def f_X7_show_J32 (h : xH) (v0 : Nat) (v1 : Int32) (v2 : Int32) : Option (Int32 × xH) :=
  (x_gR h v0 7 0).bind fun a4 =>
  (
    if v2 = (-1 : Int32) then
      some (0 : Int32)
    else
      some (2 : Int32)
  ).bind fun q5 =>
  (x_st h a4 v1 q5).bind fun h7 =>
  (x_gR h7 v0 7 5).bind fun a8 =>
  (x_st h7 a8 v1 v2).bind fun h9 =>
  some ((1 : Int32), h9)
set_option maxRecDepth 100000 in
set_option maxHeartbeats 4000000 in
theorem j_X7_show_32 {S : Nat × (Nat → Int32)} {h0 : xH} {mc ms cells slots : Nat} {h : xH} {v0 : Nat} {v1 : Int32} {v2 : Int32} {r9 : Int32} {hz : xH} (hE : f_X7_show_J32 h v0 v1 v2 = some (r9, hz)) (hm : cells ≤ mc ∧ slots ≤ ms) : Y S M_X7_show h0 (some (.int r9)) hz mc ms 32 [(0, .ref v0), (1, .int v1), (2, .int v2)] [] h cells slots := by
  unfold f_X7_show_J32 at hE
  refine y_aload_n dX7_show_32 0 rfl ?_
  obtain ⟨a4, ea4, hE⟩ := Option.bind_eq_some_iff.mp hE
  refine y_getR fl_X7_7 ea4 dX7_show_33 ?_
  refine y_iload_n dX7_show_36 1 rfl ?_
  refine y_iload_n dX7_show_37 2 rfl ?_
  refine y_iconst (v := (-1 : Int32)) dX7_show_38 (by decide) ?_
  obtain ⟨q5, eJ, hE⟩ := Option.bind_eq_some_iff.mp hE
  have hJ : Y S M_X7_show h0 (some (.int r9)) hz mc ms 47 [(0, .ref v0), (1, .int v1), (2, .int v2)] [.int q5, .int v1, .ref a4] h cells slots := by
    obtain ⟨h7, eh7, hE⟩ := Option.bind_eq_some_iff.mp hE
    refine y_iast eh7 dX7_show_47 ?_
    refine y_aload_n dX7_show_48 0 rfl ?_
    obtain ⟨a8, ea8, hE⟩ := Option.bind_eq_some_iff.mp hE
    refine y_getR fl_X7_28 ea8 dX7_show_49 ?_
    refine y_iload_n dX7_show_52 1 rfl ?_
    refine y_iload_n dX7_show_53 2 rfl ?_
    obtain ⟨h9, eh9, hE⟩ := Option.bind_eq_some_iff.mp hE
    refine y_iast eh9 dX7_show_54 ?_
    refine y_iconst (v := (1 : Int32)) dX7_show_55 (by decide) ?_
    obtain ⟨rfl, rfl⟩ := x_inj2 hE
    exact y_ret dX7_show_56 hm.1 hm.2 ⟨_, rfl, rfl⟩
  clear hE
  have hE := eJ
  clear eJ
  refine y_icmp_ne (tgt := 46) dX7_show_39 (by decide) (fun hc6 => ?_) (fun hc6 => ?_)
  · rw [if_pos hc6] at hE
    refine y_iconst (v := (0 : Int32)) dX7_show_42 (by decide) ?_
    refine y_goto (tgt := 47) dX7_show_43 (by decide) ?_
    obtain rfl := Option.some.inj hE
    exact y_pick [0, 1, 2] rfl hJ
  · rw [if_neg hc6] at hE
    refine y_iconst (v := (2 : Int32)) dX7_show_46 (by decide) ?_
    obtain rfl := Option.some.inj hE
    exact y_pick [0, 1, 2] rfl hJ
def f_X7_show (h : xH) (a0 : Nat) (p1 : Int32) (p2 : Int32) : Option (Int32 × xH) :=
  (f_X7_in h p1.toInt64 (0 : Int64) (7 : Int64)).bind fun q1 =>
  if q1 = 0 then
    (x_ob h a0 7).bind fun u2 =>
    (f_X7_refuse h a0 (-2 : Int32)).bind fun q3 =>
    some (q3.1, q3.2)
  else
    if p2 = (-1 : Int32) then
      f_X7_show_J32 h a0 p1 p2
    else
      (x_ob h a0 7).bind fun u10 =>
      (f_X7_isDoor h a0 p2).bind fun q11 =>
      if q11 = 0 then
        (x_ob h a0 7).bind fun u12 =>
        (f_X7_refuse h a0 (-2 : Int32)).bind fun q13 =>
        some (q13.1, q13.2)
      else
        f_X7_show_J32 h a0 p1 p2
set_option maxRecDepth 100000 in
set_option maxHeartbeats 4000000 in
theorem c_X7_show {h : xH} {a0 : Nat} {p1 : Int32} {p2 : Int32} {r9 : Int32} {hz : xH} (hE : f_X7_show h a0 p1 p2 = some (r9, hz)) : Ctr M_X7_show [.ref a0, .int p1, .int p2] h (some (.int r9)) hz 0 0 := by
  refine ctr_of (by decide) (fun _ _ => Nat.le_of_ble_eq_true rfl) (fun S => ?_)
  show Y S M_X7_show h (some (.int r9)) hz 0 0 0 [(0, .ref a0), (1, .int p1), (2, .int p2)] [] h 0 0
  unfold f_X7_show at hE
  refine y_iload_n dX7_show_0 1 rfl ?_
  refine y_i2l dX7_show_1 ?_
  refine y_lconst (v := (0 : Int64)) dX7_show_2 (by decide) ?_
  refine y_ldc2 (v := (7 : Int64)) (x_wt (tb 1051 (by decide +kernel)) rfl) dX7_show_3 ?_
  obtain ⟨q1, eq1, hE⟩ := Option.bind_eq_some_iff.mp hE
  refine y_cSi0 (st := []) (as := [.long p1.toInt64, .long (0 : Int64), .long (7 : Int64)]) (c_X7_in eq1) lk_X7_64 st_X7_in ⟨Nat.le_of_ble_eq_true rfl, Nat.le_of_ble_eq_true rfl⟩ (Nat.le_of_ble_eq_true rfl) dX7_show_6 ⟨Nat.le_refl _, Nat.le_refl _⟩ rfl ?_
  refine y_if_eq (tgt := 25) dX7_show_9 (by decide) (fun hc16 => ?_) (fun hc16 => ?_)
  · rw [if_pos hc16] at hE
    refine y_aload_n dX7_show_25 0 rfl ?_
    refine y_bipush (v := (-2 : Int32)) dX7_show_26 (by decide) ?_
    obtain ⟨u2, eu2, hE⟩ := Option.bind_eq_some_iff.mp hE
    obtain ⟨q3, eq3, hE⟩ := Option.bind_eq_some_iff.mp hE
    refine y_cVi0 (st := []) (as := [.int (-2 : Int32)]) (c_X7_refuse eq3) lk_X7_77 in_X7_refuse se_X7_refuse rfl eu2 ⟨Nat.le_of_ble_eq_true rfl, Nat.le_of_ble_eq_true rfl⟩ (Nat.le_of_ble_eq_true rfl) dX7_show_28 ⟨Nat.le_refl _, Nat.le_refl _⟩ rfl ?_
    obtain ⟨rfl, rfl⟩ := x_inj2 hE
    exact y_ret dX7_show_31 (Nat.le_refl _) (Nat.le_refl _) ⟨_, rfl, rfl⟩
  · rw [if_neg hc16] at hE
    refine y_iload_n dX7_show_12 2 rfl ?_
    refine y_iconst (v := (-1 : Int32)) dX7_show_13 (by decide) ?_
    refine y_icmp_eq (tgt := 32) dX7_show_14 (by decide) (fun hc15 => ?_) (fun hc15 => ?_)
    · rw [if_pos hc15] at hE
      refine y_pick [0, 1, 2] rfl ?_
      exact j_X7_show_32 hE ⟨Nat.le_refl _, Nat.le_refl _⟩
    · rw [if_neg hc15] at hE
      refine y_aload_n dX7_show_17 0 rfl ?_
      refine y_iload_n dX7_show_18 2 rfl ?_
      obtain ⟨u10, eu10, hE⟩ := Option.bind_eq_some_iff.mp hE
      obtain ⟨q11, eq11, hE⟩ := Option.bind_eq_some_iff.mp hE
      refine y_cVi0 (st := []) (as := [.int p2]) (c_X7_isDoor eq11) lk_X7_88 in_X7_isDoor se_X7_isDoor rfl eu10 ⟨Nat.le_of_ble_eq_true rfl, Nat.le_of_ble_eq_true rfl⟩ (Nat.le_of_ble_eq_true rfl) dX7_show_19 ⟨Nat.le_refl _, Nat.le_refl _⟩ rfl ?_
      refine y_if_ne (tgt := 32) dX7_show_22 (by decide) (fun hc14 => ?_) (fun hc14 => ?_)
      · rw [if_pos hc14] at hE
        refine y_aload_n dX7_show_25 0 rfl ?_
        refine y_bipush (v := (-2 : Int32)) dX7_show_26 (by decide) ?_
        obtain ⟨u12, eu12, hE⟩ := Option.bind_eq_some_iff.mp hE
        obtain ⟨q13, eq13, hE⟩ := Option.bind_eq_some_iff.mp hE
        refine y_cVi0 (st := []) (as := [.int (-2 : Int32)]) (c_X7_refuse eq13) lk_X7_77 in_X7_refuse se_X7_refuse rfl eu12 ⟨Nat.le_of_ble_eq_true rfl, Nat.le_of_ble_eq_true rfl⟩ (Nat.le_of_ble_eq_true rfl) dX7_show_28 ⟨Nat.le_refl _, Nat.le_refl _⟩ rfl ?_
        obtain ⟨rfl, rfl⟩ := x_inj2 hE
        exact y_ret dX7_show_31 (Nat.le_refl _) (Nat.le_refl _) ⟨_, rfl, rfl⟩
      · rw [if_neg hc14] at hE
        refine y_pick [0, 1, 2] rfl ?_
        exact j_X7_show_32 hE ⟨Nat.le_refl _, Nat.le_refl _⟩
def f_X7_weightOf (h : xH) (a0 : Nat) (p1 : Int32) : Option (Int32) :=
  (x_gR h a0 7 10).bind fun a1 =>
  (x_ldQ h a1 p1).bind fun a2 =>
  (x_ld h a2 (0 : Int32)).bind fun x3 =>
  if x3 = (2 : Int32) then
    some (2 : Int32)
  else
    if x3 = (5 : Int32) then
      some (2 : Int32)
    else
      if x3 = (4 : Int32) then
        some (0 : Int32)
      else
        some (1 : Int32)
set_option maxRecDepth 100000 in
set_option maxHeartbeats 4000000 in
theorem c_X7_weightOf {h : xH} {a0 : Nat} {p1 : Int32} {r9 : Int32} (hE : f_X7_weightOf h a0 p1 = some r9) : Ctr M_X7_weightOf [.ref a0, .int p1] h (some (.int r9)) h 0 0 := by
  refine ctr_of (by decide) (fun _ _ => Nat.le_of_ble_eq_true rfl) (fun S => ?_)
  show Y S M_X7_weightOf h (some (.int r9)) h 0 0 0 [(0, .ref a0), (1, .int p1)] [] h 0 0
  unfold f_X7_weightOf at hE
  refine y_aload_n dX7_weightOf_0 0 rfl ?_
  obtain ⟨a1, ea1, hE⟩ := Option.bind_eq_some_iff.mp hE
  refine y_getR fl_X7_39 ea1 dX7_weightOf_1 ?_
  refine y_iload_n dX7_weightOf_4 1 rfl ?_
  obtain ⟨a2, ea2, hE⟩ := Option.bind_eq_some_iff.mp hE
  refine y_aald ea2 dX7_weightOf_5 ?_
  refine y_iconst (v := (0 : Int32)) dX7_weightOf_6 (by decide) ?_
  obtain ⟨x3, ex3, hE⟩ := Option.bind_eq_some_iff.mp hE
  refine y_iald ex3 dX7_weightOf_7 ?_
  refine y_istore_n (ls' := [(2, .int x3), (0, .ref a0), (1, .int p1)]) dX7_weightOf_8 (by decide) rfl rfl ?_
  refine y_iload_n dX7_weightOf_9 0 rfl ?_
  refine y_iconst (v := (2 : Int32)) dX7_weightOf_10 (by decide) ?_
  refine y_icmp_eq (tgt := 19) dX7_weightOf_11 (by decide) (fun hc6 => ?_) (fun hc6 => ?_)
  · rw [if_pos hc6] at hE
    refine y_iconst (v := (2 : Int32)) dX7_weightOf_19 (by decide) ?_
    refine y_goto (tgt := 33) dX7_weightOf_20 (by decide) ?_
    obtain rfl := Option.some.inj hE
    exact y_ret dX7_weightOf_33 (Nat.le_refl _) (Nat.le_refl _) ⟨_, rfl, rfl⟩
  · rw [if_neg hc6] at hE
    refine y_iload_n dX7_weightOf_14 0 rfl ?_
    refine y_iconst (v := (5 : Int32)) dX7_weightOf_15 (by decide) ?_
    refine y_icmp_ne (tgt := 23) dX7_weightOf_16 (by decide) (fun hc5 => ?_) (fun hc5 => ?_)
    · rw [if_pos hc5] at hE
      refine y_iconst (v := (2 : Int32)) dX7_weightOf_19 (by decide) ?_
      refine y_goto (tgt := 33) dX7_weightOf_20 (by decide) ?_
      obtain rfl := Option.some.inj hE
      exact y_ret dX7_weightOf_33 (Nat.le_refl _) (Nat.le_refl _) ⟨_, rfl, rfl⟩
    · rw [if_neg hc5] at hE
      refine y_iload_n dX7_weightOf_23 0 rfl ?_
      refine y_iconst (v := (4 : Int32)) dX7_weightOf_24 (by decide) ?_
      refine y_icmp_ne (tgt := 32) dX7_weightOf_25 (by decide) (fun hc4 => ?_) (fun hc4 => ?_)
      · rw [if_pos hc4] at hE
        refine y_iconst (v := (0 : Int32)) dX7_weightOf_28 (by decide) ?_
        refine y_goto (tgt := 33) dX7_weightOf_29 (by decide) ?_
        obtain rfl := Option.some.inj hE
        exact y_ret dX7_weightOf_33 (Nat.le_refl _) (Nat.le_refl _) ⟨_, rfl, rfl⟩
      · rw [if_neg hc4] at hE
        refine y_iconst (v := (1 : Int32)) dX7_weightOf_32 (by decide) ?_
        obtain rfl := Option.some.inj hE
        exact y_ret dX7_weightOf_33 (Nat.le_refl _) (Nat.le_refl _) ⟨_, rfl, rfl⟩
